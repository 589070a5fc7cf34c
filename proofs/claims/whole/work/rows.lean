section
-- ===== PART A: goes FIRST, ahead of the names: the tables' words, and 'selects' of the private methods out of them =====
theorem q1_in : ∀ w ∈ tables_1_1, w ∈ tables_1 := fun _ h => List.mem_append_left _ h
theorem q2_in : ∀ w ∈ tables_1_2, w ∈ tables_1 := fun _ h => List.mem_append_right _ (List.mem_append_left _ h)
theorem q3_in : ∀ w ∈ tables_1_3, w ∈ tables_1 := fun _ h => List.mem_append_right _ (List.mem_append_right _ (List.mem_append_left _ h))
theorem q4_in : ∀ w ∈ tables_1_4, w ∈ tables_1 := fun _ h => List.mem_append_right _ (List.mem_append_right _ (List.mem_append_right _ (List.mem_append_left _ h)))
theorem q5_in : ∀ w ∈ tables_1_5, w ∈ tables_1 := fun _ h => List.mem_append_right _ (List.mem_append_right _ (List.mem_append_right _ (List.mem_append_right _ h)))
/-- a private method of a class that the tables say can be made, by its rows of tables_1 -/
def lw_okq (q : MethodName × Nat) : Prop := (q.1.cls ≠ "java/lang/invoke/MethodHandle" ∧ q.1.cls ≠ "java/lang/invoke/VarHandle") ∧ Cond.instantiable q.1.cls q.2 ∈ tables_1 ∧ Cond.privateMethod q.1 ∈ tables_1 ∧ Cond.instanceMethod q.1 ∈ tables_1
theorem lw_p0 : lw_okq (⟨"FlotsamWill$Sea", "empty", "()V"⟩, 7) := ⟨⟨by decide +kernel, by decide +kernel⟩, q1_in _ (List.mem_of_getElem? (i := 60) rfl), q1_in _ (List.mem_of_getElem? (i := 66) rfl), q1_in _ (List.mem_of_getElem? (i := 67) rfl)⟩
theorem lw_p1 : lw_okq (⟨"FlotsamWill$Tape", "add", "(I)Z"⟩, 6) := ⟨⟨by decide +kernel, by decide +kernel⟩, q1_in _ (List.mem_of_getElem? (i := 24) rfl), q2_in _ (List.mem_of_getElem? (i := 3) rfl), q2_in _ (List.mem_of_getElem? (i := 4) rfl)⟩
theorem lw_p2 : lw_okq (⟨"FlotsamWill$Reader", "readAll", "()I"⟩, 7) := ⟨⟨by decide +kernel, by decide +kernel⟩, q1_in _ (List.mem_of_getElem? (i := 54) rfl), q2_in _ (List.mem_of_getElem? (i := 15) rfl), q2_in _ (List.mem_of_getElem? (i := 16) rfl)⟩
theorem lw_p3 : lw_okq (⟨"FlotsamWill$Tape", "rewind", "()V"⟩, 6) := ⟨⟨by decide +kernel, by decide +kernel⟩, q1_in _ (List.mem_of_getElem? (i := 24) rfl), q2_in _ (List.mem_of_getElem? (i := 20) rfl), q2_in _ (List.mem_of_getElem? (i := 21) rfl)⟩
theorem lw_p4 : lw_okq (⟨"FlotsamWill$Tape", "take", "()V"⟩, 6) := ⟨⟨by decide +kernel, by decide +kernel⟩, q1_in _ (List.mem_of_getElem? (i := 24) rfl), q2_in _ (List.mem_of_getElem? (i := 24) rfl), q2_in _ (List.mem_of_getElem? (i := 25) rfl)⟩
theorem lw_p5 : lw_okq (⟨"FlotsamWill$Tape", "weighNumber", "()V"⟩, 6) := ⟨⟨by decide +kernel, by decide +kernel⟩, q1_in _ (List.mem_of_getElem? (i := 24) rfl), q2_in _ (List.mem_of_getElem? (i := 31) rfl), q2_in _ (List.mem_of_getElem? (i := 32) rfl)⟩
theorem lw_p6 : lw_okq (⟨"FlotsamWill$Reader", "readLine", "()V"⟩, 7) := ⟨⟨by decide +kernel, by decide +kernel⟩, q1_in _ (List.mem_of_getElem? (i := 54) rfl), q2_in _ (List.mem_of_getElem? (i := 35) rfl), q2_in _ (List.mem_of_getElem? (i := 36) rfl)⟩
theorem lw_p7 : lw_okq (⟨"FlotsamWill$Tape", "isWord", "(Ljava/lang/String;)Z"⟩, 6) := ⟨⟨by decide +kernel, by decide +kernel⟩, q1_in _ (List.mem_of_getElem? (i := 24) rfl), q2_in _ (List.mem_of_getElem? (i := 40) rfl), q2_in _ (List.mem_of_getElem? (i := 41) rfl)⟩
theorem lw_p8 : lw_okq (⟨"FlotsamWill$Reader", "readTub", "(I)V"⟩, 7) := ⟨⟨by decide +kernel, by decide +kernel⟩, q1_in _ (List.mem_of_getElem? (i := 54) rfl), q2_in _ (List.mem_of_getElem? (i := 92) rfl), q2_in _ (List.mem_of_getElem? (i := 93) rfl)⟩
theorem lw_p9 : lw_okq (⟨"FlotsamWill$Reader", "fail", "(I)V"⟩, 7) := ⟨⟨by decide +kernel, by decide +kernel⟩, q1_in _ (List.mem_of_getElem? (i := 54) rfl), q2_in _ (List.mem_of_getElem? (i := 96) rfl), q2_in _ (List.mem_of_getElem? (i := 97) rfl)⟩
theorem lw_p10 : lw_okq (⟨"FlotsamWill$Sea", "putTub", "(III)V"⟩, 7) := ⟨⟨by decide +kernel, by decide +kernel⟩, q1_in _ (List.mem_of_getElem? (i := 60) rfl), q2_in _ (List.mem_of_getElem? (i := 100) rfl), q2_in _ (List.mem_of_getElem? (i := 101) rfl)⟩
theorem lw_p11 : lw_okq (⟨"FlotsamWill$Reader", "readNumber", "(II)I"⟩, 7) := ⟨⟨by decide +kernel, by decide +kernel⟩, q1_in _ (List.mem_of_getElem? (i := 54) rfl), q2_in _ (List.mem_of_getElem? (i := 108) rfl), q2_in _ (List.mem_of_getElem? (i := 109) rfl)⟩
theorem lw_p12 : lw_okq (⟨"FlotsamWill$Reader", "failToken", "()V"⟩, 7) := ⟨⟨by decide +kernel, by decide +kernel⟩, q1_in _ (List.mem_of_getElem? (i := 54) rfl), q2_in _ (List.mem_of_getElem? (i := 112) rfl), q2_in _ (List.mem_of_getElem? (i := 113) rfl)⟩
theorem lw_p13 : lw_okq (⟨"FlotsamWill$Reader", "readHeir", "()V"⟩, 7) := ⟨⟨by decide +kernel, by decide +kernel⟩, q1_in _ (List.mem_of_getElem? (i := 54) rfl), q2_in _ (List.mem_of_getElem? (i := 121) rfl), q2_in _ (List.mem_of_getElem? (i := 122) rfl)⟩
theorem lw_p14 : lw_okq (⟨"FlotsamWill$Sea", "ofHeir", "(II)I"⟩, 7) := ⟨⟨by decide +kernel, by decide +kernel⟩, q1_in _ (List.mem_of_getElem? (i := 60) rfl), q2_in _ (List.mem_of_getElem? (i := 125) rfl), q2_in _ (List.mem_of_getElem? (i := 126) rfl)⟩
theorem lw_p15 : lw_okq (⟨"FlotsamWill$Sea", "putHeir", "(III)V"⟩, 7) := ⟨⟨by decide +kernel, by decide +kernel⟩, q1_in _ (List.mem_of_getElem? (i := 60) rfl), q2_in _ (List.mem_of_getElem? (i := 131) rfl), q2_in _ (List.mem_of_getElem? (i := 132) rfl)⟩
def lw_privs_1 : List (MethodName × Nat) := [(⟨"FlotsamWill$Sea", "empty", "()V"⟩, 7), (⟨"FlotsamWill$Tape", "add", "(I)Z"⟩, 6), (⟨"FlotsamWill$Reader", "readAll", "()I"⟩, 7), (⟨"FlotsamWill$Tape", "rewind", "()V"⟩, 6), (⟨"FlotsamWill$Tape", "take", "()V"⟩, 6), (⟨"FlotsamWill$Tape", "weighNumber", "()V"⟩, 6), (⟨"FlotsamWill$Reader", "readLine", "()V"⟩, 7), (⟨"FlotsamWill$Tape", "isWord", "(Ljava/lang/String;)Z"⟩, 6), (⟨"FlotsamWill$Reader", "readTub", "(I)V"⟩, 7), (⟨"FlotsamWill$Reader", "fail", "(I)V"⟩, 7), (⟨"FlotsamWill$Sea", "putTub", "(III)V"⟩, 7), (⟨"FlotsamWill$Reader", "readNumber", "(II)I"⟩, 7), (⟨"FlotsamWill$Reader", "failToken", "()V"⟩, 7), (⟨"FlotsamWill$Reader", "readHeir", "()V"⟩, 7), (⟨"FlotsamWill$Sea", "ofHeir", "(II)I"⟩, 7), (⟨"FlotsamWill$Sea", "putHeir", "(III)V"⟩, 7)]
theorem lw_r1 : ∀ q ∈ lw_privs_1, lw_okq q := List.forall_mem_cons.mpr ⟨lw_p0, List.forall_mem_cons.mpr ⟨lw_p1, List.forall_mem_cons.mpr ⟨lw_p2, List.forall_mem_cons.mpr ⟨lw_p3, List.forall_mem_cons.mpr ⟨lw_p4, List.forall_mem_cons.mpr ⟨lw_p5, List.forall_mem_cons.mpr ⟨lw_p6, List.forall_mem_cons.mpr ⟨lw_p7, List.forall_mem_cons.mpr ⟨lw_p8, List.forall_mem_cons.mpr ⟨lw_p9, List.forall_mem_cons.mpr ⟨lw_p10, List.forall_mem_cons.mpr ⟨lw_p11, List.forall_mem_cons.mpr ⟨lw_p12, List.forall_mem_cons.mpr ⟨lw_p13, List.forall_mem_cons.mpr ⟨lw_p14, List.forall_mem_cons.mpr ⟨lw_p15, fun _ h => absurd h List.not_mem_nil⟩⟩⟩⟩⟩⟩⟩⟩⟩⟩⟩⟩⟩⟩⟩⟩
theorem lw_p16 : lw_okq (⟨"FlotsamWill$Reader", "readCurrent", "()V"⟩, 7) := ⟨⟨by decide +kernel, by decide +kernel⟩, q1_in _ (List.mem_of_getElem? (i := 54) rfl), q2_in _ (List.mem_of_getElem? (i := 136) rfl), q2_in _ (List.mem_of_getElem? (i := 137) rfl)⟩
theorem lw_p17 : lw_okq (⟨"FlotsamWill$Reader", "readWind", "()V"⟩, 7) := ⟨⟨by decide +kernel, by decide +kernel⟩, q1_in _ (List.mem_of_getElem? (i := 54) rfl), q2_in _ (List.mem_of_getElem? (i := 141) rfl), q2_in _ (List.mem_of_getElem? (i := 142) rfl)⟩
theorem lw_p18 : lw_okq (⟨"FlotsamWill$Reader", "readPhase", "()V"⟩, 7) := ⟨⟨by decide +kernel, by decide +kernel⟩, q1_in _ (List.mem_of_getElem? (i := 54) rfl), q2_in _ (List.mem_of_getElem? (i := 146) rfl), q2_in _ (List.mem_of_getElem? (i := 147) rfl)⟩
theorem lw_p19 : lw_okq (⟨"FlotsamWill$Sea", "become", "(LFlotsamWill$Sea;)V"⟩, 7) := ⟨⟨by decide +kernel, by decide +kernel⟩, q1_in _ (List.mem_of_getElem? (i := 60) rfl), q2_in _ (List.mem_of_getElem? (i := 150) rfl), q2_in _ (List.mem_of_getElem? (i := 151) rfl)⟩
theorem lw_p20 : lw_okq (⟨"FlotsamWill$Sea", "estates", "()I"⟩, 7) := ⟨⟨by decide +kernel, by decide +kernel⟩, q1_in _ (List.mem_of_getElem? (i := 60) rfl), q2_in _ (List.mem_of_getElem? (i := 166) rfl), q2_in _ (List.mem_of_getElem? (i := 167) rfl)⟩
theorem lw_p21 : lw_okq (⟨"FlotsamWill$Sea", "ofTub", "(II)I"⟩, 7) := ⟨⟨by decide +kernel, by decide +kernel⟩, q1_in _ (List.mem_of_getElem? (i := 60) rfl), q2_in _ (List.mem_of_getElem? (i := 170) rfl), q2_in _ (List.mem_of_getElem? (i := 171) rfl)⟩
theorem lw_p22 : lw_okq (⟨"FlotsamWill", "listWindyHours", "()I"⟩, 17) := ⟨⟨by decide +kernel, by decide +kernel⟩, q1_in _ (List.mem_of_getElem? (i := 16) rfl), q2_in _ (List.mem_of_getElem? (i := 174) rfl), q2_in _ (List.mem_of_getElem? (i := 175) rfl)⟩
theorem lw_p23 : lw_okq (⟨"FlotsamWill$Sea", "isTub", "(I)Z"⟩, 7) := ⟨⟨by decide +kernel, by decide +kernel⟩, q1_in _ (List.mem_of_getElem? (i := 60) rfl), q2_in _ (List.mem_of_getElem? (i := 182) rfl), q2_in _ (List.mem_of_getElem? (i := 183) rfl)⟩
theorem lw_p24 : lw_okq (⟨"FlotsamWill$Sea", "isHeir", "(I)Z"⟩, 7) := ⟨⟨by decide +kernel, by decide +kernel⟩, q1_in _ (List.mem_of_getElem? (i := 60) rfl), q2_in _ (List.mem_of_getElem? (i := 193) rfl), q2_in _ (List.mem_of_getElem? (i := 194) rfl)⟩
theorem lw_p25 : lw_okq (⟨"FlotsamWill", "putIn", "(III)I"⟩, 17) := ⟨⟨by decide +kernel, by decide +kernel⟩, q1_in _ (List.mem_of_getElem? (i := 16) rfl), q3_in _ (List.mem_of_getElem? (i := 1) rfl), q3_in _ (List.mem_of_getElem? (i := 2) rfl)⟩
theorem lw_p26 : lw_okq (⟨"FlotsamWill$Sea", "moveTub", "(III)V"⟩, 7) := ⟨⟨by decide +kernel, by decide +kernel⟩, q1_in _ (List.mem_of_getElem? (i := 60) rfl), q3_in _ (List.mem_of_getElem? (i := 5) rfl), q3_in _ (List.mem_of_getElem? (i := 6) rfl)⟩
theorem lw_p27 : lw_okq (⟨"FlotsamWill$Day", "runTub", "(LFlotsamWill$Sea;II)V"⟩, 6) := ⟨⟨by decide +kernel, by decide +kernel⟩, q1_in _ (List.mem_of_getElem? (i := 155) rfl), q3_in _ (List.mem_of_getElem? (i := 18) rfl), q3_in _ (List.mem_of_getElem? (i := 19) rfl)⟩
theorem lw_p28 : lw_okq (⟨"FlotsamWill$Day", "sailTub", "(LFlotsamWill$Sea;II)V"⟩, 6) := ⟨⟨by decide +kernel, by decide +kernel⟩, q1_in _ (List.mem_of_getElem? (i := 155) rfl), q3_in _ (List.mem_of_getElem? (i := 22) rfl), q3_in _ (List.mem_of_getElem? (i := 23) rfl)⟩
theorem lw_p29 : lw_okq (⟨"FlotsamWill$Day", "sailHour", "(LFlotsamWill$Sea;II)V"⟩, 6) := ⟨⟨by decide +kernel, by decide +kernel⟩, q1_in _ (List.mem_of_getElem? (i := 155) rfl), q3_in _ (List.mem_of_getElem? (i := 27) rfl), q3_in _ (List.mem_of_getElem? (i := 28) rfl)⟩
theorem lw_p30 : lw_okq (⟨"FlotsamWill$Sea", "tideAt", "(I)I"⟩, 7) := ⟨⟨by decide +kernel, by decide +kernel⟩, q1_in _ (List.mem_of_getElem? (i := 60) rfl), q3_in _ (List.mem_of_getElem? (i := 34) rfl), q3_in _ (List.mem_of_getElem? (i := 35) rfl)⟩
theorem lw_p31 : lw_okq (⟨"FlotsamWill$Day", "meetTub", "(LFlotsamWill$Sea;II)V"⟩, 6) := ⟨⟨by decide +kernel, by decide +kernel⟩, q1_in _ (List.mem_of_getElem? (i := 155) rfl), q3_in _ (List.mem_of_getElem? (i := 47) rfl), q3_in _ (List.mem_of_getElem? (i := 48) rfl)⟩
def lw_privs_2 : List (MethodName × Nat) := [(⟨"FlotsamWill$Reader", "readCurrent", "()V"⟩, 7), (⟨"FlotsamWill$Reader", "readWind", "()V"⟩, 7), (⟨"FlotsamWill$Reader", "readPhase", "()V"⟩, 7), (⟨"FlotsamWill$Sea", "become", "(LFlotsamWill$Sea;)V"⟩, 7), (⟨"FlotsamWill$Sea", "estates", "()I"⟩, 7), (⟨"FlotsamWill$Sea", "ofTub", "(II)I"⟩, 7), (⟨"FlotsamWill", "listWindyHours", "()I"⟩, 17), (⟨"FlotsamWill$Sea", "isTub", "(I)Z"⟩, 7), (⟨"FlotsamWill$Sea", "isHeir", "(I)Z"⟩, 7), (⟨"FlotsamWill", "putIn", "(III)I"⟩, 17), (⟨"FlotsamWill$Sea", "moveTub", "(III)V"⟩, 7), (⟨"FlotsamWill$Day", "runTub", "(LFlotsamWill$Sea;II)V"⟩, 6), (⟨"FlotsamWill$Day", "sailTub", "(LFlotsamWill$Sea;II)V"⟩, 6), (⟨"FlotsamWill$Day", "sailHour", "(LFlotsamWill$Sea;II)V"⟩, 6), (⟨"FlotsamWill$Sea", "tideAt", "(I)I"⟩, 7), (⟨"FlotsamWill$Day", "meetTub", "(LFlotsamWill$Sea;II)V"⟩, 6)]
theorem lw_r2 : ∀ q ∈ lw_privs_2, lw_okq q := List.forall_mem_cons.mpr ⟨lw_p16, List.forall_mem_cons.mpr ⟨lw_p17, List.forall_mem_cons.mpr ⟨lw_p18, List.forall_mem_cons.mpr ⟨lw_p19, List.forall_mem_cons.mpr ⟨lw_p20, List.forall_mem_cons.mpr ⟨lw_p21, List.forall_mem_cons.mpr ⟨lw_p22, List.forall_mem_cons.mpr ⟨lw_p23, List.forall_mem_cons.mpr ⟨lw_p24, List.forall_mem_cons.mpr ⟨lw_p25, List.forall_mem_cons.mpr ⟨lw_p26, List.forall_mem_cons.mpr ⟨lw_p27, List.forall_mem_cons.mpr ⟨lw_p28, List.forall_mem_cons.mpr ⟨lw_p29, List.forall_mem_cons.mpr ⟨lw_p30, List.forall_mem_cons.mpr ⟨lw_p31, fun _ h => absurd h List.not_mem_nil⟩⟩⟩⟩⟩⟩⟩⟩⟩⟩⟩⟩⟩⟩⟩⟩
theorem lw_p32 : lw_okq (⟨"FlotsamWill$Day", "wayOf", "(I)I"⟩, 6) := ⟨⟨by decide +kernel, by decide +kernel⟩, q1_in _ (List.mem_of_getElem? (i := 155) rfl), q3_in _ (List.mem_of_getElem? (i := 55) rfl), q3_in _ (List.mem_of_getElem? (i := 56) rfl)⟩
theorem lw_p33 : lw_okq (⟨"FlotsamWill$Day", "eastOf", "(I)I"⟩, 6) := ⟨⟨by decide +kernel, by decide +kernel⟩, q1_in _ (List.mem_of_getElem? (i := 155) rfl), q3_in _ (List.mem_of_getElem? (i := 63) rfl), q3_in _ (List.mem_of_getElem? (i := 64) rfl)⟩
theorem lw_p34 : lw_okq (⟨"FlotsamWill$Day", "run", "(LFlotsamWill$Sea;)V"⟩, 6) := ⟨⟨by decide +kernel, by decide +kernel⟩, q1_in _ (List.mem_of_getElem? (i := 155) rfl), q3_in _ (List.mem_of_getElem? (i := 71) rfl), q3_in _ (List.mem_of_getElem? (i := 72) rfl)⟩
theorem lw_p35 : lw_okq (⟨"FlotsamWill$Day", "estatesOf", "(LFlotsamWill$Sea;I)I"⟩, 6) := ⟨⟨by decide +kernel, by decide +kernel⟩, q1_in _ (List.mem_of_getElem? (i := 155) rfl), q3_in _ (List.mem_of_getElem? (i := 76) rfl), q3_in _ (List.mem_of_getElem? (i := 77) rfl)⟩
theorem lw_p36 : lw_okq (⟨"FlotsamWill$Day", "tubsOf", "(LFlotsamWill$Sea;I)I"⟩, 6) := ⟨⟨by decide +kernel, by decide +kernel⟩, q1_in _ (List.mem_of_getElem? (i := 155) rfl), q3_in _ (List.mem_of_getElem? (i := 80) rfl), q3_in _ (List.mem_of_getElem? (i := 81) rfl)⟩
theorem lw_p37 : lw_okq (⟨"FlotsamWill$Day", "estatesHooked", "(LFlotsamWill$Sea;)I"⟩, 6) := ⟨⟨by decide +kernel, by decide +kernel⟩, q1_in _ (List.mem_of_getElem? (i := 155) rfl), q3_in _ (List.mem_of_getElem? (i := 88) rfl), q3_in _ (List.mem_of_getElem? (i := 89) rfl)⟩
theorem lw_p38 : lw_okq (⟨"FlotsamWill$Day", "tubsOfWay", "(LFlotsamWill$Sea;I)I"⟩, 6) := ⟨⟨by decide +kernel, by decide +kernel⟩, q1_in _ (List.mem_of_getElem? (i := 155) rfl), q3_in _ (List.mem_of_getElem? (i := 92) rfl), q3_in _ (List.mem_of_getElem? (i := 93) rfl)⟩
theorem lw_p39 : lw_okq (⟨"FlotsamWill$Day", "gives", "(LFlotsamWill$Sea;II)Z"⟩, 6) := ⟨⟨by decide +kernel, by decide +kernel⟩, q1_in _ (List.mem_of_getElem? (i := 155) rfl), q3_in _ (List.mem_of_getElem? (i := 101) rfl), q3_in _ (List.mem_of_getElem? (i := 102) rfl)⟩
theorem lw_p40 : lw_okq (⟨"FlotsamWill$Day", "sail", "(LFlotsamWill$Sea;)V"⟩, 6) := ⟨⟨by decide +kernel, by decide +kernel⟩, q1_in _ (List.mem_of_getElem? (i := 155) rfl), q3_in _ (List.mem_of_getElem? (i := 117) rfl), q3_in _ (List.mem_of_getElem? (i := 118) rfl)⟩
theorem lw_p41 : lw_okq (⟨"FlotsamWill$Day", "meet", "(LFlotsamWill$Sea;)V"⟩, 6) := ⟨⟨by decide +kernel, by decide +kernel⟩, q1_in _ (List.mem_of_getElem? (i := 155) rfl), q3_in _ (List.mem_of_getElem? (i := 121) rfl), q3_in _ (List.mem_of_getElem? (i := 122) rfl)⟩
theorem lw_p42 : lw_okq (⟨"FlotsamWill", "weighPairs", "(II)V"⟩, 17) := ⟨⟨by decide +kernel, by decide +kernel⟩, q1_in _ (List.mem_of_getElem? (i := 16) rfl), q3_in _ (List.mem_of_getElem? (i := 141) rfl), q3_in _ (List.mem_of_getElem? (i := 142) rfl)⟩
theorem lw_p43 : lw_okq (⟨"FlotsamWill", "neitherWouldGo", "(II)Z"⟩, 17) := ⟨⟨by decide +kernel, by decide +kernel⟩, q1_in _ (List.mem_of_getElem? (i := 16) rfl), q3_in _ (List.mem_of_getElem? (i := 145) rfl), q3_in _ (List.mem_of_getElem? (i := 146) rfl)⟩
theorem lw_p44 : lw_okq (⟨"FlotsamWill", "dropWinds", "(III)J"⟩, 17) := ⟨⟨by decide +kernel, by decide +kernel⟩, q1_in _ (List.mem_of_getElem? (i := 16) rfl), q3_in _ (List.mem_of_getElem? (i := 155) rfl), q3_in _ (List.mem_of_getElem? (i := 156) rfl)⟩
theorem lw_p45 : lw_okq (⟨"FlotsamWill", "kindsAsSeen", "(I)I"⟩, 17) := ⟨⟨by decide +kernel, by decide +kernel⟩, q1_in _ (List.mem_of_getElem? (i := 16) rfl), q3_in _ (List.mem_of_getElem? (i := 185) rfl), q3_in _ (List.mem_of_getElem? (i := 186) rfl)⟩
theorem lw_p46 : lw_okq (⟨"FlotsamWill", "isAsSeen", "(LFlotsamWill$Sea;)Z"⟩, 17) := ⟨⟨by decide +kernel, by decide +kernel⟩, q1_in _ (List.mem_of_getElem? (i := 16) rfl), q3_in _ (List.mem_of_getElem? (i := 189) rfl), q3_in _ (List.mem_of_getElem? (i := 190) rfl)⟩
theorem lw_p47 : lw_okq (⟨"FlotsamWill", "leftAtWorst", "(III)I"⟩, 17) := ⟨⟨by decide +kernel, by decide +kernel⟩, q1_in _ (List.mem_of_getElem? (i := 16) rfl), q3_in _ (List.mem_of_getElem? (i := 208) rfl), q3_in _ (List.mem_of_getElem? (i := 209) rfl)⟩
def lw_privs_3 : List (MethodName × Nat) := [(⟨"FlotsamWill$Day", "wayOf", "(I)I"⟩, 6), (⟨"FlotsamWill$Day", "eastOf", "(I)I"⟩, 6), (⟨"FlotsamWill$Day", "run", "(LFlotsamWill$Sea;)V"⟩, 6), (⟨"FlotsamWill$Day", "estatesOf", "(LFlotsamWill$Sea;I)I"⟩, 6), (⟨"FlotsamWill$Day", "tubsOf", "(LFlotsamWill$Sea;I)I"⟩, 6), (⟨"FlotsamWill$Day", "estatesHooked", "(LFlotsamWill$Sea;)I"⟩, 6), (⟨"FlotsamWill$Day", "tubsOfWay", "(LFlotsamWill$Sea;I)I"⟩, 6), (⟨"FlotsamWill$Day", "gives", "(LFlotsamWill$Sea;II)Z"⟩, 6), (⟨"FlotsamWill$Day", "sail", "(LFlotsamWill$Sea;)V"⟩, 6), (⟨"FlotsamWill$Day", "meet", "(LFlotsamWill$Sea;)V"⟩, 6), (⟨"FlotsamWill", "weighPairs", "(II)V"⟩, 17), (⟨"FlotsamWill", "neitherWouldGo", "(II)Z"⟩, 17), (⟨"FlotsamWill", "dropWinds", "(III)J"⟩, 17), (⟨"FlotsamWill", "kindsAsSeen", "(I)I"⟩, 17), (⟨"FlotsamWill", "isAsSeen", "(LFlotsamWill$Sea;)Z"⟩, 17), (⟨"FlotsamWill", "leftAtWorst", "(III)I"⟩, 17)]
theorem lw_r3 : ∀ q ∈ lw_privs_3, lw_okq q := List.forall_mem_cons.mpr ⟨lw_p32, List.forall_mem_cons.mpr ⟨lw_p33, List.forall_mem_cons.mpr ⟨lw_p34, List.forall_mem_cons.mpr ⟨lw_p35, List.forall_mem_cons.mpr ⟨lw_p36, List.forall_mem_cons.mpr ⟨lw_p37, List.forall_mem_cons.mpr ⟨lw_p38, List.forall_mem_cons.mpr ⟨lw_p39, List.forall_mem_cons.mpr ⟨lw_p40, List.forall_mem_cons.mpr ⟨lw_p41, List.forall_mem_cons.mpr ⟨lw_p42, List.forall_mem_cons.mpr ⟨lw_p43, List.forall_mem_cons.mpr ⟨lw_p44, List.forall_mem_cons.mpr ⟨lw_p45, List.forall_mem_cons.mpr ⟨lw_p46, List.forall_mem_cons.mpr ⟨lw_p47, fun _ h => absurd h List.not_mem_nil⟩⟩⟩⟩⟩⟩⟩⟩⟩⟩⟩⟩⟩⟩⟩⟩
theorem lw_p48 : lw_okq (⟨"FlotsamWill$Sheet", "renew", "(II)V"⟩, 3) := ⟨⟨by decide +kernel, by decide +kernel⟩, q1_in _ (List.mem_of_getElem? (i := 135) rfl), q3_in _ (List.mem_of_getElem? (i := 230) rfl), q3_in _ (List.mem_of_getElem? (i := 231) rfl)⟩
theorem lw_p49 : lw_okq (⟨"FlotsamWill$Sheet", "faultOf", "(III)I"⟩, 3) := ⟨⟨by decide +kernel, by decide +kernel⟩, q1_in _ (List.mem_of_getElem? (i := 135) rfl), q3_in _ (List.mem_of_getElem? (i := 238) rfl), q3_in _ (List.mem_of_getElem? (i := 239) rfl)⟩
theorem lw_p50 : lw_okq (⟨"FlotsamWill$Sheet", "put", "(II)V"⟩, 3) := ⟨⟨by decide +kernel, by decide +kernel⟩, q1_in _ (List.mem_of_getElem? (i := 135) rfl), q4_in _ (List.mem_of_getElem? (i := 2) rfl), q4_in _ (List.mem_of_getElem? (i := 3) rfl)⟩
theorem lw_p51 : lw_okq (⟨"FlotsamWill$Sea", "hooks", "()I"⟩, 7) := ⟨⟨by decide +kernel, by decide +kernel⟩, q1_in _ (List.mem_of_getElem? (i := 60) rfl), q4_in _ (List.mem_of_getElem? (i := 18) rfl), q4_in _ (List.mem_of_getElem? (i := 19) rfl)⟩
theorem lw_p52 : lw_okq (⟨"FlotsamWill$Sea", "moving", "()I"⟩, 7) := ⟨⟨by decide +kernel, by decide +kernel⟩, q1_in _ (List.mem_of_getElem? (i := 60) rfl), q4_in _ (List.mem_of_getElem? (i := 23) rfl), q4_in _ (List.mem_of_getElem? (i := 24) rfl)⟩
theorem lw_p53 : lw_okq (⟨"FlotsamWillModel", "step", "()V"⟩, 36) := ⟨⟨by decide +kernel, by decide +kernel⟩, q4_in _ (List.mem_of_getElem? (i := 27) rfl), q4_in _ (List.mem_of_getElem? (i := 158) rfl), q4_in _ (List.mem_of_getElem? (i := 159) rfl)⟩
theorem lw_p54 : lw_okq (⟨"FlotsamWillModel", "byteAt", "(I)I"⟩, 36) := ⟨⟨by decide +kernel, by decide +kernel⟩, q4_in _ (List.mem_of_getElem? (i := 27) rfl), q4_in _ (List.mem_of_getElem? (i := 162) rfl), q4_in _ (List.mem_of_getElem? (i := 163) rfl)⟩
theorem lw_p55 : lw_okq (⟨"FlotsamWillModel", "fails", "(I)V"⟩, 36) := ⟨⟨by decide +kernel, by decide +kernel⟩, q4_in _ (List.mem_of_getElem? (i := 27) rfl), q4_in _ (List.mem_of_getElem? (i := 170) rfl), q4_in _ (List.mem_of_getElem? (i := 171) rfl)⟩
theorem lw_p56 : lw_okq (⟨"FlotsamWillModel", "readLine", "()V"⟩, 36) := ⟨⟨by decide +kernel, by decide +kernel⟩, q4_in _ (List.mem_of_getElem? (i := 27) rfl), q4_in _ (List.mem_of_getElem? (i := 174) rfl), q4_in _ (List.mem_of_getElem? (i := 175) rfl)⟩
theorem lw_p57 : lw_okq (⟨"FlotsamWillModel", "nameHere", "()I"⟩, 36) := ⟨⟨by decide +kernel, by decide +kernel⟩, q4_in _ (List.mem_of_getElem? (i := 27) rfl), q4_in _ (List.mem_of_getElem? (i := 178) rfl), q4_in _ (List.mem_of_getElem? (i := 179) rfl)⟩
theorem lw_p58 : lw_okq (⟨"FlotsamWillModel", "readMore", "(I)V"⟩, 36) := ⟨⟨by decide +kernel, by decide +kernel⟩, q4_in _ (List.mem_of_getElem? (i := 27) rfl), q4_in _ (List.mem_of_getElem? (i := 183) rfl), q4_in _ (List.mem_of_getElem? (i := 184) rfl)⟩
theorem lw_p59 : lw_okq (⟨"FlotsamWillModel", "readTub", "(I)V"⟩, 36) := ⟨⟨by decide +kernel, by decide +kernel⟩, q4_in _ (List.mem_of_getElem? (i := 27) rfl), q4_in _ (List.mem_of_getElem? (i := 187) rfl), q4_in _ (List.mem_of_getElem? (i := 188) rfl)⟩
theorem lw_p60 : lw_okq (⟨"FlotsamWillModel", "other", "(III)I"⟩, 36) := ⟨⟨by decide +kernel, by decide +kernel⟩, q4_in _ (List.mem_of_getElem? (i := 27) rfl), q4_in _ (List.mem_of_getElem? (i := 191) rfl), q4_in _ (List.mem_of_getElem? (i := 192) rfl)⟩
theorem lw_p61 : lw_okq (⟨"FlotsamWillModel", "readHeir", "()V"⟩, 36) := ⟨⟨by decide +kernel, by decide +kernel⟩, q4_in _ (List.mem_of_getElem? (i := 27) rfl), q4_in _ (List.mem_of_getElem? (i := 195) rfl), q4_in _ (List.mem_of_getElem? (i := 196) rfl)⟩
theorem lw_p62 : lw_okq (⟨"FlotsamWillModel", "estates", "()I"⟩, 36) := ⟨⟨by decide +kernel, by decide +kernel⟩, q4_in _ (List.mem_of_getElem? (i := 27) rfl), q4_in _ (List.mem_of_getElem? (i := 207) rfl), q4_in _ (List.mem_of_getElem? (i := 208) rfl)⟩
theorem lw_p63 : lw_okq (⟨"FlotsamWillModel", "windyHours", "()I"⟩, 36) := ⟨⟨by decide +kernel, by decide +kernel⟩, q4_in _ (List.mem_of_getElem? (i := 27) rfl), q4_in _ (List.mem_of_getElem? (i := 211) rfl), q4_in _ (List.mem_of_getElem? (i := 212) rfl)⟩
def lw_privs_4 : List (MethodName × Nat) := [(⟨"FlotsamWill$Sheet", "renew", "(II)V"⟩, 3), (⟨"FlotsamWill$Sheet", "faultOf", "(III)I"⟩, 3), (⟨"FlotsamWill$Sheet", "put", "(II)V"⟩, 3), (⟨"FlotsamWill$Sea", "hooks", "()I"⟩, 7), (⟨"FlotsamWill$Sea", "moving", "()I"⟩, 7), (⟨"FlotsamWillModel", "step", "()V"⟩, 36), (⟨"FlotsamWillModel", "byteAt", "(I)I"⟩, 36), (⟨"FlotsamWillModel", "fails", "(I)V"⟩, 36), (⟨"FlotsamWillModel", "readLine", "()V"⟩, 36), (⟨"FlotsamWillModel", "nameHere", "()I"⟩, 36), (⟨"FlotsamWillModel", "readMore", "(I)V"⟩, 36), (⟨"FlotsamWillModel", "readTub", "(I)V"⟩, 36), (⟨"FlotsamWillModel", "other", "(III)I"⟩, 36), (⟨"FlotsamWillModel", "readHeir", "()V"⟩, 36), (⟨"FlotsamWillModel", "estates", "()I"⟩, 36), (⟨"FlotsamWillModel", "windyHours", "()I"⟩, 36)]
theorem lw_r4 : ∀ q ∈ lw_privs_4, lw_okq q := List.forall_mem_cons.mpr ⟨lw_p48, List.forall_mem_cons.mpr ⟨lw_p49, List.forall_mem_cons.mpr ⟨lw_p50, List.forall_mem_cons.mpr ⟨lw_p51, List.forall_mem_cons.mpr ⟨lw_p52, List.forall_mem_cons.mpr ⟨lw_p53, List.forall_mem_cons.mpr ⟨lw_p54, List.forall_mem_cons.mpr ⟨lw_p55, List.forall_mem_cons.mpr ⟨lw_p56, List.forall_mem_cons.mpr ⟨lw_p57, List.forall_mem_cons.mpr ⟨lw_p58, List.forall_mem_cons.mpr ⟨lw_p59, List.forall_mem_cons.mpr ⟨lw_p60, List.forall_mem_cons.mpr ⟨lw_p61, List.forall_mem_cons.mpr ⟨lw_p62, List.forall_mem_cons.mpr ⟨lw_p63, fun _ h => absurd h List.not_mem_nil⟩⟩⟩⟩⟩⟩⟩⟩⟩⟩⟩⟩⟩⟩⟩⟩
theorem lw_p64 : lw_okq (⟨"FlotsamWillModel", "isTub", "(I)Z"⟩, 36) := ⟨⟨by decide +kernel, by decide +kernel⟩, q4_in _ (List.mem_of_getElem? (i := 27) rfl), q4_in _ (List.mem_of_getElem? (i := 222) rfl), q4_in _ (List.mem_of_getElem? (i := 223) rfl)⟩
theorem lw_p65 : lw_okq (⟨"FlotsamWillModel", "isHeir", "(I)Z"⟩, 36) := ⟨⟨by decide +kernel, by decide +kernel⟩, q4_in _ (List.mem_of_getElem? (i := 27) rfl), q4_in _ (List.mem_of_getElem? (i := 231) rfl), q4_in _ (List.mem_of_getElem? (i := 232) rfl)⟩
theorem lw_p66 : lw_okq (⟨"FlotsamWillModel", "puts", "(ZIII)I"⟩, 36) := ⟨⟨by decide +kernel, by decide +kernel⟩, q4_in _ (List.mem_of_getElem? (i := 27) rfl), q5_in _ (List.mem_of_getElem? (i := 14) rfl), q5_in _ (List.mem_of_getElem? (i := 15) rfl)⟩
theorem lw_p67 : lw_okq (⟨"FlotsamWillModel", "casts", "(III)I"⟩, 36) := ⟨⟨by decide +kernel, by decide +kernel⟩, q4_in _ (List.mem_of_getElem? (i := 27) rfl), q5_in _ (List.mem_of_getElem? (i := 38) rfl), q5_in _ (List.mem_of_getElem? (i := 39) rfl)⟩
theorem lw_p68 : lw_okq (⟨"FlotsamWillModel", "dayGoes", "(II)V"⟩, 36) := ⟨⟨by decide +kernel, by decide +kernel⟩, q4_in _ (List.mem_of_getElem? (i := 27) rfl), q5_in _ (List.mem_of_getElem? (i := 50) rfl), q5_in _ (List.mem_of_getElem? (i := 51) rfl)⟩
theorem lw_p69 : lw_okq (⟨"FlotsamWillModel", "drifts", "(III)V"⟩, 36) := ⟨⟨by decide +kernel, by decide +kernel⟩, q4_in _ (List.mem_of_getElem? (i := 27) rfl), q5_in _ (List.mem_of_getElem? (i := 54) rfl), q5_in _ (List.mem_of_getElem? (i := 55) rfl)⟩
theorem lw_p70 : lw_okq (⟨"FlotsamWillModel", "hooks", "(III)V"⟩, 36) := ⟨⟨by decide +kernel, by decide +kernel⟩, q4_in _ (List.mem_of_getElem? (i := 27) rfl), q5_in _ (List.mem_of_getElem? (i := 58) rfl), q5_in _ (List.mem_of_getElem? (i := 59) rfl)⟩
theorem lw_p71 : lw_okq (⟨"FlotsamWillModel", "worth", "(II)I"⟩, 36) := ⟨⟨by decide +kernel, by decide +kernel⟩, q4_in _ (List.mem_of_getElem? (i := 27) rfl), q5_in _ (List.mem_of_getElem? (i := 72) rfl), q5_in _ (List.mem_of_getElem? (i := 73) rfl)⟩
theorem lw_p72 : lw_okq (⟨"FlotsamWillModel", "estatesOf", "(II)I"⟩, 36) := ⟨⟨by decide +kernel, by decide +kernel⟩, q4_in _ (List.mem_of_getElem? (i := 27) rfl), q5_in _ (List.mem_of_getElem? (i := 76) rfl), q5_in _ (List.mem_of_getElem? (i := 77) rfl)⟩
theorem lw_p73 : lw_okq (⟨"FlotsamWillModel", "tubsOf", "(II)I"⟩, 36) := ⟨⟨by decide +kernel, by decide +kernel⟩, q4_in _ (List.mem_of_getElem? (i := 27) rfl), q5_in _ (List.mem_of_getElem? (i := 80) rfl), q5_in _ (List.mem_of_getElem? (i := 81) rfl)⟩
theorem lw_p74 : lw_okq (⟨"FlotsamWillModel", "copies", "(II)V"⟩, 36) := ⟨⟨by decide +kernel, by decide +kernel⟩, q4_in _ (List.mem_of_getElem? (i := 27) rfl), q5_in _ (List.mem_of_getElem? (i := 92) rfl), q5_in _ (List.mem_of_getElem? (i := 93) rfl)⟩
theorem lw_p75 : lw_okq (⟨"FlotsamWillModel", "isHooked", "(II)Z"⟩, 36) := ⟨⟨by decide +kernel, by decide +kernel⟩, q4_in _ (List.mem_of_getElem? (i := 27) rfl), q5_in _ (List.mem_of_getElem? (i := 96) rfl), q5_in _ (List.mem_of_getElem? (i := 97) rfl)⟩
theorem lw_p76 : lw_okq (⟨"FlotsamWillModel", "isRest", "(II)Z"⟩, 36) := ⟨⟨by decide +kernel, by decide +kernel⟩, q4_in _ (List.mem_of_getElem? (i := 27) rfl), q5_in _ (List.mem_of_getElem? (i := 129) rfl), q5_in _ (List.mem_of_getElem? (i := 130) rfl)⟩
theorem lw_p77 : lw_okq (⟨"FlotsamWillModel", "byDrops", "(IIII)J"⟩, 36) := ⟨⟨by decide +kernel, by decide +kernel⟩, q4_in _ (List.mem_of_getElem? (i := 27) rfl), q5_in _ (List.mem_of_getElem? (i := 140) rfl), q5_in _ (List.mem_of_getElem? (i := 141) rfl)⟩
theorem lw_p78 : lw_okq (⟨"FlotsamWillModel", "kindsOf", "(I)I"⟩, 36) := ⟨⟨by decide +kernel, by decide +kernel⟩, q4_in _ (List.mem_of_getElem? (i := 27) rfl), q5_in _ (List.mem_of_getElem? (i := 164) rfl), q5_in _ (List.mem_of_getElem? (i := 165) rfl)⟩
theorem lw_p79 : lw_okq (⟨"FlotsamWillModel", "isAsSeen", "()Z"⟩, 36) := ⟨⟨by decide +kernel, by decide +kernel⟩, q4_in _ (List.mem_of_getElem? (i := 27) rfl), q5_in _ (List.mem_of_getElem? (i := 168) rfl), q5_in _ (List.mem_of_getElem? (i := 169) rfl)⟩
def lw_privs_5 : List (MethodName × Nat) := [(⟨"FlotsamWillModel", "isTub", "(I)Z"⟩, 36), (⟨"FlotsamWillModel", "isHeir", "(I)Z"⟩, 36), (⟨"FlotsamWillModel", "puts", "(ZIII)I"⟩, 36), (⟨"FlotsamWillModel", "casts", "(III)I"⟩, 36), (⟨"FlotsamWillModel", "dayGoes", "(II)V"⟩, 36), (⟨"FlotsamWillModel", "drifts", "(III)V"⟩, 36), (⟨"FlotsamWillModel", "hooks", "(III)V"⟩, 36), (⟨"FlotsamWillModel", "worth", "(II)I"⟩, 36), (⟨"FlotsamWillModel", "estatesOf", "(II)I"⟩, 36), (⟨"FlotsamWillModel", "tubsOf", "(II)I"⟩, 36), (⟨"FlotsamWillModel", "copies", "(II)V"⟩, 36), (⟨"FlotsamWillModel", "isHooked", "(II)Z"⟩, 36), (⟨"FlotsamWillModel", "isRest", "(II)Z"⟩, 36), (⟨"FlotsamWillModel", "byDrops", "(IIII)J"⟩, 36), (⟨"FlotsamWillModel", "kindsOf", "(I)I"⟩, 36), (⟨"FlotsamWillModel", "isAsSeen", "()Z"⟩, 36)]
theorem lw_r5 : ∀ q ∈ lw_privs_5, lw_okq q := List.forall_mem_cons.mpr ⟨lw_p64, List.forall_mem_cons.mpr ⟨lw_p65, List.forall_mem_cons.mpr ⟨lw_p66, List.forall_mem_cons.mpr ⟨lw_p67, List.forall_mem_cons.mpr ⟨lw_p68, List.forall_mem_cons.mpr ⟨lw_p69, List.forall_mem_cons.mpr ⟨lw_p70, List.forall_mem_cons.mpr ⟨lw_p71, List.forall_mem_cons.mpr ⟨lw_p72, List.forall_mem_cons.mpr ⟨lw_p73, List.forall_mem_cons.mpr ⟨lw_p74, List.forall_mem_cons.mpr ⟨lw_p75, List.forall_mem_cons.mpr ⟨lw_p76, List.forall_mem_cons.mpr ⟨lw_p77, List.forall_mem_cons.mpr ⟨lw_p78, List.forall_mem_cons.mpr ⟨lw_p79, fun _ h => absurd h List.not_mem_nil⟩⟩⟩⟩⟩⟩⟩⟩⟩⟩⟩⟩⟩⟩⟩⟩
def lw_privs : List (MethodName × Nat) := lw_privs_1 ++ (lw_privs_2 ++ (lw_privs_3 ++ (lw_privs_4 ++ (lw_privs_5))))
def lw_tbl : List Cond := k2_sels lw_privs ++ tables_1
theorem lw_privs_ok : ∀ q ∈ lw_privs, lw_okq q := by
  show ∀ q ∈ lw_privs_1 ++ (lw_privs_2 ++ (lw_privs_3 ++ (lw_privs_4 ++ (lw_privs_5)))), lw_okq q
  exact List.forall_mem_append.mpr ⟨lw_r1, List.forall_mem_append.mpr ⟨lw_r2, List.forall_mem_append.mpr ⟨lw_r3, List.forall_mem_append.mpr ⟨lw_r4, lw_r5⟩⟩⟩⟩
-- ===== end of PART A; then your names; then what follows =====

/-! ===== BEGIN printed: names, fields, word lists, decode rows ===== -/
def RX0 : String := "FlotsamWill$Day"
def TX0 : u_T := fun k => match k with
  | 0 => ("FlotsamWill$Day", "x", "[I", true)
  | 1 => ("FlotsamWill$Day", "y", "[I", true)
  | 2 => ("FlotsamWill$Day", "course", "[I", true)
  | 3 => ("FlotsamWill$Day", "over", "[I", true)
  | 4 => ("FlotsamWill$Day", "hooker", "[I", true)
  | _ => ("FlotsamWill$Day", "hooked", "[I", true)
def tyX0 : Nat → FieldType := fun k => match k with
  | 0 => .array .int
  | 1 => .array .int
  | 2 => .array .int
  | 3 => .array .int
  | 4 => .array .int
  | _ => .array .int
abbrev wsX00 : List Cond := u_ws RX0 TX0 6
theorem nmX0 : ∀ a, a < 6 → ∀ b, b < 6 → a ≠ b → (TX0 a).2.1 ≠ (TX0 b).2.1 := by decide +kernel
theorem tyX0_ok : ∀ k, k < 6 → parseFieldDescriptor (TX0 k).2.2.1 = some (tyX0 k) := by decide +kernel
abbrev cX0_init : ByteArray := prog_2_method_1_code
def yX0_init : MethodName := ⟨RX0, "<init>", "()V"⟩
abbrev cX0_run : ByteArray := prog_2_method_2_code
def yX0_run : MethodName := ⟨RX0, "run", "(LFlotsamWill$Sea;)V"⟩
abbrev cX0_sail : ByteArray := prog_2_method_3_code
def yX0_sail : MethodName := ⟨RX0, "sail", "(LFlotsamWill$Sea;)V"⟩
abbrev cX0_meet : ByteArray := prog_2_method_4_code
def yX0_meet : MethodName := ⟨RX0, "meet", "(LFlotsamWill$Sea;)V"⟩
abbrev cX0_runTub : ByteArray := prog_2_method_5_code
def yX0_runTub : MethodName := ⟨RX0, "runTub", "(LFlotsamWill$Sea;II)V"⟩
abbrev cX0_sailTub : ByteArray := prog_2_method_6_code
def yX0_sailTub : MethodName := ⟨RX0, "sailTub", "(LFlotsamWill$Sea;II)V"⟩
abbrev cX0_sailHour : ByteArray := prog_2_method_7_code
def yX0_sailHour : MethodName := ⟨RX0, "sailHour", "(LFlotsamWill$Sea;II)V"⟩
abbrev cX0_meetTub : ByteArray := prog_2_method_8_code
def yX0_meetTub : MethodName := ⟨RX0, "meetTub", "(LFlotsamWill$Sea;II)V"⟩
abbrev cX0_gives : ByteArray := prog_2_method_9_code
def yX0_gives : MethodName := ⟨RX0, "gives", "(LFlotsamWill$Sea;II)Z"⟩
abbrev cX0_wayOf : ByteArray := prog_2_method_10_code
def yX0_wayOf : MethodName := ⟨RX0, "wayOf", "(I)I"⟩
abbrev cX0_eastOf : ByteArray := prog_2_method_11_code
def yX0_eastOf : MethodName := ⟨RX0, "eastOf", "(I)I"⟩
abbrev cX0_estatesOf : ByteArray := prog_2_method_12_code
def yX0_estatesOf : MethodName := ⟨RX0, "estatesOf", "(LFlotsamWill$Sea;I)I"⟩
abbrev cX0_tubsOf : ByteArray := prog_2_method_13_code
def yX0_tubsOf : MethodName := ⟨RX0, "tubsOf", "(LFlotsamWill$Sea;I)I"⟩
abbrev cX0_estatesHooked : ByteArray := prog_2_method_14_code
def yX0_estatesHooked : MethodName := ⟨RX0, "estatesHooked", "(LFlotsamWill$Sea;)I"⟩
abbrev cX0_tubsOfWay : ByteArray := prog_2_method_15_code
def yX0_tubsOfWay : MethodName := ⟨RX0, "tubsOfWay", "(LFlotsamWill$Sea;I)I"⟩
def RX1 : String := "FlotsamWill$Reader"
def TX1 : u_T := fun k => match k with
  | 0 => ("FlotsamWill$Reader", "tape", "LFlotsamWill$Tape;", true)
  | 1 => ("FlotsamWill$Reader", "told", "LFlotsamWill$Sea;", true)
  | 2 => ("FlotsamWill$Reader", "fault", "I", false)
  | 3 => ("FlotsamWill$Reader", "faultAt", "I", false)
  | 4 => ("FlotsamWill$Reader", "rowsTold", "I", false)
  | 5 => ("FlotsamWill$Reader", "hoursTold", "I", false)
  | _ => ("FlotsamWill$Reader", "phaseTold", "Z", false)
def tyX1 : Nat → FieldType := fun k => match k with
  | 0 => .object "FlotsamWill$Tape"
  | 1 => .object "FlotsamWill$Sea"
  | 2 => .int
  | 3 => .int
  | 4 => .int
  | 5 => .int
  | _ => .boolean
abbrev wsX10 : List Cond := u_ws RX1 TX1 7
theorem nmX1 : ∀ a, a < 7 → ∀ b, b < 7 → a ≠ b → (TX1 a).2.1 ≠ (TX1 b).2.1 := by decide +kernel
theorem tyX1_ok : ∀ k, k < 7 → parseFieldDescriptor (TX1 k).2.2.1 = some (tyX1 k) := by decide +kernel
abbrev cX1_init : ByteArray := prog_3_method_1_code
def yX1_init : MethodName := ⟨RX1, "<init>", "(LFlotsamWill$Tape;)V"⟩
abbrev cX1_readAll : ByteArray := prog_3_method_2_code
def yX1_readAll : MethodName := ⟨RX1, "readAll", "()I"⟩
abbrev cX1_readLine : ByteArray := prog_3_method_3_code
def yX1_readLine : MethodName := ⟨RX1, "readLine", "()V"⟩
abbrev cX1_readTub : ByteArray := prog_3_method_4_code
def yX1_readTub : MethodName := ⟨RX1, "readTub", "(I)V"⟩
abbrev cX1_readHeir : ByteArray := prog_3_method_5_code
def yX1_readHeir : MethodName := ⟨RX1, "readHeir", "()V"⟩
abbrev cX1_readCurrent : ByteArray := prog_3_method_6_code
def yX1_readCurrent : MethodName := ⟨RX1, "readCurrent", "()V"⟩
abbrev cX1_readWind : ByteArray := prog_3_method_7_code
def yX1_readWind : MethodName := ⟨RX1, "readWind", "()V"⟩
abbrev cX1_readPhase : ByteArray := prog_3_method_8_code
def yX1_readPhase : MethodName := ⟨RX1, "readPhase", "()V"⟩
abbrev cX1_readNumber : ByteArray := prog_3_method_9_code
def yX1_readNumber : MethodName := ⟨RX1, "readNumber", "(II)I"⟩
abbrev cX1_failToken : ByteArray := prog_3_method_10_code
def yX1_failToken : MethodName := ⟨RX1, "failToken", "()V"⟩
abbrev cX1_fail : ByteArray := prog_3_method_11_code
def yX1_fail : MethodName := ⟨RX1, "fail", "(I)V"⟩
def RX2 : String := "FlotsamWill$Sea"
def TX2 : u_T := fun k => match k with
  | 0 => ("FlotsamWill$Sea", "tubParts", "[I", true)
  | 1 => ("FlotsamWill$Sea", "heirParts", "[I", true)
  | 2 => ("FlotsamWill$Sea", "currents", "[I", true)
  | 3 => ("FlotsamWill$Sea", "winds", "[I", true)
  | 4 => ("FlotsamWill$Sea", "tubs", "I", false)
  | 5 => ("FlotsamWill$Sea", "heirs", "I", false)
  | _ => ("FlotsamWill$Sea", "phase", "I", false)
def tyX2 : Nat → FieldType := fun k => match k with
  | 0 => .array .int
  | 1 => .array .int
  | 2 => .array .int
  | 3 => .array .int
  | 4 => .int
  | 5 => .int
  | _ => .int
abbrev wsX20 : List Cond := u_ws RX2 TX2 7
theorem nmX2 : ∀ a, a < 7 → ∀ b, b < 7 → a ≠ b → (TX2 a).2.1 ≠ (TX2 b).2.1 := by decide +kernel
theorem tyX2_ok : ∀ k, k < 7 → parseFieldDescriptor (TX2 k).2.2.1 = some (tyX2 k) := by decide +kernel
abbrev cX2_init : ByteArray := prog_4_method_1_code
def yX2_init : MethodName := ⟨RX2, "<init>", "()V"⟩
abbrev cX2_empty : ByteArray := prog_4_method_2_code
def yX2_empty : MethodName := ⟨RX2, "empty", "()V"⟩
abbrev cX2_become : ByteArray := prog_4_method_3_code
def yX2_become : MethodName := ⟨RX2, "become", "(LFlotsamWill$Sea;)V"⟩
abbrev cX2_isTub : ByteArray := prog_4_method_4_code
def yX2_isTub : MethodName := ⟨RX2, "isTub", "(I)Z"⟩
abbrev cX2_isHeir : ByteArray := prog_4_method_5_code
def yX2_isHeir : MethodName := ⟨RX2, "isHeir", "(I)Z"⟩
abbrev cX2_ofTub : ByteArray := prog_4_method_6_code
def yX2_ofTub : MethodName := ⟨RX2, "ofTub", "(II)I"⟩
abbrev cX2_putTub : ByteArray := prog_4_method_7_code
def yX2_putTub : MethodName := ⟨RX2, "putTub", "(III)V"⟩
abbrev cX2_moveTub : ByteArray := prog_4_method_8_code
def yX2_moveTub : MethodName := ⟨RX2, "moveTub", "(III)V"⟩
abbrev cX2_ofHeir : ByteArray := prog_4_method_9_code
def yX2_ofHeir : MethodName := ⟨RX2, "ofHeir", "(II)I"⟩
abbrev cX2_putHeir : ByteArray := prog_4_method_10_code
def yX2_putHeir : MethodName := ⟨RX2, "putHeir", "(III)V"⟩
abbrev cX2_estates : ByteArray := prog_4_method_11_code
def yX2_estates : MethodName := ⟨RX2, "estates", "()I"⟩
abbrev cX2_hooks : ByteArray := prog_4_method_12_code
def yX2_hooks : MethodName := ⟨RX2, "hooks", "()I"⟩
abbrev cX2_moving : ByteArray := prog_4_method_13_code
def yX2_moving : MethodName := ⟨RX2, "moving", "()I"⟩
abbrev cX2_tideAt : ByteArray := prog_4_method_14_code
def yX2_tideAt : MethodName := ⟨RX2, "tideAt", "(I)I"⟩
def RX3 : String := "FlotsamWill$Sheet"
def TX3 : u_T := fun k => match k with
  | 0 => ("FlotsamWill$Sheet", "cells", "[I", true)
  | 1 => ("FlotsamWill$Sheet", "lane", "I", false)
  | _ => ("FlotsamWill$Sheet", "size", "I", false)
def tyX3 : Nat → FieldType := fun k => match k with
  | 0 => .array .int
  | 1 => .int
  | _ => .int
abbrev wsX30 : List Cond := u_ws RX3 TX3 3
theorem nmX3 : ∀ a, a < 3 → ∀ b, b < 3 → a ≠ b → (TX3 a).2.1 ≠ (TX3 b).2.1 := by decide +kernel
theorem tyX3_ok : ∀ k, k < 3 → parseFieldDescriptor (TX3 k).2.2.1 = some (tyX3 k) := by decide +kernel
abbrev cX3_init : ByteArray := prog_5_method_1_code
def yX3_init : MethodName := ⟨RX3, "<init>", "()V"⟩
abbrev cX3_renew : ByteArray := prog_5_method_2_code
def yX3_renew : MethodName := ⟨RX3, "renew", "(II)V"⟩
abbrev cX3_faultOf : ByteArray := prog_5_method_3_code
def yX3_faultOf : MethodName := ⟨RX3, "faultOf", "(III)I"⟩
abbrev cX3_put : ByteArray := prog_5_method_4_code
def yX3_put : MethodName := ⟨RX3, "put", "(II)V"⟩
def RX4 : String := "FlotsamWill$Tape"
def TX4 : u_T := fun k => match k with
  | 0 => ("FlotsamWill$Tape", "bytes", "[I", true)
  | 1 => ("FlotsamWill$Tape", "length", "I", false)
  | 2 => ("FlotsamWill$Tape", "at", "I", false)
  | 3 => ("FlotsamWill$Tape", "token", "I", false)
  | 4 => ("FlotsamWill$Tape", "start", "I", false)
  | _ => ("FlotsamWill$Tape", "value", "I", false)
def tyX4 : Nat → FieldType := fun k => match k with
  | 0 => .array .int
  | 1 => .int
  | 2 => .int
  | 3 => .int
  | 4 => .int
  | _ => .int
abbrev wsX40 : List Cond := u_ws RX4 TX4 6
theorem nmX4 : ∀ a, a < 6 → ∀ b, b < 6 → a ≠ b → (TX4 a).2.1 ≠ (TX4 b).2.1 := by decide +kernel
theorem tyX4_ok : ∀ k, k < 6 → parseFieldDescriptor (TX4 k).2.2.1 = some (tyX4 k) := by decide +kernel
abbrev cX4_init : ByteArray := prog_6_method_1_code
def yX4_init : MethodName := ⟨RX4, "<init>", "()V"⟩
abbrev cX4_add : ByteArray := prog_6_method_2_code
def yX4_add : MethodName := ⟨RX4, "add", "(I)Z"⟩
abbrev cX4_rewind : ByteArray := prog_6_method_3_code
def yX4_rewind : MethodName := ⟨RX4, "rewind", "()V"⟩
abbrev cX4_take : ByteArray := prog_6_method_4_code
def yX4_take : MethodName := ⟨RX4, "take", "()V"⟩
abbrev cX4_weighNumber : ByteArray := prog_6_method_5_code
def yX4_weighNumber : MethodName := ⟨RX4, "weighNumber", "()V"⟩
abbrev cX4_isWord : ByteArray := prog_6_method_6_code
def yX4_isWord : MethodName := ⟨RX4, "isWord", "(Ljava/lang/String;)Z"⟩
abbrev cX4_sortOf : ByteArray := prog_6_method_7_code
def yX4_sortOf : MethodName := ⟨RX4, "sortOf", "(I)I"⟩
def RX5 : String := "FlotsamWill"
def TX5 : u_T := fun k => match k with
  | 0 => ("FlotsamWill", "tape", "LFlotsamWill$Tape;", true)
  | 1 => ("FlotsamWill", "reader", "LFlotsamWill$Reader;", true)
  | 2 => ("FlotsamWill", "now", "LFlotsamWill$Sea;", true)
  | 3 => ("FlotsamWill", "trial", "LFlotsamWill$Sea;", true)
  | 4 => ("FlotsamWill", "images", "[LFlotsamWill$Sea;", true)
  | 5 => ("FlotsamWill", "kept", "[Z", true)
  | 6 => ("FlotsamWill", "sheets", "[LFlotsamWill$Sheet;", true)
  | 7 => ("FlotsamWill", "day", "LFlotsamWill$Day;", true)
  | 8 => ("FlotsamWill", "seenTub", "[I", true)
  | 9 => ("FlotsamWill", "seenBehind", "[I", true)
  | 10 => ("FlotsamWill", "seenEast", "[I", true)
  | 11 => ("FlotsamWill", "windy", "[I", true)
  | 12 => ("FlotsamWill", "kindEast", "[I", true)
  | 13 => ("FlotsamWill", "mine", "[I", true)
  | 14 => ("FlotsamWill", "others", "[I", true)
  | 15 => ("FlotsamWill", "seen", "I", false)
  | _ => ("FlotsamWill", "tornBy", "I", false)
def tyX5 : Nat → FieldType := fun k => match k with
  | 0 => .object "FlotsamWill$Tape"
  | 1 => .object "FlotsamWill$Reader"
  | 2 => .object "FlotsamWill$Sea"
  | 3 => .object "FlotsamWill$Sea"
  | 4 => .array (.object "FlotsamWill$Sea")
  | 5 => .array .boolean
  | 6 => .array (.object "FlotsamWill$Sheet")
  | 7 => .object "FlotsamWill$Day"
  | 8 => .array .int
  | 9 => .array .int
  | 10 => .array .int
  | 11 => .array .int
  | 12 => .array .int
  | 13 => .array .int
  | 14 => .array .int
  | 15 => .int
  | _ => .int
abbrev wsX50 : List Cond := u_ws RX5 TX5 17
theorem nmX5 : ∀ a, a < 17 → ∀ b, b < 17 → a ≠ b → (TX5 a).2.1 ≠ (TX5 b).2.1 := by decide +kernel
theorem tyX5_ok : ∀ k, k < 17 → parseFieldDescriptor (TX5 k).2.2.1 = some (tyX5 k) := by decide +kernel
abbrev cX5_init : ByteArray := prog_1_method_1_code
def yX5_init : MethodName := ⟨RX5, "<init>", "()V"⟩
abbrev cX5_feed : ByteArray := prog_1_method_2_code
def yX5_feed : MethodName := ⟨RX5, "feed", "(I)I"⟩
abbrev cX5_end : ByteArray := prog_1_method_3_code
def yX5_end : MethodName := ⟨RX5, "end", "(I)I"⟩
abbrev cX5_text : ByteArray := prog_1_method_4_code
def yX5_text : MethodName := ⟨RX5, "text", "()I"⟩
abbrev cX5_fault : ByteArray := prog_1_method_5_code
def yX5_fault : MethodName := ⟨RX5, "fault", "()I"⟩
abbrev cX5_rule : ByteArray := prog_1_method_6_code
def yX5_rule : MethodName := ⟨RX5, "rule", "(I)I"⟩
abbrev cX5_tub : ByteArray := prog_1_method_7_code
def yX5_tub : MethodName := ⟨RX5, "tub", "(II)I"⟩
abbrev cX5_heir : ByteArray := prog_1_method_8_code
def yX5_heir : MethodName := ⟨RX5, "heir", "(II)I"⟩
abbrev cX5_current : ByteArray := prog_1_method_9_code
def yX5_current : MethodName := ⟨RX5, "current", "(I)I"⟩
abbrev cX5_wind : ByteArray := prog_1_method_10_code
def yX5_wind : MethodName := ⟨RX5, "wind", "(I)I"⟩
abbrev cX5_alter : ByteArray := prog_1_method_11_code
def yX5_alter : MethodName := ⟨RX5, "alter", "(III)I"⟩
abbrev cX5_stand : ByteArray := prog_1_method_12_code
def yX5_stand : MethodName := ⟨RX5, "stand", "(III)I"⟩
abbrev cX5_set : ByteArray := prog_1_method_13_code
def yX5_set : MethodName := ⟨RX5, "set", "(II)I"⟩
abbrev cX5_blow : ByteArray := prog_1_method_14_code
def yX5_blow : MethodName := ⟨RX5, "blow", "(II)I"⟩
abbrev cX5_phase : ByteArray := prog_1_method_15_code
def yX5_phase : MethodName := ⟨RX5, "phase", "(I)I"⟩
abbrev cX5_cast : ByteArray := prog_1_method_16_code
def yX5_cast : MethodName := ⟨RX5, "cast", "(III)I"⟩
abbrev cX5_sink : ByteArray := prog_1_method_17_code
def yX5_sink : MethodName := ⟨RX5, "sink", "(I)I"⟩
abbrev cX5_fate : ByteArray := prog_1_method_18_code
def yX5_fate : MethodName := ⟨RX5, "fate", "(II)I"⟩
abbrev cX5_where : ByteArray := prog_1_method_19_code
def yX5_where : MethodName := ⟨RX5, "where", "(III)I"⟩
abbrev cX5_has : ByteArray := prog_1_method_20_code
def yX5_has : MethodName := ⟨RX5, "has", "(II)I"⟩
abbrev cX5_all : ByteArray := prog_1_method_21_code
def yX5_all : MethodName := ⟨RX5, "all", "(I)I"⟩
abbrev cX5_when : ByteArray := prog_1_method_22_code
def yX5_when : MethodName := ⟨RX5, "when", "(II)I"⟩
abbrev cX5_aim : ByteArray := prog_1_method_23_code
def yX5_aim : MethodName := ⟨RX5, "aim", "(II)I"⟩
abbrev cX5_ways : ByteArray := prog_1_method_24_code
def yX5_ways : MethodName := ⟨RX5, "ways", "(II)I"⟩
abbrev cX5_place : ByteArray := prog_1_method_25_code
def yX5_place : MethodName := ⟨RX5, "place", "(II)I"⟩
abbrev cX5_hook : ByteArray := prog_1_method_26_code
def yX5_hook : MethodName := ⟨RX5, "hook", "(II)I"⟩
abbrev cX5_fire : ByteArray := prog_1_method_27_code
def yX5_fire : MethodName := ⟨RX5, "fire", "(II)I"⟩
abbrev cX5_moon : ByteArray := prog_1_method_28_code
def yX5_moon : MethodName := ⟨RX5, "moon", "(I)I"⟩
abbrev cX5_rest : ByteArray := prog_1_method_29_code
def yX5_rest : MethodName := ⟨RX5, "rest", "(III)I"⟩
abbrev cX5_luck : ByteArray := prog_1_method_30_code
def yX5_luck : MethodName := ⟨RX5, "luck", "(IIII)J"⟩
abbrev cX5_mean : ByteArray := prog_1_method_31_code
def yX5_mean : MethodName := ⟨RX5, "mean", "(III)J"⟩
abbrev cX5_see : ByteArray := prog_1_method_32_code
def yX5_see : MethodName := ⟨RX5, "see", "(III)I"⟩
abbrev cX5_forget : ByteArray := prog_1_method_33_code
def yX5_forget : MethodName := ⟨RX5, "forget", "(I)I"⟩
abbrev cX5_kinds : ByteArray := prog_1_method_34_code
def yX5_kinds : MethodName := ⟨RX5, "kinds", "(I)I"⟩
abbrev cX5_sets : ByteArray := prog_1_method_35_code
def yX5_sets : MethodName := ⟨RX5, "sets", "(I)I"⟩
abbrev cX5_look : ByteArray := prog_1_method_36_code
def yX5_look : MethodName := ⟨RX5, "look", "(II)I"⟩
abbrev cX5_drift : ByteArray := prog_1_method_37_code
def yX5_drift : MethodName := ⟨RX5, "drift", "(III)I"⟩
abbrev cX5_keep : ByteArray := prog_1_method_38_code
def yX5_keep : MethodName := ⟨RX5, "keep", "(I)I"⟩
abbrev cX5_back : ByteArray := prog_1_method_39_code
def yX5_back : MethodName := ⟨RX5, "back", "(I)I"⟩
abbrev cX5_sheet : ByteArray := prog_1_method_40_code
def yX5_sheet : MethodName := ⟨RX5, "sheet", "(III)I"⟩
abbrev cX5_lay : ByteArray := prog_1_method_41_code
def yX5_lay : MethodName := ⟨RX5, "lay", "(III)I"⟩
abbrev cX5_read : ByteArray := prog_1_method_42_code
def yX5_read : MethodName := ⟨RX5, "read", "(IIII)I"⟩
abbrev cX5_torn : ByteArray := prog_1_method_43_code
def yX5_torn : MethodName := ⟨RX5, "torn", "()I"⟩
abbrev cX5_count : ByteArray := prog_1_method_44_code
def yX5_count : MethodName := ⟨RX5, "count", "(I)I"⟩
abbrev cX5_within : ByteArray := prog_1_method_45_code
def yX5_within : MethodName := ⟨RX5, "within", "(III)Z"⟩
abbrev cX5_fitsTub : ByteArray := prog_1_method_46_code
def yX5_fitsTub : MethodName := ⟨RX5, "fitsTub", "(II)Z"⟩
abbrev cX5_fitsHeir : ByteArray := prog_1_method_47_code
def yX5_fitsHeir : MethodName := ⟨RX5, "fitsHeir", "(II)Z"⟩
abbrev cX5_putIn : ByteArray := prog_1_method_48_code
def yX5_putIn : MethodName := ⟨RX5, "putIn", "(III)I"⟩
abbrev cX5_listWindyHours : ByteArray := prog_1_method_49_code
def yX5_listWindyHours : MethodName := ⟨RX5, "listWindyHours", "()I"⟩
abbrev cX5_dropWinds : ByteArray := prog_1_method_50_code
def yX5_dropWinds : MethodName := ⟨RX5, "dropWinds", "(III)J"⟩
abbrev cX5_allOdds : ByteArray := prog_1_method_51_code
def yX5_allOdds : MethodName := ⟨RX5, "allOdds", "(I)J"⟩
abbrev cX5_partOfFraction : ByteArray := prog_1_method_52_code
def yX5_partOfFraction : MethodName := ⟨RX5, "partOfFraction", "(JJI)J"⟩
abbrev cX5_commonDivisor : ByteArray := prog_1_method_53_code
def yX5_commonDivisor : MethodName := ⟨RX5, "commonDivisor", "(JJ)J"⟩
abbrev cX5_weighPairs : ByteArray := prog_1_method_54_code
def yX5_weighPairs : MethodName := ⟨RX5, "weighPairs", "(II)V"⟩
abbrev cX5_neitherWouldGo : ByteArray := prog_1_method_55_code
def yX5_neitherWouldGo : MethodName := ⟨RX5, "neitherWouldGo", "(II)Z"⟩
abbrev cX5_isAsSeen : ByteArray := prog_1_method_56_code
def yX5_isAsSeen : MethodName := ⟨RX5, "isAsSeen", "(LFlotsamWill$Sea;)Z"⟩
abbrev cX5_kindsAsSeen : ByteArray := prog_1_method_57_code
def yX5_kindsAsSeen : MethodName := ⟨RX5, "kindsAsSeen", "(I)I"⟩
abbrev cX5_leftAtWorst : ByteArray := prog_1_method_58_code
def yX5_leftAtWorst : MethodName := ⟨RX5, "leftAtWorst", "(III)I"⟩
def RX6 : String := "FlotsamWillModel"
def TX6 : u_T := fun k => match k with
  | 0 => ("FlotsamWillModel", "state", "[I", true)
  | 1 => ("FlotsamWillModel", "windages", "[I", true)
  | 2 => ("FlotsamWillModel", "heirMany", "I", false)
  | 3 => ("FlotsamWillModel", "readPage", "[I", true)
  | 4 => ("FlotsamWillModel", "readHeirs", "I", false)
  | 5 => ("FlotsamWillModel", "rowsTold", "I", false)
  | 6 => ("FlotsamWillModel", "hoursTold", "I", false)
  | 7 => ("FlotsamWillModel", "isPhaseTold", "Z", false)
  | 8 => ("FlotsamWillModel", "tape", "[I", true)
  | 9 => ("FlotsamWillModel", "taped", "I", false)
  | 10 => ("FlotsamWillModel", "fault", "I", false)
  | 11 => ("FlotsamWillModel", "broken", "I", false)
  | 12 => ("FlotsamWillModel", "brokenAt", "I", false)
  | 13 => ("FlotsamWillModel", "spot", "I", false)
  | 14 => ("FlotsamWillModel", "here", "I", false)
  | 15 => ("FlotsamWillModel", "token", "I", false)
  | 16 => ("FlotsamWillModel", "value", "I", false)
  | 17 => ("FlotsamWillModel", "cuts", "[I", true)
  | 18 => ("FlotsamWillModel", "letters", "[I", true)
  | 19 => ("FlotsamWillModel", "x", "[I", true)
  | 20 => ("FlotsamWillModel", "y", "[I", true)
  | 21 => ("FlotsamWillModel", "way", "[I", true)
  | 22 => ("FlotsamWillModel", "came", "[I", true)
  | 23 => ("FlotsamWillModel", "whose", "[I", true)
  | 24 => ("FlotsamWillModel", "hookedAt", "[I", true)
  | 25 => ("FlotsamWillModel", "dropped", "I", false)
  | 26 => ("FlotsamWillModel", "firsts", "[I", true)
  | 27 => ("FlotsamWillModel", "seconds", "[I", true)
  | 28 => ("FlotsamWillModel", "seen", "[I", true)
  | 29 => ("FlotsamWillModel", "seenMany", "I", false)
  | 30 => ("FlotsamWillModel", "eastBy", "[I", true)
  | 31 => ("FlotsamWillModel", "isKept", "[Z", true)
  | 32 => ("FlotsamWillModel", "lanes", "[I", true)
  | 33 => ("FlotsamWillModel", "lengths", "[I", true)
  | 34 => ("FlotsamWillModel", "cells", "[I", true)
  | _ => ("FlotsamWillModel", "torn", "I", false)
def tyX6 : Nat → FieldType := fun k => match k with
  | 0 => .array .int
  | 1 => .array .int
  | 2 => .int
  | 3 => .array .int
  | 4 => .int
  | 5 => .int
  | 6 => .int
  | 7 => .boolean
  | 8 => .array .int
  | 9 => .int
  | 10 => .int
  | 11 => .int
  | 12 => .int
  | 13 => .int
  | 14 => .int
  | 15 => .int
  | 16 => .int
  | 17 => .array .int
  | 18 => .array .int
  | 19 => .array .int
  | 20 => .array .int
  | 21 => .array .int
  | 22 => .array .int
  | 23 => .array .int
  | 24 => .array .int
  | 25 => .int
  | 26 => .array .int
  | 27 => .array .int
  | 28 => .array .int
  | 29 => .int
  | 30 => .array .int
  | 31 => .array .boolean
  | 32 => .array .int
  | 33 => .array .int
  | 34 => .array .int
  | _ => .int
abbrev wsX60 : List Cond := u_ws RX6 TX6 36
theorem nmX6 : ∀ a, a < 36 → ∀ b, b < 36 → a ≠ b → (TX6 a).2.1 ≠ (TX6 b).2.1 := by decide +kernel
theorem tyX6_ok : ∀ k, k < 36 → parseFieldDescriptor (TX6 k).2.2.1 = some (tyX6 k) := by decide +kernel
abbrev cX6_init : ByteArray := prog_8_method_1_code
def yX6_init : MethodName := ⟨RX6, "<init>", "()V"⟩
abbrev cX6_in : ByteArray := prog_8_method_3_code
def yX6_in : MethodName := ⟨RX6, "in", "(JJJ)Z"⟩
abbrev cX6_feed : ByteArray := prog_8_method_4_code
def yX6_feed : MethodName := ⟨RX6, "feed", "(I)I"⟩
abbrev cX6_end : ByteArray := prog_8_method_5_code
def yX6_end : MethodName := ⟨RX6, "end", "(I)I"⟩
abbrev cX6_byteAt : ByteArray := prog_8_method_6_code
def yX6_byteAt : MethodName := ⟨RX6, "byteAt", "(I)I"⟩
abbrev cX6_fails : ByteArray := prog_8_method_7_code
def yX6_fails : MethodName := ⟨RX6, "fails", "(I)V"⟩
abbrev cX6_nameHere : ByteArray := prog_8_method_8_code
def yX6_nameHere : MethodName := ⟨RX6, "nameHere", "()I"⟩
abbrev cX6_step : ByteArray := prog_8_method_9_code
def yX6_step : MethodName := ⟨RX6, "step", "()V"⟩
abbrev cX6_other : ByteArray := prog_8_method_10_code
def yX6_other : MethodName := ⟨RX6, "other", "(III)I"⟩
abbrev cX6_readTub : ByteArray := prog_8_method_11_code
def yX6_readTub : MethodName := ⟨RX6, "readTub", "(I)V"⟩
abbrev cX6_readHeir : ByteArray := prog_8_method_12_code
def yX6_readHeir : MethodName := ⟨RX6, "readHeir", "()V"⟩
abbrev cX6_readMore : ByteArray := prog_8_method_13_code
def yX6_readMore : MethodName := ⟨RX6, "readMore", "(I)V"⟩
abbrev cX6_readLine : ByteArray := prog_8_method_14_code
def yX6_readLine : MethodName := ⟨RX6, "readLine", "()V"⟩
abbrev cX6_text : ByteArray := prog_8_method_15_code
def yX6_text : MethodName := ⟨RX6, "text", "()I"⟩
abbrev cX6_fault : ByteArray := prog_8_method_16_code
def yX6_fault : MethodName := ⟨RX6, "fault", "()I"⟩
abbrev cX6_isTub : ByteArray := prog_8_method_17_code
def yX6_isTub : MethodName := ⟨RX6, "isTub", "(I)Z"⟩
abbrev cX6_isHeir : ByteArray := prog_8_method_18_code
def yX6_isHeir : MethodName := ⟨RX6, "isHeir", "(I)Z"⟩
abbrev cX6_isHour : ByteArray := prog_8_method_19_code
def yX6_isHour : MethodName := ⟨RX6, "isHour", "(I)Z"⟩
abbrev cX6_estates : ByteArray := prog_8_method_20_code
def yX6_estates : MethodName := ⟨RX6, "estates", "()I"⟩
abbrev cX6_windyHours : ByteArray := prog_8_method_21_code
def yX6_windyHours : MethodName := ⟨RX6, "windyHours", "()I"⟩
abbrev cX6_bitsOf : ByteArray := prog_8_method_22_code
def yX6_bitsOf : MethodName := ⟨RX6, "bitsOf", "(I)I"⟩
abbrev cX6_rule : ByteArray := prog_8_method_23_code
def yX6_rule : MethodName := ⟨RX6, "rule", "(I)I"⟩
abbrev cX6_tub : ByteArray := prog_8_method_24_code
def yX6_tub : MethodName := ⟨RX6, "tub", "(II)I"⟩
abbrev cX6_heir : ByteArray := prog_8_method_25_code
def yX6_heir : MethodName := ⟨RX6, "heir", "(II)I"⟩
abbrev cX6_current : ByteArray := prog_8_method_26_code
def yX6_current : MethodName := ⟨RX6, "current", "(I)I"⟩
abbrev cX6_wind : ByteArray := prog_8_method_27_code
def yX6_wind : MethodName := ⟨RX6, "wind", "(I)I"⟩
abbrev cX6_puts : ByteArray := prog_8_method_28_code
def yX6_puts : MethodName := ⟨RX6, "puts", "(ZIII)I"⟩
abbrev cX6_alter : ByteArray := prog_8_method_29_code
def yX6_alter : MethodName := ⟨RX6, "alter", "(III)I"⟩
abbrev cX6_stand : ByteArray := prog_8_method_30_code
def yX6_stand : MethodName := ⟨RX6, "stand", "(III)I"⟩
abbrev cX6_set : ByteArray := prog_8_method_31_code
def yX6_set : MethodName := ⟨RX6, "set", "(II)I"⟩
abbrev cX6_blow : ByteArray := prog_8_method_32_code
def yX6_blow : MethodName := ⟨RX6, "blow", "(II)I"⟩
abbrev cX6_phase : ByteArray := prog_8_method_33_code
def yX6_phase : MethodName := ⟨RX6, "phase", "(I)I"⟩
abbrev cX6_casts : ByteArray := prog_8_method_34_code
def yX6_casts : MethodName := ⟨RX6, "casts", "(III)I"⟩
abbrev cX6_cast : ByteArray := prog_8_method_35_code
def yX6_cast : MethodName := ⟨RX6, "cast", "(III)I"⟩
abbrev cX6_sink : ByteArray := prog_8_method_36_code
def yX6_sink : MethodName := ⟨RX6, "sink", "(I)I"⟩
abbrev cX6_drifts : ByteArray := prog_8_method_37_code
def yX6_drifts : MethodName := ⟨RX6, "drifts", "(III)V"⟩
abbrev cX6_hooks : ByteArray := prog_8_method_38_code
def yX6_hooks : MethodName := ⟨RX6, "hooks", "(III)V"⟩
abbrev cX6_dayGoes : ByteArray := prog_8_method_39_code
def yX6_dayGoes : MethodName := ⟨RX6, "dayGoes", "(II)V"⟩
abbrev cX6_estatesOf : ByteArray := prog_8_method_40_code
def yX6_estatesOf : MethodName := ⟨RX6, "estatesOf", "(II)I"⟩
abbrev cX6_worth : ByteArray := prog_8_method_41_code
def yX6_worth : MethodName := ⟨RX6, "worth", "(II)I"⟩
abbrev cX6_tubsOf : ByteArray := prog_8_method_42_code
def yX6_tubsOf : MethodName := ⟨RX6, "tubsOf", "(II)I"⟩
abbrev cX6_fate : ByteArray := prog_8_method_43_code
def yX6_fate : MethodName := ⟨RX6, "fate", "(II)I"⟩
abbrev cX6_where : ByteArray := prog_8_method_44_code
def yX6_where : MethodName := ⟨RX6, "where", "(III)I"⟩
abbrev cX6_has : ByteArray := prog_8_method_45_code
def yX6_has : MethodName := ⟨RX6, "has", "(II)I"⟩
abbrev cX6_all : ByteArray := prog_8_method_46_code
def yX6_all : MethodName := ⟨RX6, "all", "(I)I"⟩
abbrev cX6_copies : ByteArray := prog_8_method_47_code
def yX6_copies : MethodName := ⟨RX6, "copies", "(II)V"⟩
abbrev cX6_isHooked : ByteArray := prog_8_method_48_code
def yX6_isHooked : MethodName := ⟨RX6, "isHooked", "(II)Z"⟩
abbrev cX6_when : ByteArray := prog_8_method_49_code
def yX6_when : MethodName := ⟨RX6, "when", "(II)I"⟩
abbrev cX6_aim : ByteArray := prog_8_method_50_code
def yX6_aim : MethodName := ⟨RX6, "aim", "(II)I"⟩
abbrev cX6_ways : ByteArray := prog_8_method_51_code
def yX6_ways : MethodName := ⟨RX6, "ways", "(II)I"⟩
abbrev cX6_place : ByteArray := prog_8_method_52_code
def yX6_place : MethodName := ⟨RX6, "place", "(II)I"⟩
abbrev cX6_hook : ByteArray := prog_8_method_53_code
def yX6_hook : MethodName := ⟨RX6, "hook", "(II)I"⟩
abbrev cX6_fire : ByteArray := prog_8_method_54_code
def yX6_fire : MethodName := ⟨RX6, "fire", "(II)I"⟩
abbrev cX6_moon : ByteArray := prog_8_method_55_code
def yX6_moon : MethodName := ⟨RX6, "moon", "(I)I"⟩
abbrev cX6_isRest : ByteArray := prog_8_method_56_code
def yX6_isRest : MethodName := ⟨RX6, "isRest", "(II)Z"⟩
abbrev cX6_rest : ByteArray := prog_8_method_57_code
def yX6_rest : MethodName := ⟨RX6, "rest", "(III)I"⟩
abbrev cX6_lowest : ByteArray := prog_8_method_58_code
def yX6_lowest : MethodName := ⟨RX6, "lowest", "(JJI)J"⟩
abbrev cX6_byDrops : ByteArray := prog_8_method_59_code
def yX6_byDrops : MethodName := ⟨RX6, "byDrops", "(IIII)J"⟩
abbrev cX6_luck : ByteArray := prog_8_method_60_code
def yX6_luck : MethodName := ⟨RX6, "luck", "(IIII)J"⟩
abbrev cX6_mean : ByteArray := prog_8_method_61_code
def yX6_mean : MethodName := ⟨RX6, "mean", "(III)J"⟩
abbrev cX6_see : ByteArray := prog_8_method_62_code
def yX6_see : MethodName := ⟨RX6, "see", "(III)I"⟩
abbrev cX6_forget : ByteArray := prog_8_method_63_code
def yX6_forget : MethodName := ⟨RX6, "forget", "(I)I"⟩
abbrev cX6_isAsSeen : ByteArray := prog_8_method_64_code
def yX6_isAsSeen : MethodName := ⟨RX6, "isAsSeen", "()Z"⟩
abbrev cX6_kindsOf : ByteArray := prog_8_method_65_code
def yX6_kindsOf : MethodName := ⟨RX6, "kindsOf", "(I)I"⟩
abbrev cX6_kinds : ByteArray := prog_8_method_66_code
def yX6_kinds : MethodName := ⟨RX6, "kinds", "(I)I"⟩
abbrev cX6_sets : ByteArray := prog_8_method_67_code
def yX6_sets : MethodName := ⟨RX6, "sets", "(I)I"⟩
abbrev cX6_look : ByteArray := prog_8_method_68_code
def yX6_look : MethodName := ⟨RX6, "look", "(II)I"⟩
abbrev cX6_drift : ByteArray := prog_8_method_69_code
def yX6_drift : MethodName := ⟨RX6, "drift", "(III)I"⟩
abbrev cX6_keep : ByteArray := prog_8_method_70_code
def yX6_keep : MethodName := ⟨RX6, "keep", "(I)I"⟩
abbrev cX6_back : ByteArray := prog_8_method_71_code
def yX6_back : MethodName := ⟨RX6, "back", "(I)I"⟩
abbrev cX6_sheet : ByteArray := prog_8_method_72_code
def yX6_sheet : MethodName := ⟨RX6, "sheet", "(III)I"⟩
abbrev cX6_lay : ByteArray := prog_8_method_73_code
def yX6_lay : MethodName := ⟨RX6, "lay", "(III)I"⟩
abbrev cX6_read : ByteArray := prog_8_method_74_code
def yX6_read : MethodName := ⟨RX6, "read", "(IIII)I"⟩
abbrev cX6_torn : ByteArray := prog_8_method_75_code
def yX6_torn : MethodName := ⟨RX6, "torn", "()I"⟩
abbrev cX6_count : ByteArray := prog_8_method_76_code
def yX6_count : MethodName := ⟨RX6, "count", "(I)I"⟩
def RJ6 : String := "java/lang/Integer"
def TJ6 : u_T := fun k => match k with
  | _ => ("", "", "", false)
def tyJ6 : Nat → FieldType := fun k => match k with
  | _ => .int
abbrev wsJ60 : List Cond := u_ws RJ6 TJ6 0
theorem nmJ6 : ∀ a, a < 0 → ∀ b, b < 0 → a ≠ b → (TJ6 a).2.1 ≠ (TJ6 b).2.1 := by decide +kernel
theorem tyJ6_ok : ∀ k, k < 0 → parseFieldDescriptor (TJ6 k).2.2.1 = some (tyJ6 k) := by decide +kernel
abbrev cJ6_bitCount_0f7a4 : ByteArray := prog_9_method_49_code
def yJ6_bitCount_0f7a4 : MethodName := ⟨RJ6, "bitCount", "(I)I"⟩
def RJ9 : String := "java/lang/Math"
def TJ9 : u_T := fun k => match k with
  | _ => ("", "", "", false)
def tyJ9 : Nat → FieldType := fun k => match k with
  | _ => .int
abbrev wsJ90 : List Cond := u_ws RJ9 TJ9 0
theorem nmJ9 : ∀ a, a < 0 → ∀ b, b < 0 → a ≠ b → (TJ9 a).2.1 ≠ (TJ9 b).2.1 := by decide +kernel
theorem tyJ9_ok : ∀ k, k < 0 → parseFieldDescriptor (TJ9 k).2.2.1 = some (tyJ9 k) := by decide +kernel
abbrev cJ9_abs_0f7a4 : ByteArray := prog_10_method_59_code
def yJ9_abs_0f7a4 : MethodName := ⟨RJ9, "abs", "(I)I"⟩
abbrev cJ9_max_7cf53 : ByteArray := prog_10_method_65_code
def yJ9_max_7cf53 : MethodName := ⟨RJ9, "max", "(II)I"⟩
abbrev cJ9_min_7cf53 : ByteArray := prog_10_method_69_code
def yJ9_min_7cf53 : MethodName := ⟨RJ9, "min", "(II)I"⟩
def RJ0 : String := "java/lang/String"
def TJ0 : u_T := fun k => match k with
  | _ => ("", "", "", false)
def tyJ0 : Nat → FieldType := fun k => match k with
  | _ => .int
abbrev wsJ00 : List Cond := u_ws RJ0 TJ0 0
theorem nmJ0 : ∀ a, a < 0 → ∀ b, b < 0 → a ≠ b → (TJ0 a).2.1 ≠ (TJ0 b).2.1 := by decide +kernel
theorem tyJ0_ok : ∀ k, k < 0 → parseFieldDescriptor (TJ0 k).2.2.1 = some (tyJ0 k) := by decide +kernel
abbrev cJ0_length_8abf5 : ByteArray := prog_11_method_54_code
def yJ0_length_8abf5 : MethodName := ⟨RJ0, "length", "()I"⟩
abbrev cJ0_charAt_5068e : ByteArray := prog_11_method_56_code
def yJ0_charAt_5068e : MethodName := ⟨RJ0, "charAt", "(I)C"⟩
abbrev cJ0_coder_7d493 : ByteArray := prog_11_method_152_code
def yJ0_coder_7d493 : MethodName := ⟨RJ0, "coder", "()B"⟩
abbrev cJ0_isLatin1_aae02 : ByteArray := prog_11_method_154_code
def yJ0_isLatin1_aae02 : MethodName := ⟨RJ0, "isLatin1", "()Z"⟩
abbrev cJ0_checkIndex_df160 : ByteArray := prog_11_method_155_code
def yJ0_checkIndex_df160 : MethodName := ⟨RJ0, "checkIndex", "(II)V"⟩
def RJ1 : String := "java/lang/StringLatin1"
def TJ1 : u_T := fun k => match k with
  | _ => ("", "", "", false)
def tyJ1 : Nat → FieldType := fun k => match k with
  | _ => .int
abbrev wsJ10 : List Cond := u_ws RJ1 TJ1 0
theorem nmJ1 : ∀ a, a < 0 → ∀ b, b < 0 → a ≠ b → (TJ1 a).2.1 ≠ (TJ1 b).2.1 := by decide +kernel
theorem tyJ1_ok : ∀ k, k < 0 → parseFieldDescriptor (TJ1 k).2.2.1 = some (tyJ1 k) := by decide +kernel
abbrev cJ1_charAt_3b067 : ByteArray := prog_12_method_2_code
def yJ1_charAt_3b067 : MethodName := ⟨RJ1, "charAt", "([BI)C"⟩
def RJ2 : String := "java/lang/StringUTF16"
def TJ2 : u_T := fun k => match k with
  | _ => ("", "", "", false)
def tyJ2 : Nat → FieldType := fun k => match k with
  | _ => .int
abbrev wsJ20 : List Cond := u_ws RJ2 TJ2 0
theorem nmJ2 : ∀ a, a < 0 → ∀ b, b < 0 → a ≠ b → (TJ2 a).2.1 ≠ (TJ2 b).2.1 := by decide +kernel
theorem tyJ2_ok : ∀ k, k < 0 → parseFieldDescriptor (TJ2 k).2.2.1 = some (tyJ2 k) := by decide +kernel
abbrev cJ2_getChar_3b067 : ByteArray := prog_13_method_5_code
def yJ2_getChar_3b067 : MethodName := ⟨RJ2, "getChar", "([BI)C"⟩
abbrev cJ2_length_9d52b : ByteArray := prog_13_method_6_code
def yJ2_length_9d52b : MethodName := ⟨RJ2, "length", "([B)I"⟩
abbrev cJ2_charAt_3b067 : ByteArray := prog_13_method_83_code
def yJ2_charAt_3b067 : MethodName := ⟨RJ2, "charAt", "([BI)C"⟩
abbrev cJ2_checkIndex_2214a : ByteArray := prog_13_method_91_code
def yJ2_checkIndex_2214a : MethodName := ⟨RJ2, "checkIndex", "(I[B)V"⟩
def RJ10 : String := "java/lang/System"
def TJ10 : u_T := fun k => match k with
  | _ => ("", "", "", false)
def tyJ10 : Nat → FieldType := fun k => match k with
  | _ => .int
abbrev wsJ100 : List Cond := u_ws RJ10 TJ10 0
theorem nmJ10 : ∀ a, a < 0 → ∀ b, b < 0 → a ≠ b → (TJ10 a).2.1 ≠ (TJ10 b).2.1 := by decide +kernel
theorem tyJ10_ok : ∀ k, k < 0 → parseFieldDescriptor (TJ10 k).2.2.1 = some (tyJ10 k) := by decide +kernel
def RJ3 : String := "jdk/internal/util/Preconditions"
def TJ3 : u_T := fun k => match k with
  | _ => ("", "", "", false)
def tyJ3 : Nat → FieldType := fun k => match k with
  | _ => .int
abbrev wsJ30 : List Cond := u_ws RJ3 TJ3 0
theorem nmJ3 : ∀ a, a < 0 → ∀ b, b < 0 → a ≠ b → (TJ3 a).2.1 ≠ (TJ3 b).2.1 := by decide +kernel
theorem tyJ3_ok : ∀ k, k < 0 → parseFieldDescriptor (TJ3 k).2.2.1 = some (tyJ3 k) := by decide +kernel
abbrev cJ3_checkIndex_8e157 : ByteArray := prog_15_method_11_code
def yJ3_checkIndex_8e157 : MethodName := ⟨RJ3, "checkIndex", "(IILjava/util/function/BiFunction;)I"⟩
def RL : String := "FlotsamWillLaw"
abbrev cL_law : ByteArray := code
def yL_law : MethodName := ⟨RL, "law", "([I)Z"⟩
abbrev vwCl : List vw_C := [(RX0, TX0, 6), (RX1, TX1, 7), (RX2, TX2, 7), (RX3, TX3, 3), (RX4, TX4, 6), (RX5, TX5, 17), (RX6, TX6, 36)]
end
section
theorem dX0_init_0 : decode cX0_init 0 = .ok (.aload_n 0, 1) := by decide +kernel
theorem dX0_init_1 : decode cX0_init 1 = .ok (.invokespecial 3, 3) := by decide +kernel
theorem dX0_init_4 : decode cX0_init 4 = .ok (.aload_n 0, 1) := by decide +kernel
theorem dX0_init_5 : decode cX0_init 5 = .ok (.iconst 4, 1) := by decide +kernel
theorem dX0_init_6 : decode cX0_init 6 = .ok (.newarray .int, 2) := by decide +kernel
theorem dX0_init_8 : decode cX0_init 8 = .ok (.putfield 9, 3) := by decide +kernel
theorem dX0_init_11 : decode cX0_init 11 = .ok (.aload_n 0, 1) := by decide +kernel
theorem dX0_init_12 : decode cX0_init 12 = .ok (.iconst 4, 1) := by decide +kernel
theorem dX0_init_13 : decode cX0_init 13 = .ok (.newarray .int, 2) := by decide +kernel
theorem dX0_init_15 : decode cX0_init 15 = .ok (.putfield 15, 3) := by decide +kernel
theorem dX0_init_18 : decode cX0_init 18 = .ok (.aload_n 0, 1) := by decide +kernel
theorem dX0_init_19 : decode cX0_init 19 = .ok (.iconst 4, 1) := by decide +kernel
theorem dX0_init_20 : decode cX0_init 20 = .ok (.newarray .int, 2) := by decide +kernel
theorem dX0_init_22 : decode cX0_init 22 = .ok (.putfield 18, 3) := by decide +kernel
theorem dX0_init_25 : decode cX0_init 25 = .ok (.aload_n 0, 1) := by decide +kernel
theorem dX0_init_26 : decode cX0_init 26 = .ok (.iconst 4, 1) := by decide +kernel
theorem dX0_init_27 : decode cX0_init 27 = .ok (.newarray .int, 2) := by decide +kernel
theorem dX0_init_29 : decode cX0_init 29 = .ok (.putfield 21, 3) := by decide +kernel
theorem dX0_init_32 : decode cX0_init 32 = .ok (.aload_n 0, 1) := by decide +kernel
theorem dX0_init_33 : decode cX0_init 33 = .ok (.iconst 4, 1) := by decide +kernel
theorem dX0_init_34 : decode cX0_init 34 = .ok (.newarray .int, 2) := by decide +kernel
theorem dX0_init_36 : decode cX0_init 36 = .ok (.putfield 24, 3) := by decide +kernel
theorem dX0_init_39 : decode cX0_init 39 = .ok (.aload_n 0, 1) := by decide +kernel
theorem dX0_init_40 : decode cX0_init 40 = .ok (.iconst 4, 1) := by decide +kernel
theorem dX0_init_41 : decode cX0_init 41 = .ok (.newarray .int, 2) := by decide +kernel
theorem dX0_init_43 : decode cX0_init 43 = .ok (.putfield 27, 3) := by decide +kernel
theorem dX0_init_46 : decode cX0_init 46 = .ok (.return_, 1) := by decide +kernel
theorem dX0_run_0 : decode cX0_run 0 = .ok (.iconst 0, 1) := by decide +kernel
theorem dX0_run_1 : decode cX0_run 1 = .ok (.istore_n 2, 1) := by decide +kernel
theorem dX0_run_2 : decode cX0_run 2 = .ok (.iload_n 2, 1) := by decide +kernel
theorem dX0_run_3 : decode cX0_run 3 = .ok (.aload_n 1, 1) := by decide +kernel
theorem dX0_run_4 : decode cX0_run 4 = .ok (.getfield 30, 3) := by decide +kernel
theorem dX0_run_7 : decode cX0_run 7 = .ok (.if_icmp .ge 17, 3) := by decide +kernel
theorem dX0_run_10 : decode cX0_run 10 = .ok (.aload_n 0, 1) := by decide +kernel
theorem dX0_run_11 : decode cX0_run 11 = .ok (.aload_n 1, 1) := by decide +kernel
theorem dX0_run_12 : decode cX0_run 12 = .ok (.iload_n 2, 1) := by decide +kernel
theorem dX0_run_13 : decode cX0_run 13 = .ok (.bipush 24, 2) := by decide +kernel
theorem dX0_run_15 : decode cX0_run 15 = .ok (.invokevirtual 36, 3) := by decide +kernel
theorem dX0_run_18 : decode cX0_run 18 = .ok (.iinc 2 1, 3) := by decide +kernel
theorem dX0_run_21 : decode cX0_run 21 = .ok (.goto (-19), 3) := by decide +kernel
theorem dX0_run_24 : decode cX0_run 24 = .ok (.return_, 1) := by decide +kernel
theorem dX0_sail_0 : decode cX0_sail 0 = .ok (.iconst 0, 1) := by decide +kernel
theorem dX0_sail_1 : decode cX0_sail 1 = .ok (.istore_n 2, 1) := by decide +kernel
theorem dX0_sail_2 : decode cX0_sail 2 = .ok (.iload_n 2, 1) := by decide +kernel
theorem dX0_sail_3 : decode cX0_sail 3 = .ok (.aload_n 1, 1) := by decide +kernel
theorem dX0_sail_4 : decode cX0_sail 4 = .ok (.getfield 30, 3) := by decide +kernel
theorem dX0_sail_7 : decode cX0_sail 7 = .ok (.if_icmp .ge 17, 3) := by decide +kernel
theorem dX0_sail_10 : decode cX0_sail 10 = .ok (.aload_n 0, 1) := by decide +kernel
theorem dX0_sail_11 : decode cX0_sail 11 = .ok (.aload_n 1, 1) := by decide +kernel
theorem dX0_sail_12 : decode cX0_sail 12 = .ok (.iload_n 2, 1) := by decide +kernel
theorem dX0_sail_13 : decode cX0_sail 13 = .ok (.bipush 24, 2) := by decide +kernel
theorem dX0_sail_15 : decode cX0_sail 15 = .ok (.invokevirtual 40, 3) := by decide +kernel
theorem dX0_sail_18 : decode cX0_sail 18 = .ok (.iinc 2 1, 3) := by decide +kernel
theorem dX0_sail_21 : decode cX0_sail 21 = .ok (.goto (-19), 3) := by decide +kernel
theorem dX0_sail_24 : decode cX0_sail 24 = .ok (.return_, 1) := by decide +kernel
theorem dX0_meet_0 : decode cX0_meet 0 = .ok (.iconst 0, 1) := by decide +kernel
theorem dX0_meet_1 : decode cX0_meet 1 = .ok (.istore_n 2, 1) := by decide +kernel
theorem dX0_meet_2 : decode cX0_meet 2 = .ok (.iload_n 2, 1) := by decide +kernel
theorem dX0_meet_3 : decode cX0_meet 3 = .ok (.aload_n 1, 1) := by decide +kernel
theorem dX0_meet_4 : decode cX0_meet 4 = .ok (.getfield 30, 3) := by decide +kernel
theorem dX0_meet_7 : decode cX0_meet 7 = .ok (.if_icmp .ge 17, 3) := by decide +kernel
theorem dX0_meet_10 : decode cX0_meet 10 = .ok (.aload_n 0, 1) := by decide +kernel
theorem dX0_meet_11 : decode cX0_meet 11 = .ok (.aload_n 1, 1) := by decide +kernel
theorem dX0_meet_12 : decode cX0_meet 12 = .ok (.iload_n 2, 1) := by decide +kernel
theorem dX0_meet_13 : decode cX0_meet 13 = .ok (.bipush 24, 2) := by decide +kernel
theorem dX0_meet_15 : decode cX0_meet 15 = .ok (.invokevirtual 43, 3) := by decide +kernel
theorem dX0_meet_18 : decode cX0_meet 18 = .ok (.iinc 2 1, 3) := by decide +kernel
theorem dX0_meet_21 : decode cX0_meet 21 = .ok (.goto (-19), 3) := by decide +kernel
theorem dX0_meet_24 : decode cX0_meet 24 = .ok (.return_, 1) := by decide +kernel
theorem dX0_runTub_0 : decode cX0_runTub 0 = .ok (.aload_n 0, 1) := by decide +kernel
theorem dX0_runTub_1 : decode cX0_runTub 1 = .ok (.aload_n 1, 1) := by decide +kernel
theorem dX0_runTub_2 : decode cX0_runTub 2 = .ok (.iload_n 2, 1) := by decide +kernel
theorem dX0_runTub_3 : decode cX0_runTub 3 = .ok (.iload_n 3, 1) := by decide +kernel
theorem dX0_runTub_4 : decode cX0_runTub 4 = .ok (.invokevirtual 40, 3) := by decide +kernel
theorem dX0_runTub_7 : decode cX0_runTub 7 = .ok (.aload_n 0, 1) := by decide +kernel
theorem dX0_runTub_8 : decode cX0_runTub 8 = .ok (.aload_n 1, 1) := by decide +kernel
theorem dX0_runTub_9 : decode cX0_runTub 9 = .ok (.iload_n 2, 1) := by decide +kernel
theorem dX0_runTub_10 : decode cX0_runTub 10 = .ok (.iload_n 3, 1) := by decide +kernel
theorem dX0_runTub_11 : decode cX0_runTub 11 = .ok (.invokevirtual 43, 3) := by decide +kernel
theorem dX0_runTub_14 : decode cX0_runTub 14 = .ok (.return_, 1) := by decide +kernel
theorem dX0_sailTub_0 : decode cX0_sailTub 0 = .ok (.aload_n 0, 1) := by decide +kernel
theorem dX0_sailTub_1 : decode cX0_sailTub 1 = .ok (.getfield 9, 3) := by decide +kernel
theorem dX0_sailTub_4 : decode cX0_sailTub 4 = .ok (.iload_n 2, 1) := by decide +kernel
theorem dX0_sailTub_5 : decode cX0_sailTub 5 = .ok (.aload_n 1, 1) := by decide +kernel
theorem dX0_sailTub_6 : decode cX0_sailTub 6 = .ok (.iload_n 2, 1) := by decide +kernel
theorem dX0_sailTub_7 : decode cX0_sailTub 7 = .ok (.iconst 1, 1) := by decide +kernel
theorem dX0_sailTub_8 : decode cX0_sailTub 8 = .ok (.invokevirtual 46, 3) := by decide +kernel
theorem dX0_sailTub_11 : decode cX0_sailTub 11 = .ok (.iastore, 1) := by decide +kernel
theorem dX0_sailTub_12 : decode cX0_sailTub 12 = .ok (.aload_n 0, 1) := by decide +kernel
theorem dX0_sailTub_13 : decode cX0_sailTub 13 = .ok (.getfield 15, 3) := by decide +kernel
theorem dX0_sailTub_16 : decode cX0_sailTub 16 = .ok (.iload_n 2, 1) := by decide +kernel
theorem dX0_sailTub_17 : decode cX0_sailTub 17 = .ok (.aload_n 1, 1) := by decide +kernel
theorem dX0_sailTub_18 : decode cX0_sailTub 18 = .ok (.iload_n 2, 1) := by decide +kernel
theorem dX0_sailTub_19 : decode cX0_sailTub 19 = .ok (.iconst 2, 1) := by decide +kernel
theorem dX0_sailTub_20 : decode cX0_sailTub 20 = .ok (.invokevirtual 46, 3) := by decide +kernel
theorem dX0_sailTub_23 : decode cX0_sailTub 23 = .ok (.iastore, 1) := by decide +kernel
theorem dX0_sailTub_24 : decode cX0_sailTub 24 = .ok (.aload_n 0, 1) := by decide +kernel
theorem dX0_sailTub_25 : decode cX0_sailTub 25 = .ok (.getfield 18, 3) := by decide +kernel
theorem dX0_sailTub_28 : decode cX0_sailTub 28 = .ok (.iload_n 2, 1) := by decide +kernel
theorem dX0_sailTub_29 : decode cX0_sailTub 29 = .ok (.iconst 0, 1) := by decide +kernel
theorem dX0_sailTub_30 : decode cX0_sailTub 30 = .ok (.iastore, 1) := by decide +kernel
theorem dX0_sailTub_31 : decode cX0_sailTub 31 = .ok (.aload_n 0, 1) := by decide +kernel
theorem dX0_sailTub_32 : decode cX0_sailTub 32 = .ok (.getfield 21, 3) := by decide +kernel
theorem dX0_sailTub_35 : decode cX0_sailTub 35 = .ok (.iload_n 2, 1) := by decide +kernel
theorem dX0_sailTub_36 : decode cX0_sailTub 36 = .ok (.bipush (-4), 2) := by decide +kernel
theorem dX0_sailTub_38 : decode cX0_sailTub 38 = .ok (.iastore, 1) := by decide +kernel
theorem dX0_sailTub_39 : decode cX0_sailTub 39 = .ok (.aload_n 1, 1) := by decide +kernel
theorem dX0_sailTub_40 : decode cX0_sailTub 40 = .ok (.iload_n 2, 1) := by decide +kernel
theorem dX0_sailTub_41 : decode cX0_sailTub 41 = .ok (.iconst 3, 1) := by decide +kernel
theorem dX0_sailTub_42 : decode cX0_sailTub 42 = .ok (.invokevirtual 46, 3) := by decide +kernel
theorem dX0_sailTub_45 : decode cX0_sailTub 45 = .ok (.istore 4, 2) := by decide +kernel
theorem dX0_sailTub_47 : decode cX0_sailTub 47 = .ok (.iload 4, 2) := by decide +kernel
theorem dX0_sailTub_49 : decode cX0_sailTub 49 = .ok (.iload_n 3, 1) := by decide +kernel
theorem dX0_sailTub_50 : decode cX0_sailTub 50 = .ok (.if_icmp .ge 26, 3) := by decide +kernel
theorem dX0_sailTub_53 : decode cX0_sailTub 53 = .ok (.aload_n 0, 1) := by decide +kernel
theorem dX0_sailTub_54 : decode cX0_sailTub 54 = .ok (.getfield 18, 3) := by decide +kernel
theorem dX0_sailTub_57 : decode cX0_sailTub 57 = .ok (.iload_n 2, 1) := by decide +kernel
theorem dX0_sailTub_58 : decode cX0_sailTub 58 = .ok (.iaload, 1) := by decide +kernel
theorem dX0_sailTub_59 : decode cX0_sailTub 59 = .ok (.ifCond .ne 17, 3) := by decide +kernel
theorem dX0_sailTub_62 : decode cX0_sailTub 62 = .ok (.aload_n 0, 1) := by decide +kernel
theorem dX0_sailTub_63 : decode cX0_sailTub 63 = .ok (.aload_n 1, 1) := by decide +kernel
theorem dX0_sailTub_64 : decode cX0_sailTub 64 = .ok (.iload_n 2, 1) := by decide +kernel
theorem dX0_sailTub_65 : decode cX0_sailTub 65 = .ok (.iload 4, 2) := by decide +kernel
theorem dX0_sailTub_67 : decode cX0_sailTub 67 = .ok (.invokevirtual 50, 3) := by decide +kernel
theorem dX0_sailTub_70 : decode cX0_sailTub 70 = .ok (.iinc 4 1, 3) := by decide +kernel
theorem dX0_sailTub_73 : decode cX0_sailTub 73 = .ok (.goto (-26), 3) := by decide +kernel
theorem dX0_sailTub_76 : decode cX0_sailTub 76 = .ok (.return_, 1) := by decide +kernel
theorem dX0_sailHour_0 : decode cX0_sailHour 0 = .ok (.aload_n 1, 1) := by decide +kernel
theorem dX0_sailHour_1 : decode cX0_sailHour 1 = .ok (.getfield 53, 3) := by decide +kernel
theorem dX0_sailHour_4 : decode cX0_sailHour 4 = .ok (.iload_n 3, 1) := by decide +kernel
theorem dX0_sailHour_5 : decode cX0_sailHour 5 = .ok (.iaload, 1) := by decide +kernel
theorem dX0_sailHour_6 : decode cX0_sailHour 6 = .ok (.istore 4, 2) := by decide +kernel
theorem dX0_sailHour_8 : decode cX0_sailHour 8 = .ok (.getstatic 56, 3) := by decide +kernel
theorem dX0_sailHour_11 : decode cX0_sailHour 11 = .ok (.aload_n 1, 1) := by decide +kernel
theorem dX0_sailHour_12 : decode cX0_sailHour 12 = .ok (.iload_n 2, 1) := by decide +kernel
theorem dX0_sailHour_13 : decode cX0_sailHour 13 = .ok (.iconst 0, 1) := by decide +kernel
theorem dX0_sailHour_14 : decode cX0_sailHour 14 = .ok (.invokevirtual 46, 3) := by decide +kernel
theorem dX0_sailHour_17 : decode cX0_sailHour 17 = .ok (.iaload, 1) := by decide +kernel
theorem dX0_sailHour_18 : decode cX0_sailHour 18 = .ok (.istore 5, 2) := by decide +kernel
theorem dX0_sailHour_20 : decode cX0_sailHour 20 = .ok (.aload_n 0, 1) := by decide +kernel
theorem dX0_sailHour_21 : decode cX0_sailHour 21 = .ok (.getfield 9, 3) := by decide +kernel
theorem dX0_sailHour_24 : decode cX0_sailHour 24 = .ok (.iload_n 2, 1) := by decide +kernel
theorem dX0_sailHour_25 : decode cX0_sailHour 25 = .ok (.iaload, 1) := by decide +kernel
theorem dX0_sailHour_26 : decode cX0_sailHour 26 = .ok (.aload_n 1, 1) := by decide +kernel
theorem dX0_sailHour_27 : decode cX0_sailHour 27 = .ok (.getfield 59, 3) := by decide +kernel
theorem dX0_sailHour_30 : decode cX0_sailHour 30 = .ok (.aload_n 0, 1) := by decide +kernel
theorem dX0_sailHour_31 : decode cX0_sailHour 31 = .ok (.getfield 15, 3) := by decide +kernel
theorem dX0_sailHour_34 : decode cX0_sailHour 34 = .ok (.iload_n 2, 1) := by decide +kernel
theorem dX0_sailHour_35 : decode cX0_sailHour 35 = .ok (.iaload, 1) := by decide +kernel
theorem dX0_sailHour_36 : decode cX0_sailHour 36 = .ok (.iaload, 1) := by decide +kernel
theorem dX0_sailHour_37 : decode cX0_sailHour 37 = .ok (.iadd, 1) := by decide +kernel
theorem dX0_sailHour_38 : decode cX0_sailHour 38 = .ok (.iconst 2, 1) := by decide +kernel
theorem dX0_sailHour_39 : decode cX0_sailHour 39 = .ok (.isub, 1) := by decide +kernel
theorem dX0_sailHour_40 : decode cX0_sailHour 40 = .ok (.getstatic 62, 3) := by decide +kernel
theorem dX0_sailHour_43 : decode cX0_sailHour 43 = .ok (.iload 4, 2) := by decide +kernel
theorem dX0_sailHour_45 : decode cX0_sailHour 45 = .ok (.iaload, 1) := by decide +kernel
theorem dX0_sailHour_46 : decode cX0_sailHour 46 = .ok (.iload 5, 2) := by decide +kernel
theorem dX0_sailHour_48 : decode cX0_sailHour 48 = .ok (.imul, 1) := by decide +kernel
theorem dX0_sailHour_49 : decode cX0_sailHour 49 = .ok (.iadd, 1) := by decide +kernel
theorem dX0_sailHour_50 : decode cX0_sailHour 50 = .ok (.istore 6, 2) := by decide +kernel
theorem dX0_sailHour_52 : decode cX0_sailHour 52 = .ok (.aload_n 0, 1) := by decide +kernel
theorem dX0_sailHour_53 : decode cX0_sailHour 53 = .ok (.getfield 15, 3) := by decide +kernel
theorem dX0_sailHour_56 : decode cX0_sailHour 56 = .ok (.iload_n 2, 1) := by decide +kernel
theorem dX0_sailHour_57 : decode cX0_sailHour 57 = .ok (.iaload, 1) := by decide +kernel
theorem dX0_sailHour_58 : decode cX0_sailHour 58 = .ok (.aload_n 1, 1) := by decide +kernel
theorem dX0_sailHour_59 : decode cX0_sailHour 59 = .ok (.iload_n 3, 1) := by decide +kernel
theorem dX0_sailHour_60 : decode cX0_sailHour 60 = .ok (.invokevirtual 65, 3) := by decide +kernel
theorem dX0_sailHour_63 : decode cX0_sailHour 63 = .ok (.iadd, 1) := by decide +kernel
theorem dX0_sailHour_64 : decode cX0_sailHour 64 = .ok (.getstatic 69, 3) := by decide +kernel
theorem dX0_sailHour_67 : decode cX0_sailHour 67 = .ok (.iload 4, 2) := by decide +kernel
theorem dX0_sailHour_69 : decode cX0_sailHour 69 = .ok (.iaload, 1) := by decide +kernel
theorem dX0_sailHour_70 : decode cX0_sailHour 70 = .ok (.iload 5, 2) := by decide +kernel
theorem dX0_sailHour_72 : decode cX0_sailHour 72 = .ok (.imul, 1) := by decide +kernel
theorem dX0_sailHour_73 : decode cX0_sailHour 73 = .ok (.iadd, 1) := by decide +kernel
theorem dX0_sailHour_74 : decode cX0_sailHour 74 = .ok (.istore 7, 2) := by decide +kernel
theorem dX0_sailHour_76 : decode cX0_sailHour 76 = .ok (.iload 7, 2) := by decide +kernel
theorem dX0_sailHour_78 : decode cX0_sailHour 78 = .ok (.ifCond .gt 32, 3) := by decide +kernel
theorem dX0_sailHour_81 : decode cX0_sailHour 81 = .ok (.aload_n 0, 1) := by decide +kernel
theorem dX0_sailHour_82 : decode cX0_sailHour 82 = .ok (.getfield 18, 3) := by decide +kernel
theorem dX0_sailHour_85 : decode cX0_sailHour 85 = .ok (.iload_n 2, 1) := by decide +kernel
theorem dX0_sailHour_86 : decode cX0_sailHour 86 = .ok (.iconst 2, 1) := by decide +kernel
theorem dX0_sailHour_87 : decode cX0_sailHour 87 = .ok (.iastore, 1) := by decide +kernel
theorem dX0_sailHour_88 : decode cX0_sailHour 88 = .ok (.iconst 0, 1) := by decide +kernel
theorem dX0_sailHour_89 : decode cX0_sailHour 89 = .ok (.getstatic 72, 3) := by decide +kernel
theorem dX0_sailHour_92 : decode cX0_sailHour 92 = .ok (.iconst 1, 1) := by decide +kernel
theorem dX0_sailHour_93 : decode cX0_sailHour 93 = .ok (.iaload, 1) := by decide +kernel
theorem dX0_sailHour_94 : decode cX0_sailHour 94 = .ok (.iload 6, 2) := by decide +kernel
theorem dX0_sailHour_96 : decode cX0_sailHour 96 = .ok (.invokestatic 75, 3) := by decide +kernel
theorem dX0_sailHour_99 : decode cX0_sailHour 99 = .ok (.invokestatic 80, 3) := by decide +kernel
theorem dX0_sailHour_102 : decode cX0_sailHour 102 = .ok (.istore 6, 2) := by decide +kernel
theorem dX0_sailHour_104 : decode cX0_sailHour 104 = .ok (.iconst 0, 1) := by decide +kernel
theorem dX0_sailHour_105 : decode cX0_sailHour 105 = .ok (.istore 7, 2) := by decide +kernel
theorem dX0_sailHour_107 : decode cX0_sailHour 107 = .ok (.goto 35, 3) := by decide +kernel
theorem dX0_sailHour_110 : decode cX0_sailHour 110 = .ok (.iload 7, 2) := by decide +kernel
theorem dX0_sailHour_112 : decode cX0_sailHour 112 = .ok (.getstatic 72, 3) := by decide +kernel
theorem dX0_sailHour_115 : decode cX0_sailHour 115 = .ok (.iconst 2, 1) := by decide +kernel
theorem dX0_sailHour_116 : decode cX0_sailHour 116 = .ok (.iaload, 1) := by decide +kernel
theorem dX0_sailHour_117 : decode cX0_sailHour 117 = .ok (.if_icmp .gt 18, 3) := by decide +kernel
theorem dX0_sailHour_120 : decode cX0_sailHour 120 = .ok (.iload 6, 2) := by decide +kernel
theorem dX0_sailHour_122 : decode cX0_sailHour 122 = .ok (.ifCond .lt 13, 3) := by decide +kernel
theorem dX0_sailHour_125 : decode cX0_sailHour 125 = .ok (.iload 6, 2) := by decide +kernel
theorem dX0_sailHour_127 : decode cX0_sailHour 127 = .ok (.getstatic 72, 3) := by decide +kernel
theorem dX0_sailHour_130 : decode cX0_sailHour 130 = .ok (.iconst 1, 1) := by decide +kernel
theorem dX0_sailHour_131 : decode cX0_sailHour 131 = .ok (.iaload, 1) := by decide +kernel
theorem dX0_sailHour_132 : decode cX0_sailHour 132 = .ok (.if_icmp .le 10, 3) := by decide +kernel
theorem dX0_sailHour_135 : decode cX0_sailHour 135 = .ok (.aload_n 0, 1) := by decide +kernel
theorem dX0_sailHour_136 : decode cX0_sailHour 136 = .ok (.getfield 18, 3) := by decide +kernel
theorem dX0_sailHour_139 : decode cX0_sailHour 139 = .ok (.iload_n 2, 1) := by decide +kernel
theorem dX0_sailHour_140 : decode cX0_sailHour 140 = .ok (.iconst 3, 1) := by decide +kernel
theorem dX0_sailHour_141 : decode cX0_sailHour 141 = .ok (.iastore, 1) := by decide +kernel
theorem dX0_sailHour_142 : decode cX0_sailHour 142 = .ok (.aload_n 0, 1) := by decide +kernel
theorem dX0_sailHour_143 : decode cX0_sailHour 143 = .ok (.getfield 18, 3) := by decide +kernel
theorem dX0_sailHour_146 : decode cX0_sailHour 146 = .ok (.iload_n 2, 1) := by decide +kernel
theorem dX0_sailHour_147 : decode cX0_sailHour 147 = .ok (.iaload, 1) := by decide +kernel
theorem dX0_sailHour_148 : decode cX0_sailHour 148 = .ok (.ifCond .eq 10, 3) := by decide +kernel
theorem dX0_sailHour_151 : decode cX0_sailHour 151 = .ok (.aload_n 0, 1) := by decide +kernel
theorem dX0_sailHour_152 : decode cX0_sailHour 152 = .ok (.getfield 21, 3) := by decide +kernel
theorem dX0_sailHour_155 : decode cX0_sailHour 155 = .ok (.iload_n 2, 1) := by decide +kernel
theorem dX0_sailHour_156 : decode cX0_sailHour 156 = .ok (.iload_n 3, 1) := by decide +kernel
theorem dX0_sailHour_157 : decode cX0_sailHour 157 = .ok (.iastore, 1) := by decide +kernel
theorem dX0_sailHour_158 : decode cX0_sailHour 158 = .ok (.aload_n 0, 1) := by decide +kernel
theorem dX0_sailHour_159 : decode cX0_sailHour 159 = .ok (.getfield 9, 3) := by decide +kernel
theorem dX0_sailHour_162 : decode cX0_sailHour 162 = .ok (.iload_n 2, 1) := by decide +kernel
theorem dX0_sailHour_163 : decode cX0_sailHour 163 = .ok (.iload 6, 2) := by decide +kernel
theorem dX0_sailHour_165 : decode cX0_sailHour 165 = .ok (.iastore, 1) := by decide +kernel
theorem dX0_sailHour_166 : decode cX0_sailHour 166 = .ok (.aload_n 0, 1) := by decide +kernel
theorem dX0_sailHour_167 : decode cX0_sailHour 167 = .ok (.getfield 15, 3) := by decide +kernel
theorem dX0_sailHour_170 : decode cX0_sailHour 170 = .ok (.iload_n 2, 1) := by decide +kernel
theorem dX0_sailHour_171 : decode cX0_sailHour 171 = .ok (.iload 7, 2) := by decide +kernel
theorem dX0_sailHour_173 : decode cX0_sailHour 173 = .ok (.iastore, 1) := by decide +kernel
theorem dX0_sailHour_174 : decode cX0_sailHour 174 = .ok (.return_, 1) := by decide +kernel
theorem dX0_meetTub_0 : decode cX0_meetTub 0 = .ok (.aload_n 0, 1) := by decide +kernel
theorem dX0_meetTub_1 : decode cX0_meetTub 1 = .ok (.getfield 24, 3) := by decide +kernel
theorem dX0_meetTub_4 : decode cX0_meetTub 4 = .ok (.iload_n 2, 1) := by decide +kernel
theorem dX0_meetTub_5 : decode cX0_meetTub 5 = .ok (.bipush (-4), 2) := by decide +kernel
theorem dX0_meetTub_7 : decode cX0_meetTub 7 = .ok (.iastore, 1) := by decide +kernel
theorem dX0_meetTub_8 : decode cX0_meetTub 8 = .ok (.aload_n 0, 1) := by decide +kernel
theorem dX0_meetTub_9 : decode cX0_meetTub 9 = .ok (.getfield 27, 3) := by decide +kernel
theorem dX0_meetTub_12 : decode cX0_meetTub 12 = .ok (.iload_n 2, 1) := by decide +kernel
theorem dX0_meetTub_13 : decode cX0_meetTub 13 = .ok (.bipush (-4), 2) := by decide +kernel
theorem dX0_meetTub_15 : decode cX0_meetTub 15 = .ok (.iastore, 1) := by decide +kernel
theorem dX0_meetTub_16 : decode cX0_meetTub 16 = .ok (.aload_n 0, 1) := by decide +kernel
theorem dX0_meetTub_17 : decode cX0_meetTub 17 = .ok (.getfield 18, 3) := by decide +kernel
theorem dX0_meetTub_20 : decode cX0_meetTub 20 = .ok (.iload_n 2, 1) := by decide +kernel
theorem dX0_meetTub_21 : decode cX0_meetTub 21 = .ok (.iaload, 1) := by decide +kernel
theorem dX0_meetTub_22 : decode cX0_meetTub 22 = .ok (.iconst 2, 1) := by decide +kernel
theorem dX0_meetTub_23 : decode cX0_meetTub 23 = .ok (.if_icmp .eq 4, 3) := by decide +kernel
theorem dX0_meetTub_26 : decode cX0_meetTub 26 = .ok (.return_, 1) := by decide +kernel
theorem dX0_meetTub_27 : decode cX0_meetTub 27 = .ok (.iconst 0, 1) := by decide +kernel
theorem dX0_meetTub_28 : decode cX0_meetTub 28 = .ok (.istore 4, 2) := by decide +kernel
theorem dX0_meetTub_30 : decode cX0_meetTub 30 = .ok (.iconst 0, 1) := by decide +kernel
theorem dX0_meetTub_31 : decode cX0_meetTub 31 = .ok (.istore 5, 2) := by decide +kernel
theorem dX0_meetTub_33 : decode cX0_meetTub 33 = .ok (.iload 5, 2) := by decide +kernel
theorem dX0_meetTub_35 : decode cX0_meetTub 35 = .ok (.aload_n 1, 1) := by decide +kernel
theorem dX0_meetTub_36 : decode cX0_meetTub 36 = .ok (.getfield 83, 3) := by decide +kernel
theorem dX0_meetTub_39 : decode cX0_meetTub 39 = .ok (.if_icmp .ge 154, 3) := by decide +kernel
theorem dX0_meetTub_42 : decode cX0_meetTub 42 = .ok (.aload_n 0, 1) := by decide +kernel
theorem dX0_meetTub_43 : decode cX0_meetTub 43 = .ok (.getfield 9, 3) := by decide +kernel
theorem dX0_meetTub_46 : decode cX0_meetTub 46 = .ok (.iload_n 2, 1) := by decide +kernel
theorem dX0_meetTub_47 : decode cX0_meetTub 47 = .ok (.iaload, 1) := by decide +kernel
theorem dX0_meetTub_48 : decode cX0_meetTub 48 = .ok (.aload_n 1, 1) := by decide +kernel
theorem dX0_meetTub_49 : decode cX0_meetTub 49 = .ok (.iload 5, 2) := by decide +kernel
theorem dX0_meetTub_51 : decode cX0_meetTub 51 = .ok (.iconst 0, 1) := by decide +kernel
theorem dX0_meetTub_52 : decode cX0_meetTub 52 = .ok (.invokevirtual 86, 3) := by decide +kernel
theorem dX0_meetTub_55 : decode cX0_meetTub 55 = .ok (.isub, 1) := by decide +kernel
theorem dX0_meetTub_56 : decode cX0_meetTub 56 = .ok (.invokestatic 89, 3) := by decide +kernel
theorem dX0_meetTub_59 : decode cX0_meetTub 59 = .ok (.istore 6, 2) := by decide +kernel
theorem dX0_meetTub_61 : decode cX0_meetTub 61 = .ok (.aload_n 0, 1) := by decide +kernel
theorem dX0_meetTub_62 : decode cX0_meetTub 62 = .ok (.getfield 21, 3) := by decide +kernel
theorem dX0_meetTub_65 : decode cX0_meetTub 65 = .ok (.iload_n 2, 1) := by decide +kernel
theorem dX0_meetTub_66 : decode cX0_meetTub 66 = .ok (.iaload, 1) := by decide +kernel
theorem dX0_meetTub_67 : decode cX0_meetTub 67 = .ok (.aload_n 1, 1) := by decide +kernel
theorem dX0_meetTub_68 : decode cX0_meetTub 68 = .ok (.iload 5, 2) := by decide +kernel
theorem dX0_meetTub_70 : decode cX0_meetTub 70 = .ok (.iconst 1, 1) := by decide +kernel
theorem dX0_meetTub_71 : decode cX0_meetTub 71 = .ok (.invokevirtual 86, 3) := by decide +kernel
theorem dX0_meetTub_74 : decode cX0_meetTub 74 = .ok (.invokestatic 80, 3) := by decide +kernel
theorem dX0_meetTub_77 : decode cX0_meetTub 77 = .ok (.istore 7, 2) := by decide +kernel
theorem dX0_meetTub_79 : decode cX0_meetTub 79 = .ok (.iload 6, 2) := by decide +kernel
theorem dX0_meetTub_81 : decode cX0_meetTub 81 = .ok (.aload_n 1, 1) := by decide +kernel
theorem dX0_meetTub_82 : decode cX0_meetTub 82 = .ok (.iload 5, 2) := by decide +kernel
theorem dX0_meetTub_84 : decode cX0_meetTub 84 = .ok (.iconst 3, 1) := by decide +kernel
theorem dX0_meetTub_85 : decode cX0_meetTub 85 = .ok (.invokevirtual 86, 3) := by decide +kernel
theorem dX0_meetTub_88 : decode cX0_meetTub 88 = .ok (.if_icmp .gt 99, 3) := by decide +kernel
theorem dX0_meetTub_91 : decode cX0_meetTub 91 = .ok (.iload 7, 2) := by decide +kernel
theorem dX0_meetTub_93 : decode cX0_meetTub 93 = .ok (.aload_n 1, 1) := by decide +kernel
theorem dX0_meetTub_94 : decode cX0_meetTub 94 = .ok (.iload 5, 2) := by decide +kernel
theorem dX0_meetTub_96 : decode cX0_meetTub 96 = .ok (.iconst 2, 1) := by decide +kernel
theorem dX0_meetTub_97 : decode cX0_meetTub 97 = .ok (.invokevirtual 86, 3) := by decide +kernel
theorem dX0_meetTub_100 : decode cX0_meetTub 100 = .ok (.if_icmp .gt 87, 3) := by decide +kernel
theorem dX0_meetTub_103 : decode cX0_meetTub 103 = .ok (.iload 7, 2) := by decide +kernel
theorem dX0_meetTub_105 : decode cX0_meetTub 105 = .ok (.iload_n 3, 1) := by decide +kernel
theorem dX0_meetTub_106 : decode cX0_meetTub 106 = .ok (.if_icmp .lt 6, 3) := by decide +kernel
theorem dX0_meetTub_109 : decode cX0_meetTub 109 = .ok (.goto 78, 3) := by decide +kernel
theorem dX0_meetTub_112 : decode cX0_meetTub 112 = .ok (.aload_n 0, 1) := by decide +kernel
theorem dX0_meetTub_113 : decode cX0_meetTub 113 = .ok (.getfield 24, 3) := by decide +kernel
theorem dX0_meetTub_116 : decode cX0_meetTub 116 = .ok (.iload_n 2, 1) := by decide +kernel
theorem dX0_meetTub_117 : decode cX0_meetTub 117 = .ok (.iaload, 1) := by decide +kernel
theorem dX0_meetTub_118 : decode cX0_meetTub 118 = .ok (.bipush (-4), 2) := by decide +kernel
theorem dX0_meetTub_120 : decode cX0_meetTub 120 = .ok (.if_icmp .eq 14, 3) := by decide +kernel
theorem dX0_meetTub_123 : decode cX0_meetTub 123 = .ok (.iload 7, 2) := by decide +kernel
theorem dX0_meetTub_125 : decode cX0_meetTub 125 = .ok (.aload_n 0, 1) := by decide +kernel
theorem dX0_meetTub_126 : decode cX0_meetTub 126 = .ok (.getfield 27, 3) := by decide +kernel
theorem dX0_meetTub_129 : decode cX0_meetTub 129 = .ok (.iload_n 2, 1) := by decide +kernel
theorem dX0_meetTub_130 : decode cX0_meetTub 130 = .ok (.iaload, 1) := by decide +kernel
theorem dX0_meetTub_131 : decode cX0_meetTub 131 = .ok (.if_icmp .ge 7, 3) := by decide +kernel
theorem dX0_meetTub_134 : decode cX0_meetTub 134 = .ok (.iconst 1, 1) := by decide +kernel
theorem dX0_meetTub_135 : decode cX0_meetTub 135 = .ok (.goto 4, 3) := by decide +kernel
theorem dX0_meetTub_138 : decode cX0_meetTub 138 = .ok (.iconst 0, 1) := by decide +kernel
theorem dX0_meetTub_139 : decode cX0_meetTub 139 = .ok (.istore 8, 2) := by decide +kernel
theorem dX0_meetTub_141 : decode cX0_meetTub 141 = .ok (.iload 8, 2) := by decide +kernel
theorem dX0_meetTub_143 : decode cX0_meetTub 143 = .ok (.ifCond .ne 24, 3) := by decide +kernel
theorem dX0_meetTub_146 : decode cX0_meetTub 146 = .ok (.iload 7, 2) := by decide +kernel
theorem dX0_meetTub_148 : decode cX0_meetTub 148 = .ok (.aload_n 0, 1) := by decide +kernel
theorem dX0_meetTub_149 : decode cX0_meetTub 149 = .ok (.getfield 27, 3) := by decide +kernel
theorem dX0_meetTub_152 : decode cX0_meetTub 152 = .ok (.iload_n 2, 1) := by decide +kernel
theorem dX0_meetTub_153 : decode cX0_meetTub 153 = .ok (.iaload, 1) := by decide +kernel
theorem dX0_meetTub_154 : decode cX0_meetTub 154 = .ok (.if_icmp .gt 33, 3) := by decide +kernel
theorem dX0_meetTub_157 : decode cX0_meetTub 157 = .ok (.iload 6, 2) := by decide +kernel
theorem dX0_meetTub_159 : decode cX0_meetTub 159 = .ok (.iload 4, 2) := by decide +kernel
theorem dX0_meetTub_161 : decode cX0_meetTub 161 = .ok (.if_icmp .lt 6, 3) := by decide +kernel
theorem dX0_meetTub_164 : decode cX0_meetTub 164 = .ok (.goto 23, 3) := by decide +kernel
theorem dX0_meetTub_167 : decode cX0_meetTub 167 = .ok (.aload_n 0, 1) := by decide +kernel
theorem dX0_meetTub_168 : decode cX0_meetTub 168 = .ok (.getfield 24, 3) := by decide +kernel
theorem dX0_meetTub_171 : decode cX0_meetTub 171 = .ok (.iload_n 2, 1) := by decide +kernel
theorem dX0_meetTub_172 : decode cX0_meetTub 172 = .ok (.iload 5, 2) := by decide +kernel
theorem dX0_meetTub_174 : decode cX0_meetTub 174 = .ok (.iastore, 1) := by decide +kernel
theorem dX0_meetTub_175 : decode cX0_meetTub 175 = .ok (.aload_n 0, 1) := by decide +kernel
theorem dX0_meetTub_176 : decode cX0_meetTub 176 = .ok (.getfield 27, 3) := by decide +kernel
theorem dX0_meetTub_179 : decode cX0_meetTub 179 = .ok (.iload_n 2, 1) := by decide +kernel
theorem dX0_meetTub_180 : decode cX0_meetTub 180 = .ok (.iload 7, 2) := by decide +kernel
theorem dX0_meetTub_182 : decode cX0_meetTub 182 = .ok (.iastore, 1) := by decide +kernel
theorem dX0_meetTub_183 : decode cX0_meetTub 183 = .ok (.iload 6, 2) := by decide +kernel
theorem dX0_meetTub_185 : decode cX0_meetTub 185 = .ok (.istore 4, 2) := by decide +kernel
theorem dX0_meetTub_187 : decode cX0_meetTub 187 = .ok (.iinc 5 1, 3) := by decide +kernel
theorem dX0_meetTub_190 : decode cX0_meetTub 190 = .ok (.goto (-157), 3) := by decide +kernel
theorem dX0_meetTub_193 : decode cX0_meetTub 193 = .ok (.return_, 1) := by decide +kernel
theorem dX0_gives_0 : decode cX0_gives 0 = .ok (.aload_n 0, 1) := by decide +kernel
theorem dX0_gives_1 : decode cX0_gives 1 = .ok (.aload_n 1, 1) := by decide +kernel
theorem dX0_gives_2 : decode cX0_gives 2 = .ok (.iload_n 2, 1) := by decide +kernel
theorem dX0_gives_3 : decode cX0_gives 3 = .ok (.bipush 24, 2) := by decide +kernel
theorem dX0_gives_5 : decode cX0_gives 5 = .ok (.invokevirtual 36, 3) := by decide +kernel
theorem dX0_gives_8 : decode cX0_gives 8 = .ok (.aload_n 0, 1) := by decide +kernel
theorem dX0_gives_9 : decode cX0_gives 9 = .ok (.getfield 24, 3) := by decide +kernel
theorem dX0_gives_12 : decode cX0_gives 12 = .ok (.iload_n 2, 1) := by decide +kernel
theorem dX0_gives_13 : decode cX0_gives 13 = .ok (.iaload, 1) := by decide +kernel
theorem dX0_gives_14 : decode cX0_gives 14 = .ok (.iload_n 3, 1) := by decide +kernel
theorem dX0_gives_15 : decode cX0_gives 15 = .ok (.if_icmp .ne 7, 3) := by decide +kernel
theorem dX0_gives_18 : decode cX0_gives 18 = .ok (.iconst 1, 1) := by decide +kernel
theorem dX0_gives_19 : decode cX0_gives 19 = .ok (.goto 4, 3) := by decide +kernel
theorem dX0_gives_22 : decode cX0_gives 22 = .ok (.iconst 0, 1) := by decide +kernel
theorem dX0_gives_23 : decode cX0_gives 23 = .ok (.ireturn, 1) := by decide +kernel
theorem dX0_wayOf_0 : decode cX0_wayOf 0 = .ok (.aload_n 0, 1) := by decide +kernel
theorem dX0_wayOf_1 : decode cX0_wayOf 1 = .ok (.getfield 24, 3) := by decide +kernel
theorem dX0_wayOf_4 : decode cX0_wayOf 4 = .ok (.iload_n 1, 1) := by decide +kernel
theorem dX0_wayOf_5 : decode cX0_wayOf 5 = .ok (.iaload, 1) := by decide +kernel
theorem dX0_wayOf_6 : decode cX0_wayOf 6 = .ok (.bipush (-4), 2) := by decide +kernel
theorem dX0_wayOf_8 : decode cX0_wayOf 8 = .ok (.if_icmp .ne 12, 3) := by decide +kernel
theorem dX0_wayOf_11 : decode cX0_wayOf 11 = .ok (.aload_n 0, 1) := by decide +kernel
theorem dX0_wayOf_12 : decode cX0_wayOf 12 = .ok (.getfield 18, 3) := by decide +kernel
theorem dX0_wayOf_15 : decode cX0_wayOf 15 = .ok (.iload_n 1, 1) := by decide +kernel
theorem dX0_wayOf_16 : decode cX0_wayOf 16 = .ok (.iaload, 1) := by decide +kernel
theorem dX0_wayOf_17 : decode cX0_wayOf 17 = .ok (.goto 4, 3) := by decide +kernel
theorem dX0_wayOf_20 : decode cX0_wayOf 20 = .ok (.iconst 1, 1) := by decide +kernel
theorem dX0_wayOf_21 : decode cX0_wayOf 21 = .ok (.ireturn, 1) := by decide +kernel
theorem dX0_eastOf_0 : decode cX0_eastOf 0 = .ok (.aload_n 0, 1) := by decide +kernel
theorem dX0_eastOf_1 : decode cX0_eastOf 1 = .ok (.getfield 9, 3) := by decide +kernel
theorem dX0_eastOf_4 : decode cX0_eastOf 4 = .ok (.iload_n 1, 1) := by decide +kernel
theorem dX0_eastOf_5 : decode cX0_eastOf 5 = .ok (.iaload, 1) := by decide +kernel
theorem dX0_eastOf_6 : decode cX0_eastOf 6 = .ok (.bipush 10, 2) := by decide +kernel
theorem dX0_eastOf_8 : decode cX0_eastOf 8 = .ok (.iadd, 1) := by decide +kernel
theorem dX0_eastOf_9 : decode cX0_eastOf 9 = .ok (.ireturn, 1) := by decide +kernel
theorem dX0_estatesOf_0 : decode cX0_estatesOf 0 = .ok (.iconst 0, 1) := by decide +kernel
theorem dX0_estatesOf_1 : decode cX0_estatesOf 1 = .ok (.istore_n 3, 1) := by decide +kernel
theorem dX0_estatesOf_2 : decode cX0_estatesOf 2 = .ok (.iconst 0, 1) := by decide +kernel
theorem dX0_estatesOf_3 : decode cX0_estatesOf 3 = .ok (.istore 4, 2) := by decide +kernel
theorem dX0_estatesOf_5 : decode cX0_estatesOf 5 = .ok (.iload 4, 2) := by decide +kernel
theorem dX0_estatesOf_7 : decode cX0_estatesOf 7 = .ok (.aload_n 1, 1) := by decide +kernel
theorem dX0_estatesOf_8 : decode cX0_estatesOf 8 = .ok (.getfield 30, 3) := by decide +kernel
theorem dX0_estatesOf_11 : decode cX0_estatesOf 11 = .ok (.if_icmp .ge 30, 3) := by decide +kernel
theorem dX0_estatesOf_14 : decode cX0_estatesOf 14 = .ok (.aload_n 0, 1) := by decide +kernel
theorem dX0_estatesOf_15 : decode cX0_estatesOf 15 = .ok (.getfield 24, 3) := by decide +kernel
theorem dX0_estatesOf_18 : decode cX0_estatesOf 18 = .ok (.iload 4, 2) := by decide +kernel
theorem dX0_estatesOf_20 : decode cX0_estatesOf 20 = .ok (.iaload, 1) := by decide +kernel
theorem dX0_estatesOf_21 : decode cX0_estatesOf 21 = .ok (.iload_n 2, 1) := by decide +kernel
theorem dX0_estatesOf_22 : decode cX0_estatesOf 22 = .ok (.if_icmp .ne 13, 3) := by decide +kernel
theorem dX0_estatesOf_25 : decode cX0_estatesOf 25 = .ok (.iload_n 3, 1) := by decide +kernel
theorem dX0_estatesOf_26 : decode cX0_estatesOf 26 = .ok (.aload_n 1, 1) := by decide +kernel
theorem dX0_estatesOf_27 : decode cX0_estatesOf 27 = .ok (.iload 4, 2) := by decide +kernel
theorem dX0_estatesOf_29 : decode cX0_estatesOf 29 = .ok (.iconst 4, 1) := by decide +kernel
theorem dX0_estatesOf_30 : decode cX0_estatesOf 30 = .ok (.invokevirtual 46, 3) := by decide +kernel
theorem dX0_estatesOf_33 : decode cX0_estatesOf 33 = .ok (.iadd, 1) := by decide +kernel
theorem dX0_estatesOf_34 : decode cX0_estatesOf 34 = .ok (.istore_n 3, 1) := by decide +kernel
theorem dX0_estatesOf_35 : decode cX0_estatesOf 35 = .ok (.iinc 4 1, 3) := by decide +kernel
theorem dX0_estatesOf_38 : decode cX0_estatesOf 38 = .ok (.goto (-33), 3) := by decide +kernel
theorem dX0_estatesOf_41 : decode cX0_estatesOf 41 = .ok (.iload_n 3, 1) := by decide +kernel
theorem dX0_estatesOf_42 : decode cX0_estatesOf 42 = .ok (.ireturn, 1) := by decide +kernel
theorem dX0_tubsOf_0 : decode cX0_tubsOf 0 = .ok (.iconst 0, 1) := by decide +kernel
theorem dX0_tubsOf_1 : decode cX0_tubsOf 1 = .ok (.istore_n 3, 1) := by decide +kernel
theorem dX0_tubsOf_2 : decode cX0_tubsOf 2 = .ok (.iconst 0, 1) := by decide +kernel
theorem dX0_tubsOf_3 : decode cX0_tubsOf 3 = .ok (.istore 4, 2) := by decide +kernel
theorem dX0_tubsOf_5 : decode cX0_tubsOf 5 = .ok (.iload 4, 2) := by decide +kernel
theorem dX0_tubsOf_7 : decode cX0_tubsOf 7 = .ok (.aload_n 1, 1) := by decide +kernel
theorem dX0_tubsOf_8 : decode cX0_tubsOf 8 = .ok (.getfield 30, 3) := by decide +kernel
theorem dX0_tubsOf_11 : decode cX0_tubsOf 11 = .ok (.if_icmp .ge 27, 3) := by decide +kernel
theorem dX0_tubsOf_14 : decode cX0_tubsOf 14 = .ok (.aload_n 0, 1) := by decide +kernel
theorem dX0_tubsOf_15 : decode cX0_tubsOf 15 = .ok (.getfield 24, 3) := by decide +kernel
theorem dX0_tubsOf_18 : decode cX0_tubsOf 18 = .ok (.iload 4, 2) := by decide +kernel
theorem dX0_tubsOf_20 : decode cX0_tubsOf 20 = .ok (.iaload, 1) := by decide +kernel
theorem dX0_tubsOf_21 : decode cX0_tubsOf 21 = .ok (.iload_n 2, 1) := by decide +kernel
theorem dX0_tubsOf_22 : decode cX0_tubsOf 22 = .ok (.if_icmp .ne 10, 3) := by decide +kernel
theorem dX0_tubsOf_25 : decode cX0_tubsOf 25 = .ok (.iload_n 3, 1) := by decide +kernel
theorem dX0_tubsOf_26 : decode cX0_tubsOf 26 = .ok (.iconst 1, 1) := by decide +kernel
theorem dX0_tubsOf_27 : decode cX0_tubsOf 27 = .ok (.iload 4, 2) := by decide +kernel
theorem dX0_tubsOf_29 : decode cX0_tubsOf 29 = .ok (.ishl, 1) := by decide +kernel
theorem dX0_tubsOf_30 : decode cX0_tubsOf 30 = .ok (.ior, 1) := by decide +kernel
theorem dX0_tubsOf_31 : decode cX0_tubsOf 31 = .ok (.istore_n 3, 1) := by decide +kernel
theorem dX0_tubsOf_32 : decode cX0_tubsOf 32 = .ok (.iinc 4 1, 3) := by decide +kernel
theorem dX0_tubsOf_35 : decode cX0_tubsOf 35 = .ok (.goto (-30), 3) := by decide +kernel
theorem dX0_tubsOf_38 : decode cX0_tubsOf 38 = .ok (.iload_n 3, 1) := by decide +kernel
theorem dX0_tubsOf_39 : decode cX0_tubsOf 39 = .ok (.ireturn, 1) := by decide +kernel
theorem dX0_estatesHooked_0 : decode cX0_estatesHooked 0 = .ok (.iconst 0, 1) := by decide +kernel
theorem dX0_estatesHooked_1 : decode cX0_estatesHooked 1 = .ok (.istore_n 2, 1) := by decide +kernel
theorem dX0_estatesHooked_2 : decode cX0_estatesHooked 2 = .ok (.iconst 0, 1) := by decide +kernel
theorem dX0_estatesHooked_3 : decode cX0_estatesHooked 3 = .ok (.istore_n 3, 1) := by decide +kernel
theorem dX0_estatesHooked_4 : decode cX0_estatesHooked 4 = .ok (.iload_n 3, 1) := by decide +kernel
theorem dX0_estatesHooked_5 : decode cX0_estatesHooked 5 = .ok (.aload_n 1, 1) := by decide +kernel
theorem dX0_estatesHooked_6 : decode cX0_estatesHooked 6 = .ok (.getfield 30, 3) := by decide +kernel
theorem dX0_estatesHooked_9 : decode cX0_estatesHooked 9 = .ok (.if_icmp .ge 29, 3) := by decide +kernel
theorem dX0_estatesHooked_12 : decode cX0_estatesHooked 12 = .ok (.aload_n 0, 1) := by decide +kernel
theorem dX0_estatesHooked_13 : decode cX0_estatesHooked 13 = .ok (.getfield 24, 3) := by decide +kernel
theorem dX0_estatesHooked_16 : decode cX0_estatesHooked 16 = .ok (.iload_n 3, 1) := by decide +kernel
theorem dX0_estatesHooked_17 : decode cX0_estatesHooked 17 = .ok (.iaload, 1) := by decide +kernel
theorem dX0_estatesHooked_18 : decode cX0_estatesHooked 18 = .ok (.bipush (-4), 2) := by decide +kernel
theorem dX0_estatesHooked_20 : decode cX0_estatesHooked 20 = .ok (.if_icmp .eq 12, 3) := by decide +kernel
theorem dX0_estatesHooked_23 : decode cX0_estatesHooked 23 = .ok (.iload_n 2, 1) := by decide +kernel
theorem dX0_estatesHooked_24 : decode cX0_estatesHooked 24 = .ok (.aload_n 1, 1) := by decide +kernel
theorem dX0_estatesHooked_25 : decode cX0_estatesHooked 25 = .ok (.iload_n 3, 1) := by decide +kernel
theorem dX0_estatesHooked_26 : decode cX0_estatesHooked 26 = .ok (.iconst 4, 1) := by decide +kernel
theorem dX0_estatesHooked_27 : decode cX0_estatesHooked 27 = .ok (.invokevirtual 46, 3) := by decide +kernel
theorem dX0_estatesHooked_30 : decode cX0_estatesHooked 30 = .ok (.iadd, 1) := by decide +kernel
theorem dX0_estatesHooked_31 : decode cX0_estatesHooked 31 = .ok (.istore_n 2, 1) := by decide +kernel
theorem dX0_estatesHooked_32 : decode cX0_estatesHooked 32 = .ok (.iinc 3 1, 3) := by decide +kernel
theorem dX0_estatesHooked_35 : decode cX0_estatesHooked 35 = .ok (.goto (-31), 3) := by decide +kernel
theorem dX0_estatesHooked_38 : decode cX0_estatesHooked 38 = .ok (.iload_n 2, 1) := by decide +kernel
theorem dX0_estatesHooked_39 : decode cX0_estatesHooked 39 = .ok (.ireturn, 1) := by decide +kernel
theorem dX0_tubsOfWay_0 : decode cX0_tubsOfWay 0 = .ok (.iconst 0, 1) := by decide +kernel
theorem dX0_tubsOfWay_1 : decode cX0_tubsOfWay 1 = .ok (.istore_n 3, 1) := by decide +kernel
theorem dX0_tubsOfWay_2 : decode cX0_tubsOfWay 2 = .ok (.iconst 0, 1) := by decide +kernel
theorem dX0_tubsOfWay_3 : decode cX0_tubsOfWay 3 = .ok (.istore 4, 2) := by decide +kernel
theorem dX0_tubsOfWay_5 : decode cX0_tubsOfWay 5 = .ok (.iload 4, 2) := by decide +kernel
theorem dX0_tubsOfWay_7 : decode cX0_tubsOfWay 7 = .ok (.aload_n 1, 1) := by decide +kernel
theorem dX0_tubsOfWay_8 : decode cX0_tubsOfWay 8 = .ok (.getfield 30, 3) := by decide +kernel
theorem dX0_tubsOfWay_11 : decode cX0_tubsOfWay 11 = .ok (.if_icmp .ge 26, 3) := by decide +kernel
theorem dX0_tubsOfWay_14 : decode cX0_tubsOfWay 14 = .ok (.aload_n 0, 1) := by decide +kernel
theorem dX0_tubsOfWay_15 : decode cX0_tubsOfWay 15 = .ok (.iload 4, 2) := by decide +kernel
theorem dX0_tubsOfWay_17 : decode cX0_tubsOfWay 17 = .ok (.invokevirtual 92, 3) := by decide +kernel
theorem dX0_tubsOfWay_20 : decode cX0_tubsOfWay 20 = .ok (.iload_n 2, 1) := by decide +kernel
theorem dX0_tubsOfWay_21 : decode cX0_tubsOfWay 21 = .ok (.if_icmp .ne 10, 3) := by decide +kernel
theorem dX0_tubsOfWay_24 : decode cX0_tubsOfWay 24 = .ok (.iload_n 3, 1) := by decide +kernel
theorem dX0_tubsOfWay_25 : decode cX0_tubsOfWay 25 = .ok (.iconst 1, 1) := by decide +kernel
theorem dX0_tubsOfWay_26 : decode cX0_tubsOfWay 26 = .ok (.iload 4, 2) := by decide +kernel
theorem dX0_tubsOfWay_28 : decode cX0_tubsOfWay 28 = .ok (.ishl, 1) := by decide +kernel
theorem dX0_tubsOfWay_29 : decode cX0_tubsOfWay 29 = .ok (.ior, 1) := by decide +kernel
theorem dX0_tubsOfWay_30 : decode cX0_tubsOfWay 30 = .ok (.istore_n 3, 1) := by decide +kernel
theorem dX0_tubsOfWay_31 : decode cX0_tubsOfWay 31 = .ok (.iinc 4 1, 3) := by decide +kernel
theorem dX0_tubsOfWay_34 : decode cX0_tubsOfWay 34 = .ok (.goto (-29), 3) := by decide +kernel
theorem dX0_tubsOfWay_37 : decode cX0_tubsOfWay 37 = .ok (.iload_n 3, 1) := by decide +kernel
theorem dX0_tubsOfWay_38 : decode cX0_tubsOfWay 38 = .ok (.ireturn, 1) := by decide +kernel
theorem dX1_init_0 : decode cX1_init 0 = .ok (.aload_n 0, 1) := by decide +kernel
theorem dX1_init_1 : decode cX1_init 1 = .ok (.invokespecial 3, 3) := by decide +kernel
theorem dX1_init_4 : decode cX1_init 4 = .ok (.aload_n 0, 1) := by decide +kernel
theorem dX1_init_5 : decode cX1_init 5 = .ok (.new 9, 3) := by decide +kernel
theorem dX1_init_8 : decode cX1_init 8 = .ok (.dup, 1) := by decide +kernel
theorem dX1_init_9 : decode cX1_init 9 = .ok (.invokespecial 11, 3) := by decide +kernel
theorem dX1_init_12 : decode cX1_init 12 = .ok (.putfield 12, 3) := by decide +kernel
theorem dX1_init_15 : decode cX1_init 15 = .ok (.aload_n 0, 1) := by decide +kernel
theorem dX1_init_16 : decode cX1_init 16 = .ok (.aload_n 1, 1) := by decide +kernel
theorem dX1_init_17 : decode cX1_init 17 = .ok (.putfield 18, 3) := by decide +kernel
theorem dX1_init_20 : decode cX1_init 20 = .ok (.return_, 1) := by decide +kernel
theorem dX1_readAll_0 : decode cX1_readAll 0 = .ok (.aload_n 0, 1) := by decide +kernel
theorem dX1_readAll_1 : decode cX1_readAll 1 = .ok (.getfield 12, 3) := by decide +kernel
theorem dX1_readAll_4 : decode cX1_readAll 4 = .ok (.invokevirtual 22, 3) := by decide +kernel
theorem dX1_readAll_7 : decode cX1_readAll 7 = .ok (.aload_n 0, 1) := by decide +kernel
theorem dX1_readAll_8 : decode cX1_readAll 8 = .ok (.getfield 18, 3) := by decide +kernel
theorem dX1_readAll_11 : decode cX1_readAll 11 = .ok (.invokevirtual 25, 3) := by decide +kernel
theorem dX1_readAll_14 : decode cX1_readAll 14 = .ok (.aload_n 0, 1) := by decide +kernel
theorem dX1_readAll_15 : decode cX1_readAll 15 = .ok (.iconst 0, 1) := by decide +kernel
theorem dX1_readAll_16 : decode cX1_readAll 16 = .ok (.putfield 30, 3) := by decide +kernel
theorem dX1_readAll_19 : decode cX1_readAll 19 = .ok (.aload_n 0, 1) := by decide +kernel
theorem dX1_readAll_20 : decode cX1_readAll 20 = .ok (.iconst 0, 1) := by decide +kernel
theorem dX1_readAll_21 : decode cX1_readAll 21 = .ok (.putfield 34, 3) := by decide +kernel
theorem dX1_readAll_24 : decode cX1_readAll 24 = .ok (.aload_n 0, 1) := by decide +kernel
theorem dX1_readAll_25 : decode cX1_readAll 25 = .ok (.iconst 0, 1) := by decide +kernel
theorem dX1_readAll_26 : decode cX1_readAll 26 = .ok (.putfield 37, 3) := by decide +kernel
theorem dX1_readAll_29 : decode cX1_readAll 29 = .ok (.aload_n 0, 1) := by decide +kernel
theorem dX1_readAll_30 : decode cX1_readAll 30 = .ok (.iconst 0, 1) := by decide +kernel
theorem dX1_readAll_31 : decode cX1_readAll 31 = .ok (.putfield 40, 3) := by decide +kernel
theorem dX1_readAll_34 : decode cX1_readAll 34 = .ok (.iconst 0, 1) := by decide +kernel
theorem dX1_readAll_35 : decode cX1_readAll 35 = .ok (.istore_n 1, 1) := by decide +kernel
theorem dX1_readAll_36 : decode cX1_readAll 36 = .ok (.iload_n 1, 1) := by decide +kernel
theorem dX1_readAll_37 : decode cX1_readAll 37 = .ok (.sipush 160, 3) := by decide +kernel
theorem dX1_readAll_40 : decode cX1_readAll 40 = .ok (.if_icmp .gt 43, 3) := by decide +kernel
theorem dX1_readAll_43 : decode cX1_readAll 43 = .ok (.aload_n 0, 1) := by decide +kernel
theorem dX1_readAll_44 : decode cX1_readAll 44 = .ok (.getfield 18, 3) := by decide +kernel
theorem dX1_readAll_47 : decode cX1_readAll 47 = .ok (.invokevirtual 44, 3) := by decide +kernel
theorem dX1_readAll_50 : decode cX1_readAll 50 = .ok (.aload_n 0, 1) := by decide +kernel
theorem dX1_readAll_51 : decode cX1_readAll 51 = .ok (.getfield 18, 3) := by decide +kernel
theorem dX1_readAll_54 : decode cX1_readAll 54 = .ok (.getfield 47, 3) := by decide +kernel
theorem dX1_readAll_57 : decode cX1_readAll 57 = .ok (.ifCond .ne 6, 3) := by decide +kernel
theorem dX1_readAll_60 : decode cX1_readAll 60 = .ok (.goto 23, 3) := by decide +kernel
theorem dX1_readAll_63 : decode cX1_readAll 63 = .ok (.aload_n 0, 1) := by decide +kernel
theorem dX1_readAll_64 : decode cX1_readAll 64 = .ok (.invokevirtual 50, 3) := by decide +kernel
theorem dX1_readAll_67 : decode cX1_readAll 67 = .ok (.aload_n 0, 1) := by decide +kernel
theorem dX1_readAll_68 : decode cX1_readAll 68 = .ok (.getfield 30, 3) := by decide +kernel
theorem dX1_readAll_71 : decode cX1_readAll 71 = .ok (.ifCond .eq 6, 3) := by decide +kernel
theorem dX1_readAll_74 : decode cX1_readAll 74 = .ok (.goto 9, 3) := by decide +kernel
theorem dX1_readAll_77 : decode cX1_readAll 77 = .ok (.iinc 1 1, 3) := by decide +kernel
theorem dX1_readAll_80 : decode cX1_readAll 80 = .ok (.goto (-44), 3) := by decide +kernel
theorem dX1_readAll_83 : decode cX1_readAll 83 = .ok (.iload_n 1, 1) := by decide +kernel
theorem dX1_readAll_84 : decode cX1_readAll 84 = .ok (.ireturn, 1) := by decide +kernel
theorem dX1_readLine_0 : decode cX1_readLine 0 = .ok (.aload_n 0, 1) := by decide +kernel
theorem dX1_readLine_1 : decode cX1_readLine 1 = .ok (.getfield 18, 3) := by decide +kernel
theorem dX1_readLine_4 : decode cX1_readLine 4 = .ok (.ldc 53, 2) := by decide +kernel
theorem dX1_readLine_6 : decode cX1_readLine 6 = .ok (.invokevirtual 55, 3) := by decide +kernel
theorem dX1_readLine_9 : decode cX1_readLine 9 = .ok (.ifCond .eq 11, 3) := by decide +kernel
theorem dX1_readLine_12 : decode cX1_readLine 12 = .ok (.aload_n 0, 1) := by decide +kernel
theorem dX1_readLine_13 : decode cX1_readLine 13 = .ok (.iconst 0, 1) := by decide +kernel
theorem dX1_readLine_14 : decode cX1_readLine 14 = .ok (.invokevirtual 59, 3) := by decide +kernel
theorem dX1_readLine_17 : decode cX1_readLine 17 = .ok (.goto 143, 3) := by decide +kernel
theorem dX1_readLine_20 : decode cX1_readLine 20 = .ok (.aload_n 0, 1) := by decide +kernel
theorem dX1_readLine_21 : decode cX1_readLine 21 = .ok (.getfield 18, 3) := by decide +kernel
theorem dX1_readLine_24 : decode cX1_readLine 24 = .ok (.ldc 63, 2) := by decide +kernel
theorem dX1_readLine_26 : decode cX1_readLine 26 = .ok (.invokevirtual 55, 3) := by decide +kernel
theorem dX1_readLine_29 : decode cX1_readLine 29 = .ok (.ifCond .eq 11, 3) := by decide +kernel
theorem dX1_readLine_32 : decode cX1_readLine 32 = .ok (.aload_n 0, 1) := by decide +kernel
theorem dX1_readLine_33 : decode cX1_readLine 33 = .ok (.iconst 1, 1) := by decide +kernel
theorem dX1_readLine_34 : decode cX1_readLine 34 = .ok (.invokevirtual 59, 3) := by decide +kernel
theorem dX1_readLine_37 : decode cX1_readLine 37 = .ok (.goto 123, 3) := by decide +kernel
theorem dX1_readLine_40 : decode cX1_readLine 40 = .ok (.aload_n 0, 1) := by decide +kernel
theorem dX1_readLine_41 : decode cX1_readLine 41 = .ok (.getfield 18, 3) := by decide +kernel
theorem dX1_readLine_44 : decode cX1_readLine 44 = .ok (.ldc 65, 2) := by decide +kernel
theorem dX1_readLine_46 : decode cX1_readLine 46 = .ok (.invokevirtual 55, 3) := by decide +kernel
theorem dX1_readLine_49 : decode cX1_readLine 49 = .ok (.ifCond .eq 11, 3) := by decide +kernel
theorem dX1_readLine_52 : decode cX1_readLine 52 = .ok (.aload_n 0, 1) := by decide +kernel
theorem dX1_readLine_53 : decode cX1_readLine 53 = .ok (.iconst 2, 1) := by decide +kernel
theorem dX1_readLine_54 : decode cX1_readLine 54 = .ok (.invokevirtual 59, 3) := by decide +kernel
theorem dX1_readLine_57 : decode cX1_readLine 57 = .ok (.goto 103, 3) := by decide +kernel
theorem dX1_readLine_60 : decode cX1_readLine 60 = .ok (.aload_n 0, 1) := by decide +kernel
theorem dX1_readLine_61 : decode cX1_readLine 61 = .ok (.getfield 18, 3) := by decide +kernel
theorem dX1_readLine_64 : decode cX1_readLine 64 = .ok (.ldc 67, 2) := by decide +kernel
theorem dX1_readLine_66 : decode cX1_readLine 66 = .ok (.invokevirtual 55, 3) := by decide +kernel
theorem dX1_readLine_69 : decode cX1_readLine 69 = .ok (.ifCond .eq 11, 3) := by decide +kernel
theorem dX1_readLine_72 : decode cX1_readLine 72 = .ok (.aload_n 0, 1) := by decide +kernel
theorem dX1_readLine_73 : decode cX1_readLine 73 = .ok (.iconst 3, 1) := by decide +kernel
theorem dX1_readLine_74 : decode cX1_readLine 74 = .ok (.invokevirtual 59, 3) := by decide +kernel
theorem dX1_readLine_77 : decode cX1_readLine 77 = .ok (.goto 83, 3) := by decide +kernel
theorem dX1_readLine_80 : decode cX1_readLine 80 = .ok (.aload_n 0, 1) := by decide +kernel
theorem dX1_readLine_81 : decode cX1_readLine 81 = .ok (.getfield 18, 3) := by decide +kernel
theorem dX1_readLine_84 : decode cX1_readLine 84 = .ok (.ldc 69, 2) := by decide +kernel
theorem dX1_readLine_86 : decode cX1_readLine 86 = .ok (.invokevirtual 55, 3) := by decide +kernel
theorem dX1_readLine_89 : decode cX1_readLine 89 = .ok (.ifCond .eq 10, 3) := by decide +kernel
theorem dX1_readLine_92 : decode cX1_readLine 92 = .ok (.aload_n 0, 1) := by decide +kernel
theorem dX1_readLine_93 : decode cX1_readLine 93 = .ok (.invokevirtual 71, 3) := by decide +kernel
theorem dX1_readLine_96 : decode cX1_readLine 96 = .ok (.goto 64, 3) := by decide +kernel
theorem dX1_readLine_99 : decode cX1_readLine 99 = .ok (.aload_n 0, 1) := by decide +kernel
theorem dX1_readLine_100 : decode cX1_readLine 100 = .ok (.getfield 18, 3) := by decide +kernel
theorem dX1_readLine_103 : decode cX1_readLine 103 = .ok (.ldc 74, 2) := by decide +kernel
theorem dX1_readLine_105 : decode cX1_readLine 105 = .ok (.invokevirtual 55, 3) := by decide +kernel
theorem dX1_readLine_108 : decode cX1_readLine 108 = .ok (.ifCond .eq 10, 3) := by decide +kernel
theorem dX1_readLine_111 : decode cX1_readLine 111 = .ok (.aload_n 0, 1) := by decide +kernel
theorem dX1_readLine_112 : decode cX1_readLine 112 = .ok (.invokevirtual 76, 3) := by decide +kernel
theorem dX1_readLine_115 : decode cX1_readLine 115 = .ok (.goto 45, 3) := by decide +kernel
theorem dX1_readLine_118 : decode cX1_readLine 118 = .ok (.aload_n 0, 1) := by decide +kernel
theorem dX1_readLine_119 : decode cX1_readLine 119 = .ok (.getfield 18, 3) := by decide +kernel
theorem dX1_readLine_122 : decode cX1_readLine 122 = .ok (.ldc 79, 2) := by decide +kernel
theorem dX1_readLine_124 : decode cX1_readLine 124 = .ok (.invokevirtual 55, 3) := by decide +kernel
theorem dX1_readLine_127 : decode cX1_readLine 127 = .ok (.ifCond .eq 10, 3) := by decide +kernel
theorem dX1_readLine_130 : decode cX1_readLine 130 = .ok (.aload_n 0, 1) := by decide +kernel
theorem dX1_readLine_131 : decode cX1_readLine 131 = .ok (.invokevirtual 81, 3) := by decide +kernel
theorem dX1_readLine_134 : decode cX1_readLine 134 = .ok (.goto 26, 3) := by decide +kernel
theorem dX1_readLine_137 : decode cX1_readLine 137 = .ok (.aload_n 0, 1) := by decide +kernel
theorem dX1_readLine_138 : decode cX1_readLine 138 = .ok (.getfield 18, 3) := by decide +kernel
theorem dX1_readLine_141 : decode cX1_readLine 141 = .ok (.ldc 84, 2) := by decide +kernel
theorem dX1_readLine_143 : decode cX1_readLine 143 = .ok (.invokevirtual 55, 3) := by decide +kernel
theorem dX1_readLine_146 : decode cX1_readLine 146 = .ok (.ifCond .eq 10, 3) := by decide +kernel
theorem dX1_readLine_149 : decode cX1_readLine 149 = .ok (.aload_n 0, 1) := by decide +kernel
theorem dX1_readLine_150 : decode cX1_readLine 150 = .ok (.invokevirtual 86, 3) := by decide +kernel
theorem dX1_readLine_153 : decode cX1_readLine 153 = .ok (.goto 7, 3) := by decide +kernel
theorem dX1_readLine_156 : decode cX1_readLine 156 = .ok (.aload_n 0, 1) := by decide +kernel
theorem dX1_readLine_157 : decode cX1_readLine 157 = .ok (.invokevirtual 89, 3) := by decide +kernel
theorem dX1_readLine_160 : decode cX1_readLine 160 = .ok (.aload_n 0, 1) := by decide +kernel
theorem dX1_readLine_161 : decode cX1_readLine 161 = .ok (.getfield 30, 3) := by decide +kernel
theorem dX1_readLine_164 : decode cX1_readLine 164 = .ok (.ifCond .eq 4, 3) := by decide +kernel
theorem dX1_readLine_167 : decode cX1_readLine 167 = .ok (.return_, 1) := by decide +kernel
theorem dX1_readLine_168 : decode cX1_readLine 168 = .ok (.aload_n 0, 1) := by decide +kernel
theorem dX1_readLine_169 : decode cX1_readLine 169 = .ok (.getfield 18, 3) := by decide +kernel
theorem dX1_readLine_172 : decode cX1_readLine 172 = .ok (.invokevirtual 44, 3) := by decide +kernel
theorem dX1_readLine_175 : decode cX1_readLine 175 = .ok (.aload_n 0, 1) := by decide +kernel
theorem dX1_readLine_176 : decode cX1_readLine 176 = .ok (.getfield 18, 3) := by decide +kernel
theorem dX1_readLine_179 : decode cX1_readLine 179 = .ok (.getfield 47, 3) := by decide +kernel
theorem dX1_readLine_182 : decode cX1_readLine 182 = .ok (.iconst 3, 1) := by decide +kernel
theorem dX1_readLine_183 : decode cX1_readLine 183 = .ok (.if_icmp .eq 7, 3) := by decide +kernel
theorem dX1_readLine_186 : decode cX1_readLine 186 = .ok (.aload_n 0, 1) := by decide +kernel
theorem dX1_readLine_187 : decode cX1_readLine 187 = .ok (.invokevirtual 89, 3) := by decide +kernel
theorem dX1_readLine_190 : decode cX1_readLine 190 = .ok (.return_, 1) := by decide +kernel
theorem dX1_readTub_0 : decode cX1_readTub 0 = .ok (.aload_n 0, 1) := by decide +kernel
theorem dX1_readTub_1 : decode cX1_readTub 1 = .ok (.getfield 12, 3) := by decide +kernel
theorem dX1_readTub_4 : decode cX1_readTub 4 = .ok (.getfield 92, 3) := by decide +kernel
theorem dX1_readTub_7 : decode cX1_readTub 7 = .ok (.istore_n 2, 1) := by decide +kernel
theorem dX1_readTub_8 : decode cX1_readTub 8 = .ok (.iload_n 2, 1) := by decide +kernel
theorem dX1_readTub_9 : decode cX1_readTub 9 = .ok (.iconst 4, 1) := by decide +kernel
theorem dX1_readTub_10 : decode cX1_readTub 10 = .ok (.if_icmp .lt 9, 3) := by decide +kernel
theorem dX1_readTub_13 : decode cX1_readTub 13 = .ok (.aload_n 0, 1) := by decide +kernel
theorem dX1_readTub_14 : decode cX1_readTub 14 = .ok (.iconst 5, 1) := by decide +kernel
theorem dX1_readTub_15 : decode cX1_readTub 15 = .ok (.invokevirtual 95, 3) := by decide +kernel
theorem dX1_readTub_18 : decode cX1_readTub 18 = .ok (.return_, 1) := by decide +kernel
theorem dX1_readTub_19 : decode cX1_readTub 19 = .ok (.aload_n 0, 1) := by decide +kernel
theorem dX1_readTub_20 : decode cX1_readTub 20 = .ok (.getfield 12, 3) := by decide +kernel
theorem dX1_readTub_23 : decode cX1_readTub 23 = .ok (.dup, 1) := by decide +kernel
theorem dX1_readTub_24 : decode cX1_readTub 24 = .ok (.getfield 92, 3) := by decide +kernel
theorem dX1_readTub_27 : decode cX1_readTub 27 = .ok (.iconst 1, 1) := by decide +kernel
theorem dX1_readTub_28 : decode cX1_readTub 28 = .ok (.iadd, 1) := by decide +kernel
theorem dX1_readTub_29 : decode cX1_readTub 29 = .ok (.putfield 92, 3) := by decide +kernel
theorem dX1_readTub_32 : decode cX1_readTub 32 = .ok (.aload_n 0, 1) := by decide +kernel
theorem dX1_readTub_33 : decode cX1_readTub 33 = .ok (.getfield 12, 3) := by decide +kernel
theorem dX1_readTub_36 : decode cX1_readTub 36 = .ok (.iload_n 2, 1) := by decide +kernel
theorem dX1_readTub_37 : decode cX1_readTub 37 = .ok (.iconst 0, 1) := by decide +kernel
theorem dX1_readTub_38 : decode cX1_readTub 38 = .ok (.iload_n 1, 1) := by decide +kernel
theorem dX1_readTub_39 : decode cX1_readTub 39 = .ok (.invokevirtual 98, 3) := by decide +kernel
theorem dX1_readTub_42 : decode cX1_readTub 42 = .ok (.iconst 1, 1) := by decide +kernel
theorem dX1_readTub_43 : decode cX1_readTub 43 = .ok (.istore_n 3, 1) := by decide +kernel
theorem dX1_readTub_44 : decode cX1_readTub 44 = .ok (.iload_n 3, 1) := by decide +kernel
theorem dX1_readTub_45 : decode cX1_readTub 45 = .ok (.iconst 4, 1) := by decide +kernel
theorem dX1_readTub_46 : decode cX1_readTub 46 = .ok (.if_icmp .gt 32, 3) := by decide +kernel
theorem dX1_readTub_49 : decode cX1_readTub 49 = .ok (.aload_n 0, 1) := by decide +kernel
theorem dX1_readTub_50 : decode cX1_readTub 50 = .ok (.getfield 12, 3) := by decide +kernel
theorem dX1_readTub_53 : decode cX1_readTub 53 = .ok (.iload_n 2, 1) := by decide +kernel
theorem dX1_readTub_54 : decode cX1_readTub 54 = .ok (.iload_n 3, 1) := by decide +kernel
theorem dX1_readTub_55 : decode cX1_readTub 55 = .ok (.aload_n 0, 1) := by decide +kernel
theorem dX1_readTub_56 : decode cX1_readTub 56 = .ok (.getstatic 102, 3) := by decide +kernel
theorem dX1_readTub_59 : decode cX1_readTub 59 = .ok (.iload_n 3, 1) := by decide +kernel
theorem dX1_readTub_60 : decode cX1_readTub 60 = .ok (.iaload, 1) := by decide +kernel
theorem dX1_readTub_61 : decode cX1_readTub 61 = .ok (.getstatic 106, 3) := by decide +kernel
theorem dX1_readTub_64 : decode cX1_readTub 64 = .ok (.iload_n 3, 1) := by decide +kernel
theorem dX1_readTub_65 : decode cX1_readTub 65 = .ok (.iaload, 1) := by decide +kernel
theorem dX1_readTub_66 : decode cX1_readTub 66 = .ok (.invokevirtual 109, 3) := by decide +kernel
theorem dX1_readTub_69 : decode cX1_readTub 69 = .ok (.invokevirtual 98, 3) := by decide +kernel
theorem dX1_readTub_72 : decode cX1_readTub 72 = .ok (.iinc 3 1, 3) := by decide +kernel
theorem dX1_readTub_75 : decode cX1_readTub 75 = .ok (.goto (-31), 3) := by decide +kernel
theorem dX1_readTub_78 : decode cX1_readTub 78 = .ok (.return_, 1) := by decide +kernel
theorem dX1_readHeir_0 : decode cX1_readHeir 0 = .ok (.aload_n 0, 1) := by decide +kernel
theorem dX1_readHeir_1 : decode cX1_readHeir 1 = .ok (.getfield 12, 3) := by decide +kernel
theorem dX1_readHeir_4 : decode cX1_readHeir 4 = .ok (.getfield 113, 3) := by decide +kernel
theorem dX1_readHeir_7 : decode cX1_readHeir 7 = .ok (.istore_n 1, 1) := by decide +kernel
theorem dX1_readHeir_8 : decode cX1_readHeir 8 = .ok (.iload_n 1, 1) := by decide +kernel
theorem dX1_readHeir_9 : decode cX1_readHeir 9 = .ok (.iconst 4, 1) := by decide +kernel
theorem dX1_readHeir_10 : decode cX1_readHeir 10 = .ok (.if_icmp .lt 9, 3) := by decide +kernel
theorem dX1_readHeir_13 : decode cX1_readHeir 13 = .ok (.aload_n 0, 1) := by decide +kernel
theorem dX1_readHeir_14 : decode cX1_readHeir 14 = .ok (.iconst 5, 1) := by decide +kernel
theorem dX1_readHeir_15 : decode cX1_readHeir 15 = .ok (.invokevirtual 95, 3) := by decide +kernel
theorem dX1_readHeir_18 : decode cX1_readHeir 18 = .ok (.return_, 1) := by decide +kernel
theorem dX1_readHeir_19 : decode cX1_readHeir 19 = .ok (.aload_n 0, 1) := by decide +kernel
theorem dX1_readHeir_20 : decode cX1_readHeir 20 = .ok (.getfield 12, 3) := by decide +kernel
theorem dX1_readHeir_23 : decode cX1_readHeir 23 = .ok (.dup, 1) := by decide +kernel
theorem dX1_readHeir_24 : decode cX1_readHeir 24 = .ok (.getfield 113, 3) := by decide +kernel
theorem dX1_readHeir_27 : decode cX1_readHeir 27 = .ok (.iconst 1, 1) := by decide +kernel
theorem dX1_readHeir_28 : decode cX1_readHeir 28 = .ok (.iadd, 1) := by decide +kernel
theorem dX1_readHeir_29 : decode cX1_readHeir 29 = .ok (.putfield 113, 3) := by decide +kernel
theorem dX1_readHeir_32 : decode cX1_readHeir 32 = .ok (.iconst 0, 1) := by decide +kernel
theorem dX1_readHeir_33 : decode cX1_readHeir 33 = .ok (.istore_n 2, 1) := by decide +kernel
theorem dX1_readHeir_34 : decode cX1_readHeir 34 = .ok (.iload_n 2, 1) := by decide +kernel
theorem dX1_readHeir_35 : decode cX1_readHeir 35 = .ok (.iconst 3, 1) := by decide +kernel
theorem dX1_readHeir_36 : decode cX1_readHeir 36 = .ok (.if_icmp .gt 47, 3) := by decide +kernel
theorem dX1_readHeir_39 : decode cX1_readHeir 39 = .ok (.iload_n 2, 1) := by decide +kernel
theorem dX1_readHeir_40 : decode cX1_readHeir 40 = .ok (.iconst 2, 1) := by decide +kernel
theorem dX1_readHeir_41 : decode cX1_readHeir 41 = .ok (.if_icmp .ne 15, 3) := by decide +kernel
theorem dX1_readHeir_44 : decode cX1_readHeir 44 = .ok (.aload_n 0, 1) := by decide +kernel
theorem dX1_readHeir_45 : decode cX1_readHeir 45 = .ok (.getfield 12, 3) := by decide +kernel
theorem dX1_readHeir_48 : decode cX1_readHeir 48 = .ok (.iload_n 1, 1) := by decide +kernel
theorem dX1_readHeir_49 : decode cX1_readHeir 49 = .ok (.iconst 1, 1) := by decide +kernel
theorem dX1_readHeir_50 : decode cX1_readHeir 50 = .ok (.invokevirtual 116, 3) := by decide +kernel
theorem dX1_readHeir_53 : decode cX1_readHeir 53 = .ok (.goto 4, 3) := by decide +kernel
theorem dX1_readHeir_56 : decode cX1_readHeir 56 = .ok (.iconst 0, 1) := by decide +kernel
theorem dX1_readHeir_57 : decode cX1_readHeir 57 = .ok (.istore_n 3, 1) := by decide +kernel
theorem dX1_readHeir_58 : decode cX1_readHeir 58 = .ok (.aload_n 0, 1) := by decide +kernel
theorem dX1_readHeir_59 : decode cX1_readHeir 59 = .ok (.getfield 12, 3) := by decide +kernel
theorem dX1_readHeir_62 : decode cX1_readHeir 62 = .ok (.iload_n 1, 1) := by decide +kernel
theorem dX1_readHeir_63 : decode cX1_readHeir 63 = .ok (.iload_n 2, 1) := by decide +kernel
theorem dX1_readHeir_64 : decode cX1_readHeir 64 = .ok (.aload_n 0, 1) := by decide +kernel
theorem dX1_readHeir_65 : decode cX1_readHeir 65 = .ok (.iload_n 3, 1) := by decide +kernel
theorem dX1_readHeir_66 : decode cX1_readHeir 66 = .ok (.getstatic 119, 3) := by decide +kernel
theorem dX1_readHeir_69 : decode cX1_readHeir 69 = .ok (.iload_n 2, 1) := by decide +kernel
theorem dX1_readHeir_70 : decode cX1_readHeir 70 = .ok (.iaload, 1) := by decide +kernel
theorem dX1_readHeir_71 : decode cX1_readHeir 71 = .ok (.invokevirtual 109, 3) := by decide +kernel
theorem dX1_readHeir_74 : decode cX1_readHeir 74 = .ok (.invokevirtual 122, 3) := by decide +kernel
theorem dX1_readHeir_77 : decode cX1_readHeir 77 = .ok (.iinc 2 1, 3) := by decide +kernel
theorem dX1_readHeir_80 : decode cX1_readHeir 80 = .ok (.goto (-46), 3) := by decide +kernel
theorem dX1_readHeir_83 : decode cX1_readHeir 83 = .ok (.return_, 1) := by decide +kernel
theorem dX1_readCurrent_0 : decode cX1_readCurrent 0 = .ok (.aload_n 0, 1) := by decide +kernel
theorem dX1_readCurrent_1 : decode cX1_readCurrent 1 = .ok (.iconst 0, 1) := by decide +kernel
theorem dX1_readCurrent_2 : decode cX1_readCurrent 2 = .ok (.bipush 9, 2) := by decide +kernel
theorem dX1_readCurrent_4 : decode cX1_readCurrent 4 = .ok (.invokevirtual 109, 3) := by decide +kernel
theorem dX1_readCurrent_7 : decode cX1_readCurrent 7 = .ok (.istore_n 1, 1) := by decide +kernel
theorem dX1_readCurrent_8 : decode cX1_readCurrent 8 = .ok (.aload_n 0, 1) := by decide +kernel
theorem dX1_readCurrent_9 : decode cX1_readCurrent 9 = .ok (.getfield 30, 3) := by decide +kernel
theorem dX1_readCurrent_12 : decode cX1_readCurrent 12 = .ok (.ifCond .ne 20, 3) := by decide +kernel
theorem dX1_readCurrent_15 : decode cX1_readCurrent 15 = .ok (.aload_n 0, 1) := by decide +kernel
theorem dX1_readCurrent_16 : decode cX1_readCurrent 16 = .ok (.getfield 34, 3) := by decide +kernel
theorem dX1_readCurrent_19 : decode cX1_readCurrent 19 = .ok (.iload_n 1, 1) := by decide +kernel
theorem dX1_readCurrent_20 : decode cX1_readCurrent 20 = .ok (.ishr, 1) := by decide +kernel
theorem dX1_readCurrent_21 : decode cX1_readCurrent 21 = .ok (.iconst 1, 1) := by decide +kernel
theorem dX1_readCurrent_22 : decode cX1_readCurrent 22 = .ok (.iand, 1) := by decide +kernel
theorem dX1_readCurrent_23 : decode cX1_readCurrent 23 = .ok (.iconst 1, 1) := by decide +kernel
theorem dX1_readCurrent_24 : decode cX1_readCurrent 24 = .ok (.if_icmp .ne 8, 3) := by decide +kernel
theorem dX1_readCurrent_27 : decode cX1_readCurrent 27 = .ok (.aload_n 0, 1) := by decide +kernel
theorem dX1_readCurrent_28 : decode cX1_readCurrent 28 = .ok (.iconst 4, 1) := by decide +kernel
theorem dX1_readCurrent_29 : decode cX1_readCurrent 29 = .ok (.invokevirtual 95, 3) := by decide +kernel
theorem dX1_readCurrent_32 : decode cX1_readCurrent 32 = .ok (.aload_n 0, 1) := by decide +kernel
theorem dX1_readCurrent_33 : decode cX1_readCurrent 33 = .ok (.iconst 0, 1) := by decide +kernel
theorem dX1_readCurrent_34 : decode cX1_readCurrent 34 = .ok (.iconst 4, 1) := by decide +kernel
theorem dX1_readCurrent_35 : decode cX1_readCurrent 35 = .ok (.invokevirtual 109, 3) := by decide +kernel
theorem dX1_readCurrent_38 : decode cX1_readCurrent 38 = .ok (.istore_n 2, 1) := by decide +kernel
theorem dX1_readCurrent_39 : decode cX1_readCurrent 39 = .ok (.aload_n 0, 1) := by decide +kernel
theorem dX1_readCurrent_40 : decode cX1_readCurrent 40 = .ok (.getfield 30, 3) := by decide +kernel
theorem dX1_readCurrent_43 : decode cX1_readCurrent 43 = .ok (.ifCond .eq 4, 3) := by decide +kernel
theorem dX1_readCurrent_46 : decode cX1_readCurrent 46 = .ok (.return_, 1) := by decide +kernel
theorem dX1_readCurrent_47 : decode cX1_readCurrent 47 = .ok (.aload_n 0, 1) := by decide +kernel
theorem dX1_readCurrent_48 : decode cX1_readCurrent 48 = .ok (.dup, 1) := by decide +kernel
theorem dX1_readCurrent_49 : decode cX1_readCurrent 49 = .ok (.getfield 34, 3) := by decide +kernel
theorem dX1_readCurrent_52 : decode cX1_readCurrent 52 = .ok (.iconst 1, 1) := by decide +kernel
theorem dX1_readCurrent_53 : decode cX1_readCurrent 53 = .ok (.iload_n 1, 1) := by decide +kernel
theorem dX1_readCurrent_54 : decode cX1_readCurrent 54 = .ok (.ishl, 1) := by decide +kernel
theorem dX1_readCurrent_55 : decode cX1_readCurrent 55 = .ok (.ior, 1) := by decide +kernel
theorem dX1_readCurrent_56 : decode cX1_readCurrent 56 = .ok (.putfield 34, 3) := by decide +kernel
theorem dX1_readCurrent_59 : decode cX1_readCurrent 59 = .ok (.aload_n 0, 1) := by decide +kernel
theorem dX1_readCurrent_60 : decode cX1_readCurrent 60 = .ok (.getfield 12, 3) := by decide +kernel
theorem dX1_readCurrent_63 : decode cX1_readCurrent 63 = .ok (.getfield 125, 3) := by decide +kernel
theorem dX1_readCurrent_66 : decode cX1_readCurrent 66 = .ok (.iload_n 1, 1) := by decide +kernel
theorem dX1_readCurrent_67 : decode cX1_readCurrent 67 = .ok (.iload_n 2, 1) := by decide +kernel
theorem dX1_readCurrent_68 : decode cX1_readCurrent 68 = .ok (.iastore, 1) := by decide +kernel
theorem dX1_readCurrent_69 : decode cX1_readCurrent 69 = .ok (.return_, 1) := by decide +kernel
theorem dX1_readWind_0 : decode cX1_readWind 0 = .ok (.aload_n 0, 1) := by decide +kernel
theorem dX1_readWind_1 : decode cX1_readWind 1 = .ok (.iconst 0, 1) := by decide +kernel
theorem dX1_readWind_2 : decode cX1_readWind 2 = .ok (.bipush 23, 2) := by decide +kernel
theorem dX1_readWind_4 : decode cX1_readWind 4 = .ok (.invokevirtual 109, 3) := by decide +kernel
theorem dX1_readWind_7 : decode cX1_readWind 7 = .ok (.istore_n 1, 1) := by decide +kernel
theorem dX1_readWind_8 : decode cX1_readWind 8 = .ok (.aload_n 0, 1) := by decide +kernel
theorem dX1_readWind_9 : decode cX1_readWind 9 = .ok (.getfield 30, 3) := by decide +kernel
theorem dX1_readWind_12 : decode cX1_readWind 12 = .ok (.ifCond .ne 20, 3) := by decide +kernel
theorem dX1_readWind_15 : decode cX1_readWind 15 = .ok (.aload_n 0, 1) := by decide +kernel
theorem dX1_readWind_16 : decode cX1_readWind 16 = .ok (.getfield 37, 3) := by decide +kernel
theorem dX1_readWind_19 : decode cX1_readWind 19 = .ok (.iload_n 1, 1) := by decide +kernel
theorem dX1_readWind_20 : decode cX1_readWind 20 = .ok (.ishr, 1) := by decide +kernel
theorem dX1_readWind_21 : decode cX1_readWind 21 = .ok (.iconst 1, 1) := by decide +kernel
theorem dX1_readWind_22 : decode cX1_readWind 22 = .ok (.iand, 1) := by decide +kernel
theorem dX1_readWind_23 : decode cX1_readWind 23 = .ok (.iconst 1, 1) := by decide +kernel
theorem dX1_readWind_24 : decode cX1_readWind 24 = .ok (.if_icmp .ne 8, 3) := by decide +kernel
theorem dX1_readWind_27 : decode cX1_readWind 27 = .ok (.aload_n 0, 1) := by decide +kernel
theorem dX1_readWind_28 : decode cX1_readWind 28 = .ok (.iconst 4, 1) := by decide +kernel
theorem dX1_readWind_29 : decode cX1_readWind 29 = .ok (.invokevirtual 95, 3) := by decide +kernel
theorem dX1_readWind_32 : decode cX1_readWind 32 = .ok (.aload_n 0, 1) := by decide +kernel
theorem dX1_readWind_33 : decode cX1_readWind 33 = .ok (.iconst 0, 1) := by decide +kernel
theorem dX1_readWind_34 : decode cX1_readWind 34 = .ok (.iconst 4, 1) := by decide +kernel
theorem dX1_readWind_35 : decode cX1_readWind 35 = .ok (.invokevirtual 109, 3) := by decide +kernel
theorem dX1_readWind_38 : decode cX1_readWind 38 = .ok (.istore_n 2, 1) := by decide +kernel
theorem dX1_readWind_39 : decode cX1_readWind 39 = .ok (.aload_n 0, 1) := by decide +kernel
theorem dX1_readWind_40 : decode cX1_readWind 40 = .ok (.getfield 30, 3) := by decide +kernel
theorem dX1_readWind_43 : decode cX1_readWind 43 = .ok (.ifCond .eq 4, 3) := by decide +kernel
theorem dX1_readWind_46 : decode cX1_readWind 46 = .ok (.return_, 1) := by decide +kernel
theorem dX1_readWind_47 : decode cX1_readWind 47 = .ok (.aload_n 0, 1) := by decide +kernel
theorem dX1_readWind_48 : decode cX1_readWind 48 = .ok (.dup, 1) := by decide +kernel
theorem dX1_readWind_49 : decode cX1_readWind 49 = .ok (.getfield 37, 3) := by decide +kernel
theorem dX1_readWind_52 : decode cX1_readWind 52 = .ok (.iconst 1, 1) := by decide +kernel
theorem dX1_readWind_53 : decode cX1_readWind 53 = .ok (.iload_n 1, 1) := by decide +kernel
theorem dX1_readWind_54 : decode cX1_readWind 54 = .ok (.ishl, 1) := by decide +kernel
theorem dX1_readWind_55 : decode cX1_readWind 55 = .ok (.ior, 1) := by decide +kernel
theorem dX1_readWind_56 : decode cX1_readWind 56 = .ok (.putfield 37, 3) := by decide +kernel
theorem dX1_readWind_59 : decode cX1_readWind 59 = .ok (.aload_n 0, 1) := by decide +kernel
theorem dX1_readWind_60 : decode cX1_readWind 60 = .ok (.getfield 12, 3) := by decide +kernel
theorem dX1_readWind_63 : decode cX1_readWind 63 = .ok (.getfield 128, 3) := by decide +kernel
theorem dX1_readWind_66 : decode cX1_readWind 66 = .ok (.iload_n 1, 1) := by decide +kernel
theorem dX1_readWind_67 : decode cX1_readWind 67 = .ok (.iload_n 2, 1) := by decide +kernel
theorem dX1_readWind_68 : decode cX1_readWind 68 = .ok (.iastore, 1) := by decide +kernel
theorem dX1_readWind_69 : decode cX1_readWind 69 = .ok (.return_, 1) := by decide +kernel
theorem dX1_readPhase_0 : decode cX1_readPhase 0 = .ok (.aload_n 0, 1) := by decide +kernel
theorem dX1_readPhase_1 : decode cX1_readPhase 1 = .ok (.getfield 40, 3) := by decide +kernel
theorem dX1_readPhase_4 : decode cX1_readPhase 4 = .ok (.ifCond .eq 9, 3) := by decide +kernel
theorem dX1_readPhase_7 : decode cX1_readPhase 7 = .ok (.aload_n 0, 1) := by decide +kernel
theorem dX1_readPhase_8 : decode cX1_readPhase 8 = .ok (.iconst 4, 1) := by decide +kernel
theorem dX1_readPhase_9 : decode cX1_readPhase 9 = .ok (.invokevirtual 95, 3) := by decide +kernel
theorem dX1_readPhase_12 : decode cX1_readPhase 12 = .ok (.return_, 1) := by decide +kernel
theorem dX1_readPhase_13 : decode cX1_readPhase 13 = .ok (.aload_n 0, 1) := by decide +kernel
theorem dX1_readPhase_14 : decode cX1_readPhase 14 = .ok (.iconst 1, 1) := by decide +kernel
theorem dX1_readPhase_15 : decode cX1_readPhase 15 = .ok (.putfield 40, 3) := by decide +kernel
theorem dX1_readPhase_18 : decode cX1_readPhase 18 = .ok (.aload_n 0, 1) := by decide +kernel
theorem dX1_readPhase_19 : decode cX1_readPhase 19 = .ok (.getfield 12, 3) := by decide +kernel
theorem dX1_readPhase_22 : decode cX1_readPhase 22 = .ok (.aload_n 0, 1) := by decide +kernel
theorem dX1_readPhase_23 : decode cX1_readPhase 23 = .ok (.iconst 0, 1) := by decide +kernel
theorem dX1_readPhase_24 : decode cX1_readPhase 24 = .ok (.iconst 5, 1) := by decide +kernel
theorem dX1_readPhase_25 : decode cX1_readPhase 25 = .ok (.invokevirtual 109, 3) := by decide +kernel
theorem dX1_readPhase_28 : decode cX1_readPhase 28 = .ok (.putfield 131, 3) := by decide +kernel
theorem dX1_readPhase_31 : decode cX1_readPhase 31 = .ok (.return_, 1) := by decide +kernel
theorem dX1_readNumber_0 : decode cX1_readNumber 0 = .ok (.aload_n 0, 1) := by decide +kernel
theorem dX1_readNumber_1 : decode cX1_readNumber 1 = .ok (.getfield 30, 3) := by decide +kernel
theorem dX1_readNumber_4 : decode cX1_readNumber 4 = .ok (.ifCond .eq 5, 3) := by decide +kernel
theorem dX1_readNumber_7 : decode cX1_readNumber 7 = .ok (.iload_n 1, 1) := by decide +kernel
theorem dX1_readNumber_8 : decode cX1_readNumber 8 = .ok (.ireturn, 1) := by decide +kernel
theorem dX1_readNumber_9 : decode cX1_readNumber 9 = .ok (.aload_n 0, 1) := by decide +kernel
theorem dX1_readNumber_10 : decode cX1_readNumber 10 = .ok (.getfield 18, 3) := by decide +kernel
theorem dX1_readNumber_13 : decode cX1_readNumber 13 = .ok (.invokevirtual 44, 3) := by decide +kernel
theorem dX1_readNumber_16 : decode cX1_readNumber 16 = .ok (.aload_n 0, 1) := by decide +kernel
theorem dX1_readNumber_17 : decode cX1_readNumber 17 = .ok (.getfield 18, 3) := by decide +kernel
theorem dX1_readNumber_20 : decode cX1_readNumber 20 = .ok (.getfield 47, 3) := by decide +kernel
theorem dX1_readNumber_23 : decode cX1_readNumber 23 = .ok (.iconst 2, 1) := by decide +kernel
theorem dX1_readNumber_24 : decode cX1_readNumber 24 = .ok (.if_icmp .eq 10, 3) := by decide +kernel
theorem dX1_readNumber_27 : decode cX1_readNumber 27 = .ok (.aload_n 0, 1) := by decide +kernel
theorem dX1_readNumber_28 : decode cX1_readNumber 28 = .ok (.invokevirtual 89, 3) := by decide +kernel
theorem dX1_readNumber_31 : decode cX1_readNumber 31 = .ok (.goto 23, 3) := by decide +kernel
theorem dX1_readNumber_34 : decode cX1_readNumber 34 = .ok (.aload_n 0, 1) := by decide +kernel
theorem dX1_readNumber_35 : decode cX1_readNumber 35 = .ok (.getfield 18, 3) := by decide +kernel
theorem dX1_readNumber_38 : decode cX1_readNumber 38 = .ok (.getfield 133, 3) := by decide +kernel
theorem dX1_readNumber_41 : decode cX1_readNumber 41 = .ok (.iload_n 1, 1) := by decide +kernel
theorem dX1_readNumber_42 : decode cX1_readNumber 42 = .ok (.iload_n 2, 1) := by decide +kernel
theorem dX1_readNumber_43 : decode cX1_readNumber 43 = .ok (.invokestatic 136, 3) := by decide +kernel
theorem dX1_readNumber_46 : decode cX1_readNumber 46 = .ok (.ifCond .ne 8, 3) := by decide +kernel
theorem dX1_readNumber_49 : decode cX1_readNumber 49 = .ok (.aload_n 0, 1) := by decide +kernel
theorem dX1_readNumber_50 : decode cX1_readNumber 50 = .ok (.iconst 3, 1) := by decide +kernel
theorem dX1_readNumber_51 : decode cX1_readNumber 51 = .ok (.invokevirtual 95, 3) := by decide +kernel
theorem dX1_readNumber_54 : decode cX1_readNumber 54 = .ok (.aload_n 0, 1) := by decide +kernel
theorem dX1_readNumber_55 : decode cX1_readNumber 55 = .ok (.getfield 30, 3) := by decide +kernel
theorem dX1_readNumber_58 : decode cX1_readNumber 58 = .ok (.ifCond .ne 13, 3) := by decide +kernel
theorem dX1_readNumber_61 : decode cX1_readNumber 61 = .ok (.aload_n 0, 1) := by decide +kernel
theorem dX1_readNumber_62 : decode cX1_readNumber 62 = .ok (.getfield 18, 3) := by decide +kernel
theorem dX1_readNumber_65 : decode cX1_readNumber 65 = .ok (.getfield 133, 3) := by decide +kernel
theorem dX1_readNumber_68 : decode cX1_readNumber 68 = .ok (.goto 4, 3) := by decide +kernel
theorem dX1_readNumber_71 : decode cX1_readNumber 71 = .ok (.iload_n 1, 1) := by decide +kernel
theorem dX1_readNumber_72 : decode cX1_readNumber 72 = .ok (.ireturn, 1) := by decide +kernel
theorem dX1_failToken_0 : decode cX1_failToken 0 = .ok (.aload_n 0, 1) := by decide +kernel
theorem dX1_failToken_1 : decode cX1_failToken 1 = .ok (.aload_n 0, 1) := by decide +kernel
theorem dX1_failToken_2 : decode cX1_failToken 2 = .ok (.getfield 18, 3) := by decide +kernel
theorem dX1_failToken_5 : decode cX1_failToken 5 = .ok (.getfield 47, 3) := by decide +kernel
theorem dX1_failToken_8 : decode cX1_failToken 8 = .ok (.iconst 4, 1) := by decide +kernel
theorem dX1_failToken_9 : decode cX1_failToken 9 = .ok (.if_icmp .ne 7, 3) := by decide +kernel
theorem dX1_failToken_12 : decode cX1_failToken 12 = .ok (.iconst 1, 1) := by decide +kernel
theorem dX1_failToken_13 : decode cX1_failToken 13 = .ok (.goto 4, 3) := by decide +kernel
theorem dX1_failToken_16 : decode cX1_failToken 16 = .ok (.iconst 2, 1) := by decide +kernel
theorem dX1_failToken_17 : decode cX1_failToken 17 = .ok (.invokevirtual 95, 3) := by decide +kernel
theorem dX1_failToken_20 : decode cX1_failToken 20 = .ok (.return_, 1) := by decide +kernel
theorem dX1_fail_0 : decode cX1_fail 0 = .ok (.aload_n 0, 1) := by decide +kernel
theorem dX1_fail_1 : decode cX1_fail 1 = .ok (.iload_n 1, 1) := by decide +kernel
theorem dX1_fail_2 : decode cX1_fail 2 = .ok (.putfield 30, 3) := by decide +kernel
theorem dX1_fail_5 : decode cX1_fail 5 = .ok (.aload_n 0, 1) := by decide +kernel
theorem dX1_fail_6 : decode cX1_fail 6 = .ok (.aload_n 0, 1) := by decide +kernel
theorem dX1_fail_7 : decode cX1_fail 7 = .ok (.getfield 18, 3) := by decide +kernel
theorem dX1_fail_10 : decode cX1_fail 10 = .ok (.getfield 140, 3) := by decide +kernel
theorem dX1_fail_13 : decode cX1_fail 13 = .ok (.putfield 143, 3) := by decide +kernel
theorem dX1_fail_16 : decode cX1_fail 16 = .ok (.return_, 1) := by decide +kernel
theorem dX2_init_0 : decode cX2_init 0 = .ok (.aload_n 0, 1) := by decide +kernel
theorem dX2_init_1 : decode cX2_init 1 = .ok (.invokespecial 3, 3) := by decide +kernel
theorem dX2_init_4 : decode cX2_init 4 = .ok (.aload_n 0, 1) := by decide +kernel
theorem dX2_init_5 : decode cX2_init 5 = .ok (.bipush 20, 2) := by decide +kernel
theorem dX2_init_7 : decode cX2_init 7 = .ok (.newarray .int, 2) := by decide +kernel
theorem dX2_init_9 : decode cX2_init 9 = .ok (.putfield 9, 3) := by decide +kernel
theorem dX2_init_12 : decode cX2_init 12 = .ok (.aload_n 0, 1) := by decide +kernel
theorem dX2_init_13 : decode cX2_init 13 = .ok (.bipush 16, 2) := by decide +kernel
theorem dX2_init_15 : decode cX2_init 15 = .ok (.newarray .int, 2) := by decide +kernel
theorem dX2_init_17 : decode cX2_init 17 = .ok (.putfield 15, 3) := by decide +kernel
theorem dX2_init_20 : decode cX2_init 20 = .ok (.aload_n 0, 1) := by decide +kernel
theorem dX2_init_21 : decode cX2_init 21 = .ok (.bipush 10, 2) := by decide +kernel
theorem dX2_init_23 : decode cX2_init 23 = .ok (.newarray .int, 2) := by decide +kernel
theorem dX2_init_25 : decode cX2_init 25 = .ok (.putfield 18, 3) := by decide +kernel
theorem dX2_init_28 : decode cX2_init 28 = .ok (.aload_n 0, 1) := by decide +kernel
theorem dX2_init_29 : decode cX2_init 29 = .ok (.bipush 24, 2) := by decide +kernel
theorem dX2_init_31 : decode cX2_init 31 = .ok (.newarray .int, 2) := by decide +kernel
theorem dX2_init_33 : decode cX2_init 33 = .ok (.putfield 21, 3) := by decide +kernel
theorem dX2_init_36 : decode cX2_init 36 = .ok (.aload_n 0, 1) := by decide +kernel
theorem dX2_init_37 : decode cX2_init 37 = .ok (.invokevirtual 24, 3) := by decide +kernel
theorem dX2_init_40 : decode cX2_init 40 = .ok (.return_, 1) := by decide +kernel
theorem dX2_empty_0 : decode cX2_empty 0 = .ok (.aload_n 0, 1) := by decide +kernel
theorem dX2_empty_1 : decode cX2_empty 1 = .ok (.iconst 0, 1) := by decide +kernel
theorem dX2_empty_2 : decode cX2_empty 2 = .ok (.putfield 27, 3) := by decide +kernel
theorem dX2_empty_5 : decode cX2_empty 5 = .ok (.aload_n 0, 1) := by decide +kernel
theorem dX2_empty_6 : decode cX2_empty 6 = .ok (.iconst 0, 1) := by decide +kernel
theorem dX2_empty_7 : decode cX2_empty 7 = .ok (.putfield 31, 3) := by decide +kernel
theorem dX2_empty_10 : decode cX2_empty 10 = .ok (.aload_n 0, 1) := by decide +kernel
theorem dX2_empty_11 : decode cX2_empty 11 = .ok (.iconst 0, 1) := by decide +kernel
theorem dX2_empty_12 : decode cX2_empty 12 = .ok (.putfield 34, 3) := by decide +kernel
theorem dX2_empty_15 : decode cX2_empty 15 = .ok (.iconst 0, 1) := by decide +kernel
theorem dX2_empty_16 : decode cX2_empty 16 = .ok (.istore_n 1, 1) := by decide +kernel
theorem dX2_empty_17 : decode cX2_empty 17 = .ok (.iload_n 1, 1) := by decide +kernel
theorem dX2_empty_18 : decode cX2_empty 18 = .ok (.bipush 10, 2) := by decide +kernel
theorem dX2_empty_20 : decode cX2_empty 20 = .ok (.if_icmp .ge 16, 3) := by decide +kernel
theorem dX2_empty_23 : decode cX2_empty 23 = .ok (.aload_n 0, 1) := by decide +kernel
theorem dX2_empty_24 : decode cX2_empty 24 = .ok (.getfield 18, 3) := by decide +kernel
theorem dX2_empty_27 : decode cX2_empty 27 = .ok (.iload_n 1, 1) := by decide +kernel
theorem dX2_empty_28 : decode cX2_empty 28 = .ok (.iconst 2, 1) := by decide +kernel
theorem dX2_empty_29 : decode cX2_empty 29 = .ok (.iastore, 1) := by decide +kernel
theorem dX2_empty_30 : decode cX2_empty 30 = .ok (.iinc 1 1, 3) := by decide +kernel
theorem dX2_empty_33 : decode cX2_empty 33 = .ok (.goto (-16), 3) := by decide +kernel
theorem dX2_empty_36 : decode cX2_empty 36 = .ok (.iconst 0, 1) := by decide +kernel
theorem dX2_empty_37 : decode cX2_empty 37 = .ok (.istore_n 1, 1) := by decide +kernel
theorem dX2_empty_38 : decode cX2_empty 38 = .ok (.iload_n 1, 1) := by decide +kernel
theorem dX2_empty_39 : decode cX2_empty 39 = .ok (.bipush 24, 2) := by decide +kernel
theorem dX2_empty_41 : decode cX2_empty 41 = .ok (.if_icmp .ge 16, 3) := by decide +kernel
theorem dX2_empty_44 : decode cX2_empty 44 = .ok (.aload_n 0, 1) := by decide +kernel
theorem dX2_empty_45 : decode cX2_empty 45 = .ok (.getfield 21, 3) := by decide +kernel
theorem dX2_empty_48 : decode cX2_empty 48 = .ok (.iload_n 1, 1) := by decide +kernel
theorem dX2_empty_49 : decode cX2_empty 49 = .ok (.iconst 0, 1) := by decide +kernel
theorem dX2_empty_50 : decode cX2_empty 50 = .ok (.iastore, 1) := by decide +kernel
theorem dX2_empty_51 : decode cX2_empty 51 = .ok (.iinc 1 1, 3) := by decide +kernel
theorem dX2_empty_54 : decode cX2_empty 54 = .ok (.goto (-16), 3) := by decide +kernel
theorem dX2_empty_57 : decode cX2_empty 57 = .ok (.return_, 1) := by decide +kernel
theorem dX2_become_0 : decode cX2_become 0 = .ok (.aload_n 0, 1) := by decide +kernel
theorem dX2_become_1 : decode cX2_become 1 = .ok (.aload_n 1, 1) := by decide +kernel
theorem dX2_become_2 : decode cX2_become 2 = .ok (.getfield 27, 3) := by decide +kernel
theorem dX2_become_5 : decode cX2_become 5 = .ok (.putfield 27, 3) := by decide +kernel
theorem dX2_become_8 : decode cX2_become 8 = .ok (.aload_n 0, 1) := by decide +kernel
theorem dX2_become_9 : decode cX2_become 9 = .ok (.aload_n 1, 1) := by decide +kernel
theorem dX2_become_10 : decode cX2_become 10 = .ok (.getfield 31, 3) := by decide +kernel
theorem dX2_become_13 : decode cX2_become 13 = .ok (.putfield 31, 3) := by decide +kernel
theorem dX2_become_16 : decode cX2_become 16 = .ok (.aload_n 0, 1) := by decide +kernel
theorem dX2_become_17 : decode cX2_become 17 = .ok (.aload_n 1, 1) := by decide +kernel
theorem dX2_become_18 : decode cX2_become 18 = .ok (.getfield 34, 3) := by decide +kernel
theorem dX2_become_21 : decode cX2_become 21 = .ok (.putfield 34, 3) := by decide +kernel
theorem dX2_become_24 : decode cX2_become 24 = .ok (.aload_n 1, 1) := by decide +kernel
theorem dX2_become_25 : decode cX2_become 25 = .ok (.getfield 9, 3) := by decide +kernel
theorem dX2_become_28 : decode cX2_become 28 = .ok (.iconst 0, 1) := by decide +kernel
theorem dX2_become_29 : decode cX2_become 29 = .ok (.aload_n 0, 1) := by decide +kernel
theorem dX2_become_30 : decode cX2_become 30 = .ok (.getfield 9, 3) := by decide +kernel
theorem dX2_become_33 : decode cX2_become 33 = .ok (.iconst 0, 1) := by decide +kernel
theorem dX2_become_34 : decode cX2_become 34 = .ok (.bipush 20, 2) := by decide +kernel
theorem dX2_become_36 : decode cX2_become 36 = .ok (.invokestatic 37, 3) := by decide +kernel
theorem dX2_become_39 : decode cX2_become 39 = .ok (.aload_n 1, 1) := by decide +kernel
theorem dX2_become_40 : decode cX2_become 40 = .ok (.getfield 15, 3) := by decide +kernel
theorem dX2_become_43 : decode cX2_become 43 = .ok (.iconst 0, 1) := by decide +kernel
theorem dX2_become_44 : decode cX2_become 44 = .ok (.aload_n 0, 1) := by decide +kernel
theorem dX2_become_45 : decode cX2_become 45 = .ok (.getfield 15, 3) := by decide +kernel
theorem dX2_become_48 : decode cX2_become 48 = .ok (.iconst 0, 1) := by decide +kernel
theorem dX2_become_49 : decode cX2_become 49 = .ok (.bipush 16, 2) := by decide +kernel
theorem dX2_become_51 : decode cX2_become 51 = .ok (.invokestatic 37, 3) := by decide +kernel
theorem dX2_become_54 : decode cX2_become 54 = .ok (.aload_n 1, 1) := by decide +kernel
theorem dX2_become_55 : decode cX2_become 55 = .ok (.getfield 18, 3) := by decide +kernel
theorem dX2_become_58 : decode cX2_become 58 = .ok (.iconst 0, 1) := by decide +kernel
theorem dX2_become_59 : decode cX2_become 59 = .ok (.aload_n 0, 1) := by decide +kernel
theorem dX2_become_60 : decode cX2_become 60 = .ok (.getfield 18, 3) := by decide +kernel
theorem dX2_become_63 : decode cX2_become 63 = .ok (.iconst 0, 1) := by decide +kernel
theorem dX2_become_64 : decode cX2_become 64 = .ok (.bipush 10, 2) := by decide +kernel
theorem dX2_become_66 : decode cX2_become 66 = .ok (.invokestatic 37, 3) := by decide +kernel
theorem dX2_become_69 : decode cX2_become 69 = .ok (.aload_n 1, 1) := by decide +kernel
theorem dX2_become_70 : decode cX2_become 70 = .ok (.getfield 21, 3) := by decide +kernel
theorem dX2_become_73 : decode cX2_become 73 = .ok (.iconst 0, 1) := by decide +kernel
theorem dX2_become_74 : decode cX2_become 74 = .ok (.aload_n 0, 1) := by decide +kernel
theorem dX2_become_75 : decode cX2_become 75 = .ok (.getfield 21, 3) := by decide +kernel
theorem dX2_become_78 : decode cX2_become 78 = .ok (.iconst 0, 1) := by decide +kernel
theorem dX2_become_79 : decode cX2_become 79 = .ok (.bipush 24, 2) := by decide +kernel
theorem dX2_become_81 : decode cX2_become 81 = .ok (.invokestatic 37, 3) := by decide +kernel
theorem dX2_become_84 : decode cX2_become 84 = .ok (.return_, 1) := by decide +kernel
theorem dX2_isTub_0 : decode cX2_isTub 0 = .ok (.iload_n 1, 1) := by decide +kernel
theorem dX2_isTub_1 : decode cX2_isTub 1 = .ok (.ifCond .lt 15, 3) := by decide +kernel
theorem dX2_isTub_4 : decode cX2_isTub 4 = .ok (.iload_n 1, 1) := by decide +kernel
theorem dX2_isTub_5 : decode cX2_isTub 5 = .ok (.aload_n 0, 1) := by decide +kernel
theorem dX2_isTub_6 : decode cX2_isTub 6 = .ok (.getfield 27, 3) := by decide +kernel
theorem dX2_isTub_9 : decode cX2_isTub 9 = .ok (.if_icmp .ge 7, 3) := by decide +kernel
theorem dX2_isTub_12 : decode cX2_isTub 12 = .ok (.iconst 1, 1) := by decide +kernel
theorem dX2_isTub_13 : decode cX2_isTub 13 = .ok (.goto 4, 3) := by decide +kernel
theorem dX2_isTub_16 : decode cX2_isTub 16 = .ok (.iconst 0, 1) := by decide +kernel
theorem dX2_isTub_17 : decode cX2_isTub 17 = .ok (.ireturn, 1) := by decide +kernel
theorem dX2_isHeir_0 : decode cX2_isHeir 0 = .ok (.iload_n 1, 1) := by decide +kernel
theorem dX2_isHeir_1 : decode cX2_isHeir 1 = .ok (.ifCond .lt 15, 3) := by decide +kernel
theorem dX2_isHeir_4 : decode cX2_isHeir 4 = .ok (.iload_n 1, 1) := by decide +kernel
theorem dX2_isHeir_5 : decode cX2_isHeir 5 = .ok (.aload_n 0, 1) := by decide +kernel
theorem dX2_isHeir_6 : decode cX2_isHeir 6 = .ok (.getfield 31, 3) := by decide +kernel
theorem dX2_isHeir_9 : decode cX2_isHeir 9 = .ok (.if_icmp .ge 7, 3) := by decide +kernel
theorem dX2_isHeir_12 : decode cX2_isHeir 12 = .ok (.iconst 1, 1) := by decide +kernel
theorem dX2_isHeir_13 : decode cX2_isHeir 13 = .ok (.goto 4, 3) := by decide +kernel
theorem dX2_isHeir_16 : decode cX2_isHeir 16 = .ok (.iconst 0, 1) := by decide +kernel
theorem dX2_isHeir_17 : decode cX2_isHeir 17 = .ok (.ireturn, 1) := by decide +kernel
theorem dX2_ofTub_0 : decode cX2_ofTub 0 = .ok (.aload_n 0, 1) := by decide +kernel
theorem dX2_ofTub_1 : decode cX2_ofTub 1 = .ok (.getfield 9, 3) := by decide +kernel
theorem dX2_ofTub_4 : decode cX2_ofTub 4 = .ok (.iconst 5, 1) := by decide +kernel
theorem dX2_ofTub_5 : decode cX2_ofTub 5 = .ok (.iload_n 1, 1) := by decide +kernel
theorem dX2_ofTub_6 : decode cX2_ofTub 6 = .ok (.imul, 1) := by decide +kernel
theorem dX2_ofTub_7 : decode cX2_ofTub 7 = .ok (.iload_n 2, 1) := by decide +kernel
theorem dX2_ofTub_8 : decode cX2_ofTub 8 = .ok (.iadd, 1) := by decide +kernel
theorem dX2_ofTub_9 : decode cX2_ofTub 9 = .ok (.iaload, 1) := by decide +kernel
theorem dX2_ofTub_10 : decode cX2_ofTub 10 = .ok (.ireturn, 1) := by decide +kernel
theorem dX2_putTub_0 : decode cX2_putTub 0 = .ok (.aload_n 0, 1) := by decide +kernel
theorem dX2_putTub_1 : decode cX2_putTub 1 = .ok (.getfield 9, 3) := by decide +kernel
theorem dX2_putTub_4 : decode cX2_putTub 4 = .ok (.iconst 5, 1) := by decide +kernel
theorem dX2_putTub_5 : decode cX2_putTub 5 = .ok (.iload_n 1, 1) := by decide +kernel
theorem dX2_putTub_6 : decode cX2_putTub 6 = .ok (.imul, 1) := by decide +kernel
theorem dX2_putTub_7 : decode cX2_putTub 7 = .ok (.iload_n 2, 1) := by decide +kernel
theorem dX2_putTub_8 : decode cX2_putTub 8 = .ok (.iadd, 1) := by decide +kernel
theorem dX2_putTub_9 : decode cX2_putTub 9 = .ok (.iload_n 3, 1) := by decide +kernel
theorem dX2_putTub_10 : decode cX2_putTub 10 = .ok (.iastore, 1) := by decide +kernel
theorem dX2_putTub_11 : decode cX2_putTub 11 = .ok (.return_, 1) := by decide +kernel
theorem dX2_moveTub_0 : decode cX2_moveTub 0 = .ok (.aload_n 0, 1) := by decide +kernel
theorem dX2_moveTub_1 : decode cX2_moveTub 1 = .ok (.iload_n 1, 1) := by decide +kernel
theorem dX2_moveTub_2 : decode cX2_moveTub 2 = .ok (.iconst 1, 1) := by decide +kernel
theorem dX2_moveTub_3 : decode cX2_moveTub 3 = .ok (.iload_n 2, 1) := by decide +kernel
theorem dX2_moveTub_4 : decode cX2_moveTub 4 = .ok (.invokevirtual 43, 3) := by decide +kernel
theorem dX2_moveTub_7 : decode cX2_moveTub 7 = .ok (.aload_n 0, 1) := by decide +kernel
theorem dX2_moveTub_8 : decode cX2_moveTub 8 = .ok (.iload_n 1, 1) := by decide +kernel
theorem dX2_moveTub_9 : decode cX2_moveTub 9 = .ok (.iconst 2, 1) := by decide +kernel
theorem dX2_moveTub_10 : decode cX2_moveTub 10 = .ok (.iload_n 3, 1) := by decide +kernel
theorem dX2_moveTub_11 : decode cX2_moveTub 11 = .ok (.invokevirtual 43, 3) := by decide +kernel
theorem dX2_moveTub_14 : decode cX2_moveTub 14 = .ok (.return_, 1) := by decide +kernel
theorem dX2_ofHeir_0 : decode cX2_ofHeir 0 = .ok (.aload_n 0, 1) := by decide +kernel
theorem dX2_ofHeir_1 : decode cX2_ofHeir 1 = .ok (.getfield 15, 3) := by decide +kernel
theorem dX2_ofHeir_4 : decode cX2_ofHeir 4 = .ok (.iconst 4, 1) := by decide +kernel
theorem dX2_ofHeir_5 : decode cX2_ofHeir 5 = .ok (.iload_n 1, 1) := by decide +kernel
theorem dX2_ofHeir_6 : decode cX2_ofHeir 6 = .ok (.imul, 1) := by decide +kernel
theorem dX2_ofHeir_7 : decode cX2_ofHeir 7 = .ok (.iload_n 2, 1) := by decide +kernel
theorem dX2_ofHeir_8 : decode cX2_ofHeir 8 = .ok (.iadd, 1) := by decide +kernel
theorem dX2_ofHeir_9 : decode cX2_ofHeir 9 = .ok (.iaload, 1) := by decide +kernel
theorem dX2_ofHeir_10 : decode cX2_ofHeir 10 = .ok (.ireturn, 1) := by decide +kernel
theorem dX2_putHeir_0 : decode cX2_putHeir 0 = .ok (.aload_n 0, 1) := by decide +kernel
theorem dX2_putHeir_1 : decode cX2_putHeir 1 = .ok (.getfield 15, 3) := by decide +kernel
theorem dX2_putHeir_4 : decode cX2_putHeir 4 = .ok (.iconst 4, 1) := by decide +kernel
theorem dX2_putHeir_5 : decode cX2_putHeir 5 = .ok (.iload_n 1, 1) := by decide +kernel
theorem dX2_putHeir_6 : decode cX2_putHeir 6 = .ok (.imul, 1) := by decide +kernel
theorem dX2_putHeir_7 : decode cX2_putHeir 7 = .ok (.iload_n 2, 1) := by decide +kernel
theorem dX2_putHeir_8 : decode cX2_putHeir 8 = .ok (.iadd, 1) := by decide +kernel
theorem dX2_putHeir_9 : decode cX2_putHeir 9 = .ok (.iload_n 3, 1) := by decide +kernel
theorem dX2_putHeir_10 : decode cX2_putHeir 10 = .ok (.iastore, 1) := by decide +kernel
theorem dX2_putHeir_11 : decode cX2_putHeir 11 = .ok (.return_, 1) := by decide +kernel
theorem dX2_estates_0 : decode cX2_estates 0 = .ok (.iconst 0, 1) := by decide +kernel
theorem dX2_estates_1 : decode cX2_estates 1 = .ok (.istore_n 1, 1) := by decide +kernel
theorem dX2_estates_2 : decode cX2_estates 2 = .ok (.iconst 0, 1) := by decide +kernel
theorem dX2_estates_3 : decode cX2_estates 3 = .ok (.istore_n 2, 1) := by decide +kernel
theorem dX2_estates_4 : decode cX2_estates 4 = .ok (.iload_n 2, 1) := by decide +kernel
theorem dX2_estates_5 : decode cX2_estates 5 = .ok (.aload_n 0, 1) := by decide +kernel
theorem dX2_estates_6 : decode cX2_estates 6 = .ok (.getfield 27, 3) := by decide +kernel
theorem dX2_estates_9 : decode cX2_estates 9 = .ok (.if_icmp .ge 18, 3) := by decide +kernel
theorem dX2_estates_12 : decode cX2_estates 12 = .ok (.iload_n 1, 1) := by decide +kernel
theorem dX2_estates_13 : decode cX2_estates 13 = .ok (.aload_n 0, 1) := by decide +kernel
theorem dX2_estates_14 : decode cX2_estates 14 = .ok (.iload_n 2, 1) := by decide +kernel
theorem dX2_estates_15 : decode cX2_estates 15 = .ok (.iconst 4, 1) := by decide +kernel
theorem dX2_estates_16 : decode cX2_estates 16 = .ok (.invokevirtual 47, 3) := by decide +kernel
theorem dX2_estates_19 : decode cX2_estates 19 = .ok (.iadd, 1) := by decide +kernel
theorem dX2_estates_20 : decode cX2_estates 20 = .ok (.istore_n 1, 1) := by decide +kernel
theorem dX2_estates_21 : decode cX2_estates 21 = .ok (.iinc 2 1, 3) := by decide +kernel
theorem dX2_estates_24 : decode cX2_estates 24 = .ok (.goto (-20), 3) := by decide +kernel
theorem dX2_estates_27 : decode cX2_estates 27 = .ok (.iload_n 1, 1) := by decide +kernel
theorem dX2_estates_28 : decode cX2_estates 28 = .ok (.ireturn, 1) := by decide +kernel
theorem dX2_hooks_0 : decode cX2_hooks 0 = .ok (.iconst 0, 1) := by decide +kernel
theorem dX2_hooks_1 : decode cX2_hooks 1 = .ok (.istore_n 1, 1) := by decide +kernel
theorem dX2_hooks_2 : decode cX2_hooks 2 = .ok (.iconst 0, 1) := by decide +kernel
theorem dX2_hooks_3 : decode cX2_hooks 3 = .ok (.istore_n 2, 1) := by decide +kernel
theorem dX2_hooks_4 : decode cX2_hooks 4 = .ok (.iload_n 2, 1) := by decide +kernel
theorem dX2_hooks_5 : decode cX2_hooks 5 = .ok (.aload_n 0, 1) := by decide +kernel
theorem dX2_hooks_6 : decode cX2_hooks 6 = .ok (.getfield 31, 3) := by decide +kernel
theorem dX2_hooks_9 : decode cX2_hooks 9 = .ok (.if_icmp .ge 18, 3) := by decide +kernel
theorem dX2_hooks_12 : decode cX2_hooks 12 = .ok (.iload_n 1, 1) := by decide +kernel
theorem dX2_hooks_13 : decode cX2_hooks 13 = .ok (.aload_n 0, 1) := by decide +kernel
theorem dX2_hooks_14 : decode cX2_hooks 14 = .ok (.iload_n 2, 1) := by decide +kernel
theorem dX2_hooks_15 : decode cX2_hooks 15 = .ok (.iconst 3, 1) := by decide +kernel
theorem dX2_hooks_16 : decode cX2_hooks 16 = .ok (.invokevirtual 51, 3) := by decide +kernel
theorem dX2_hooks_19 : decode cX2_hooks 19 = .ok (.iadd, 1) := by decide +kernel
theorem dX2_hooks_20 : decode cX2_hooks 20 = .ok (.istore_n 1, 1) := by decide +kernel
theorem dX2_hooks_21 : decode cX2_hooks 21 = .ok (.iinc 2 1, 3) := by decide +kernel
theorem dX2_hooks_24 : decode cX2_hooks 24 = .ok (.goto (-20), 3) := by decide +kernel
theorem dX2_hooks_27 : decode cX2_hooks 27 = .ok (.iload_n 1, 1) := by decide +kernel
theorem dX2_hooks_28 : decode cX2_hooks 28 = .ok (.ireturn, 1) := by decide +kernel
theorem dX2_moving_0 : decode cX2_moving 0 = .ok (.iconst 0, 1) := by decide +kernel
theorem dX2_moving_1 : decode cX2_moving 1 = .ok (.istore_n 1, 1) := by decide +kernel
theorem dX2_moving_2 : decode cX2_moving 2 = .ok (.iconst 0, 1) := by decide +kernel
theorem dX2_moving_3 : decode cX2_moving 3 = .ok (.istore_n 2, 1) := by decide +kernel
theorem dX2_moving_4 : decode cX2_moving 4 = .ok (.iload_n 2, 1) := by decide +kernel
theorem dX2_moving_5 : decode cX2_moving 5 = .ok (.bipush 10, 2) := by decide +kernel
theorem dX2_moving_7 : decode cX2_moving 7 = .ok (.if_icmp .ge 22, 3) := by decide +kernel
theorem dX2_moving_10 : decode cX2_moving 10 = .ok (.aload_n 0, 1) := by decide +kernel
theorem dX2_moving_11 : decode cX2_moving 11 = .ok (.getfield 18, 3) := by decide +kernel
theorem dX2_moving_14 : decode cX2_moving 14 = .ok (.iload_n 2, 1) := by decide +kernel
theorem dX2_moving_15 : decode cX2_moving 15 = .ok (.iaload, 1) := by decide +kernel
theorem dX2_moving_16 : decode cX2_moving 16 = .ok (.iconst 2, 1) := by decide +kernel
theorem dX2_moving_17 : decode cX2_moving 17 = .ok (.if_icmp .eq 6, 3) := by decide +kernel
theorem dX2_moving_20 : decode cX2_moving 20 = .ok (.iinc 1 1, 3) := by decide +kernel
theorem dX2_moving_23 : decode cX2_moving 23 = .ok (.iinc 2 1, 3) := by decide +kernel
theorem dX2_moving_26 : decode cX2_moving 26 = .ok (.goto (-22), 3) := by decide +kernel
theorem dX2_moving_29 : decode cX2_moving 29 = .ok (.iload_n 1, 1) := by decide +kernel
theorem dX2_moving_30 : decode cX2_moving 30 = .ok (.ireturn, 1) := by decide +kernel
theorem dX2_tideAt_0 : decode cX2_tideAt 0 = .ok (.iload_n 1, 1) := by decide +kernel
theorem dX2_tideAt_1 : decode cX2_tideAt 1 = .ok (.aload_n 0, 1) := by decide +kernel
theorem dX2_tideAt_2 : decode cX2_tideAt 2 = .ok (.getfield 34, 3) := by decide +kernel
theorem dX2_tideAt_5 : decode cX2_tideAt 5 = .ok (.iadd, 1) := by decide +kernel
theorem dX2_tideAt_6 : decode cX2_tideAt 6 = .ok (.iconst 3, 1) := by decide +kernel
theorem dX2_tideAt_7 : decode cX2_tideAt 7 = .ok (.idiv, 1) := by decide +kernel
theorem dX2_tideAt_8 : decode cX2_tideAt 8 = .ok (.iconst 2, 1) := by decide +kernel
theorem dX2_tideAt_9 : decode cX2_tideAt 9 = .ok (.irem, 1) := by decide +kernel
theorem dX2_tideAt_10 : decode cX2_tideAt 10 = .ok (.ifCond .ne 7, 3) := by decide +kernel
theorem dX2_tideAt_13 : decode cX2_tideAt 13 = .ok (.iconst 1, 1) := by decide +kernel
theorem dX2_tideAt_14 : decode cX2_tideAt 14 = .ok (.goto 4, 3) := by decide +kernel
theorem dX2_tideAt_17 : decode cX2_tideAt 17 = .ok (.iconst (-1), 1) := by decide +kernel
theorem dX2_tideAt_18 : decode cX2_tideAt 18 = .ok (.ireturn, 1) := by decide +kernel
theorem dX3_init_0 : decode cX3_init 0 = .ok (.aload_n 0, 1) := by decide +kernel
theorem dX3_init_1 : decode cX3_init 1 = .ok (.invokespecial 3, 3) := by decide +kernel
theorem dX3_init_4 : decode cX3_init 4 = .ok (.aload_n 0, 1) := by decide +kernel
theorem dX3_init_5 : decode cX3_init 5 = .ok (.bipush 40, 2) := by decide +kernel
theorem dX3_init_7 : decode cX3_init 7 = .ok (.newarray .int, 2) := by decide +kernel
theorem dX3_init_9 : decode cX3_init 9 = .ok (.putfield 9, 3) := by decide +kernel
theorem dX3_init_12 : decode cX3_init 12 = .ok (.aload_n 0, 1) := by decide +kernel
theorem dX3_init_13 : decode cX3_init 13 = .ok (.bipush (-4), 2) := by decide +kernel
theorem dX3_init_15 : decode cX3_init 15 = .ok (.putfield 15, 3) := by decide +kernel
theorem dX3_init_18 : decode cX3_init 18 = .ok (.return_, 1) := by decide +kernel
theorem dX3_renew_0 : decode cX3_renew 0 = .ok (.aload_n 0, 1) := by decide +kernel
theorem dX3_renew_1 : decode cX3_renew 1 = .ok (.iload_n 1, 1) := by decide +kernel
theorem dX3_renew_2 : decode cX3_renew 2 = .ok (.putfield 15, 3) := by decide +kernel
theorem dX3_renew_5 : decode cX3_renew 5 = .ok (.aload_n 0, 1) := by decide +kernel
theorem dX3_renew_6 : decode cX3_renew 6 = .ok (.iload_n 2, 1) := by decide +kernel
theorem dX3_renew_7 : decode cX3_renew 7 = .ok (.putfield 19, 3) := by decide +kernel
theorem dX3_renew_10 : decode cX3_renew 10 = .ok (.iconst 0, 1) := by decide +kernel
theorem dX3_renew_11 : decode cX3_renew 11 = .ok (.istore_n 3, 1) := by decide +kernel
theorem dX3_renew_12 : decode cX3_renew 12 = .ok (.iload_n 3, 1) := by decide +kernel
theorem dX3_renew_13 : decode cX3_renew 13 = .ok (.bipush 40, 2) := by decide +kernel
theorem dX3_renew_15 : decode cX3_renew 15 = .ok (.if_icmp .ge 16, 3) := by decide +kernel
theorem dX3_renew_18 : decode cX3_renew 18 = .ok (.aload_n 0, 1) := by decide +kernel
theorem dX3_renew_19 : decode cX3_renew 19 = .ok (.getfield 9, 3) := by decide +kernel
theorem dX3_renew_22 : decode cX3_renew 22 = .ok (.iload_n 3, 1) := by decide +kernel
theorem dX3_renew_23 : decode cX3_renew 23 = .ok (.iconst 0, 1) := by decide +kernel
theorem dX3_renew_24 : decode cX3_renew 24 = .ok (.iastore, 1) := by decide +kernel
theorem dX3_renew_25 : decode cX3_renew 25 = .ok (.iinc 3 1, 3) := by decide +kernel
theorem dX3_renew_28 : decode cX3_renew 28 = .ok (.goto (-16), 3) := by decide +kernel
theorem dX3_renew_31 : decode cX3_renew 31 = .ok (.return_, 1) := by decide +kernel
theorem dX3_faultOf_0 : decode cX3_faultOf 0 = .ok (.aload_n 0, 1) := by decide +kernel
theorem dX3_faultOf_1 : decode cX3_faultOf 1 = .ok (.getfield 15, 3) := by decide +kernel
theorem dX3_faultOf_4 : decode cX3_faultOf 4 = .ok (.bipush (-4), 2) := by decide +kernel
theorem dX3_faultOf_6 : decode cX3_faultOf 6 = .ok (.if_icmp .ne 5, 3) := by decide +kernel
theorem dX3_faultOf_9 : decode cX3_faultOf 9 = .ok (.iconst 1, 1) := by decide +kernel
theorem dX3_faultOf_10 : decode cX3_faultOf 10 = .ok (.ireturn, 1) := by decide +kernel
theorem dX3_faultOf_11 : decode cX3_faultOf 11 = .ok (.aload_n 0, 1) := by decide +kernel
theorem dX3_faultOf_12 : decode cX3_faultOf 12 = .ok (.getfield 15, 3) := by decide +kernel
theorem dX3_faultOf_15 : decode cX3_faultOf 15 = .ok (.iload_n 1, 1) := by decide +kernel
theorem dX3_faultOf_16 : decode cX3_faultOf 16 = .ok (.if_icmp .eq 5, 3) := by decide +kernel
theorem dX3_faultOf_19 : decode cX3_faultOf 19 = .ok (.iconst 3, 1) := by decide +kernel
theorem dX3_faultOf_20 : decode cX3_faultOf 20 = .ok (.ireturn, 1) := by decide +kernel
theorem dX3_faultOf_21 : decode cX3_faultOf 21 = .ok (.iload_n 2, 1) := by decide +kernel
theorem dX3_faultOf_22 : decode cX3_faultOf 22 = .ok (.ifCond .lt 13, 3) := by decide +kernel
theorem dX3_faultOf_25 : decode cX3_faultOf 25 = .ok (.iload_n 2, 1) := by decide +kernel
theorem dX3_faultOf_26 : decode cX3_faultOf 26 = .ok (.aload_n 0, 1) := by decide +kernel
theorem dX3_faultOf_27 : decode cX3_faultOf 27 = .ok (.getfield 19, 3) := by decide +kernel
theorem dX3_faultOf_30 : decode cX3_faultOf 30 = .ok (.iload_n 3, 1) := by decide +kernel
theorem dX3_faultOf_31 : decode cX3_faultOf 31 = .ok (.isub, 1) := by decide +kernel
theorem dX3_faultOf_32 : decode cX3_faultOf 32 = .ok (.if_icmp .le 7, 3) := by decide +kernel
theorem dX3_faultOf_35 : decode cX3_faultOf 35 = .ok (.iconst 2, 1) := by decide +kernel
theorem dX3_faultOf_36 : decode cX3_faultOf 36 = .ok (.goto 4, 3) := by decide +kernel
theorem dX3_faultOf_39 : decode cX3_faultOf 39 = .ok (.iconst 0, 1) := by decide +kernel
theorem dX3_faultOf_40 : decode cX3_faultOf 40 = .ok (.ireturn, 1) := by decide +kernel
theorem dX3_put_0 : decode cX3_put 0 = .ok (.aload_n 0, 1) := by decide +kernel
theorem dX3_put_1 : decode cX3_put 1 = .ok (.getfield 15, 3) := by decide +kernel
theorem dX3_put_4 : decode cX3_put 4 = .ok (.lookupswitch 50 #[(0, 28), (1, 39)], 28) := by decide +kernel
theorem dX3_put_32 : decode cX3_put 32 = .ok (.aload_n 0, 1) := by decide +kernel
theorem dX3_put_33 : decode cX3_put 33 = .ok (.getfield 9, 3) := by decide +kernel
theorem dX3_put_36 : decode cX3_put 36 = .ok (.iload_n 1, 1) := by decide +kernel
theorem dX3_put_37 : decode cX3_put 37 = .ok (.iload_n 2, 1) := by decide +kernel
theorem dX3_put_38 : decode cX3_put 38 = .ok (.i2b, 1) := by decide +kernel
theorem dX3_put_39 : decode cX3_put 39 = .ok (.iastore, 1) := by decide +kernel
theorem dX3_put_40 : decode cX3_put 40 = .ok (.goto 21, 3) := by decide +kernel
theorem dX3_put_43 : decode cX3_put 43 = .ok (.aload_n 0, 1) := by decide +kernel
theorem dX3_put_44 : decode cX3_put 44 = .ok (.getfield 9, 3) := by decide +kernel
theorem dX3_put_47 : decode cX3_put 47 = .ok (.iload_n 1, 1) := by decide +kernel
theorem dX3_put_48 : decode cX3_put 48 = .ok (.iload_n 2, 1) := by decide +kernel
theorem dX3_put_49 : decode cX3_put 49 = .ok (.i2s, 1) := by decide +kernel
theorem dX3_put_50 : decode cX3_put 50 = .ok (.iastore, 1) := by decide +kernel
theorem dX3_put_51 : decode cX3_put 51 = .ok (.goto 10, 3) := by decide +kernel
theorem dX3_put_54 : decode cX3_put 54 = .ok (.aload_n 0, 1) := by decide +kernel
theorem dX3_put_55 : decode cX3_put 55 = .ok (.getfield 9, 3) := by decide +kernel
theorem dX3_put_58 : decode cX3_put 58 = .ok (.iload_n 1, 1) := by decide +kernel
theorem dX3_put_59 : decode cX3_put 59 = .ok (.iload_n 2, 1) := by decide +kernel
theorem dX3_put_60 : decode cX3_put 60 = .ok (.iastore, 1) := by decide +kernel
theorem dX3_put_61 : decode cX3_put 61 = .ok (.return_, 1) := by decide +kernel
theorem dX4_init_0 : decode cX4_init 0 = .ok (.aload_n 0, 1) := by decide +kernel
theorem dX4_init_1 : decode cX4_init 1 = .ok (.invokespecial 3, 3) := by decide +kernel
theorem dX4_init_4 : decode cX4_init 4 = .ok (.aload_n 0, 1) := by decide +kernel
theorem dX4_init_5 : decode cX4_init 5 = .ok (.sipush 160, 3) := by decide +kernel
theorem dX4_init_8 : decode cX4_init 8 = .ok (.newarray .int, 2) := by decide +kernel
theorem dX4_init_10 : decode cX4_init 10 = .ok (.putfield 9, 3) := by decide +kernel
theorem dX4_init_13 : decode cX4_init 13 = .ok (.return_, 1) := by decide +kernel
theorem dX4_add_0 : decode cX4_add 0 = .ok (.aload_n 0, 1) := by decide +kernel
theorem dX4_add_1 : decode cX4_add 1 = .ok (.getfield 15, 3) := by decide +kernel
theorem dX4_add_4 : decode cX4_add 4 = .ok (.sipush 160, 3) := by decide +kernel
theorem dX4_add_7 : decode cX4_add 7 = .ok (.if_icmp .lt 5, 3) := by decide +kernel
theorem dX4_add_10 : decode cX4_add 10 = .ok (.iconst 0, 1) := by decide +kernel
theorem dX4_add_11 : decode cX4_add 11 = .ok (.ireturn, 1) := by decide +kernel
theorem dX4_add_12 : decode cX4_add 12 = .ok (.aload_n 0, 1) := by decide +kernel
theorem dX4_add_13 : decode cX4_add 13 = .ok (.getfield 9, 3) := by decide +kernel
theorem dX4_add_16 : decode cX4_add 16 = .ok (.aload_n 0, 1) := by decide +kernel
theorem dX4_add_17 : decode cX4_add 17 = .ok (.getfield 15, 3) := by decide +kernel
theorem dX4_add_20 : decode cX4_add 20 = .ok (.iload_n 1, 1) := by decide +kernel
theorem dX4_add_21 : decode cX4_add 21 = .ok (.iastore, 1) := by decide +kernel
theorem dX4_add_22 : decode cX4_add 22 = .ok (.aload_n 0, 1) := by decide +kernel
theorem dX4_add_23 : decode cX4_add 23 = .ok (.dup, 1) := by decide +kernel
theorem dX4_add_24 : decode cX4_add 24 = .ok (.getfield 15, 3) := by decide +kernel
theorem dX4_add_27 : decode cX4_add 27 = .ok (.iconst 1, 1) := by decide +kernel
theorem dX4_add_28 : decode cX4_add 28 = .ok (.iadd, 1) := by decide +kernel
theorem dX4_add_29 : decode cX4_add 29 = .ok (.putfield 15, 3) := by decide +kernel
theorem dX4_add_32 : decode cX4_add 32 = .ok (.iconst 1, 1) := by decide +kernel
theorem dX4_add_33 : decode cX4_add 33 = .ok (.ireturn, 1) := by decide +kernel
theorem dX4_rewind_0 : decode cX4_rewind 0 = .ok (.aload_n 0, 1) := by decide +kernel
theorem dX4_rewind_1 : decode cX4_rewind 1 = .ok (.iconst 0, 1) := by decide +kernel
theorem dX4_rewind_2 : decode cX4_rewind 2 = .ok (.putfield 19, 3) := by decide +kernel
theorem dX4_rewind_5 : decode cX4_rewind 5 = .ok (.return_, 1) := by decide +kernel
theorem dX4_take_0 : decode cX4_take 0 = .ok (.aload_n 0, 1) := by decide +kernel
theorem dX4_take_1 : decode cX4_take 1 = .ok (.getfield 19, 3) := by decide +kernel
theorem dX4_take_4 : decode cX4_take 4 = .ok (.aload_n 0, 1) := by decide +kernel
theorem dX4_take_5 : decode cX4_take 5 = .ok (.getfield 15, 3) := by decide +kernel
theorem dX4_take_8 : decode cX4_take 8 = .ok (.if_icmp .ge 30, 3) := by decide +kernel
theorem dX4_take_11 : decode cX4_take 11 = .ok (.aload_n 0, 1) := by decide +kernel
theorem dX4_take_12 : decode cX4_take 12 = .ok (.getfield 9, 3) := by decide +kernel
theorem dX4_take_15 : decode cX4_take 15 = .ok (.aload_n 0, 1) := by decide +kernel
theorem dX4_take_16 : decode cX4_take 16 = .ok (.getfield 19, 3) := by decide +kernel
theorem dX4_take_19 : decode cX4_take 19 = .ok (.iaload, 1) := by decide +kernel
theorem dX4_take_20 : decode cX4_take 20 = .ok (.bipush 32, 2) := by decide +kernel
theorem dX4_take_22 : decode cX4_take 22 = .ok (.if_icmp .ne 16, 3) := by decide +kernel
theorem dX4_take_25 : decode cX4_take 25 = .ok (.aload_n 0, 1) := by decide +kernel
theorem dX4_take_26 : decode cX4_take 26 = .ok (.dup, 1) := by decide +kernel
theorem dX4_take_27 : decode cX4_take 27 = .ok (.getfield 19, 3) := by decide +kernel
theorem dX4_take_30 : decode cX4_take 30 = .ok (.iconst 1, 1) := by decide +kernel
theorem dX4_take_31 : decode cX4_take 31 = .ok (.iadd, 1) := by decide +kernel
theorem dX4_take_32 : decode cX4_take 32 = .ok (.putfield 19, 3) := by decide +kernel
theorem dX4_take_35 : decode cX4_take 35 = .ok (.goto (-35), 3) := by decide +kernel
theorem dX4_take_38 : decode cX4_take 38 = .ok (.aload_n 0, 1) := by decide +kernel
theorem dX4_take_39 : decode cX4_take 39 = .ok (.aload_n 0, 1) := by decide +kernel
theorem dX4_take_40 : decode cX4_take 40 = .ok (.getfield 19, 3) := by decide +kernel
theorem dX4_take_43 : decode cX4_take 43 = .ok (.putfield 22, 3) := by decide +kernel
theorem dX4_take_46 : decode cX4_take 46 = .ok (.aload_n 0, 1) := by decide +kernel
theorem dX4_take_47 : decode cX4_take 47 = .ok (.iconst 0, 1) := by decide +kernel
theorem dX4_take_48 : decode cX4_take 48 = .ok (.putfield 25, 3) := by decide +kernel
theorem dX4_take_51 : decode cX4_take 51 = .ok (.aload_n 0, 1) := by decide +kernel
theorem dX4_take_52 : decode cX4_take 52 = .ok (.aload_n 0, 1) := by decide +kernel
theorem dX4_take_53 : decode cX4_take 53 = .ok (.getfield 19, 3) := by decide +kernel
theorem dX4_take_56 : decode cX4_take 56 = .ok (.aload_n 0, 1) := by decide +kernel
theorem dX4_take_57 : decode cX4_take 57 = .ok (.getfield 15, 3) := by decide +kernel
theorem dX4_take_60 : decode cX4_take 60 = .ok (.if_icmp .ge 18, 3) := by decide +kernel
theorem dX4_take_63 : decode cX4_take 63 = .ok (.aload_n 0, 1) := by decide +kernel
theorem dX4_take_64 : decode cX4_take 64 = .ok (.getfield 9, 3) := by decide +kernel
theorem dX4_take_67 : decode cX4_take 67 = .ok (.aload_n 0, 1) := by decide +kernel
theorem dX4_take_68 : decode cX4_take 68 = .ok (.getfield 19, 3) := by decide +kernel
theorem dX4_take_71 : decode cX4_take 71 = .ok (.iaload, 1) := by decide +kernel
theorem dX4_take_72 : decode cX4_take 72 = .ok (.invokestatic 28, 3) := by decide +kernel
theorem dX4_take_75 : decode cX4_take 75 = .ok (.goto 4, 3) := by decide +kernel
theorem dX4_take_78 : decode cX4_take 78 = .ok (.iconst 0, 1) := by decide +kernel
theorem dX4_take_79 : decode cX4_take 79 = .ok (.putfield 32, 3) := by decide +kernel
theorem dX4_take_82 : decode cX4_take 82 = .ok (.aload_n 0, 1) := by decide +kernel
theorem dX4_take_83 : decode cX4_take 83 = .ok (.getfield 32, 3) := by decide +kernel
theorem dX4_take_86 : decode cX4_take 86 = .ok (.ifCond .ne 4, 3) := by decide +kernel
theorem dX4_take_89 : decode cX4_take 89 = .ok (.return_, 1) := by decide +kernel
theorem dX4_take_90 : decode cX4_take 90 = .ok (.aload_n 0, 1) := by decide +kernel
theorem dX4_take_91 : decode cX4_take 91 = .ok (.dup, 1) := by decide +kernel
theorem dX4_take_92 : decode cX4_take 92 = .ok (.getfield 19, 3) := by decide +kernel
theorem dX4_take_95 : decode cX4_take 95 = .ok (.iconst 1, 1) := by decide +kernel
theorem dX4_take_96 : decode cX4_take 96 = .ok (.iadd, 1) := by decide +kernel
theorem dX4_take_97 : decode cX4_take 97 = .ok (.putfield 19, 3) := by decide +kernel
theorem dX4_take_100 : decode cX4_take 100 = .ok (.aload_n 0, 1) := by decide +kernel
theorem dX4_take_101 : decode cX4_take 101 = .ok (.getfield 32, 3) := by decide +kernel
theorem dX4_take_104 : decode cX4_take 104 = .ok (.iconst 1, 1) := by decide +kernel
theorem dX4_take_105 : decode cX4_take 105 = .ok (.if_icmp .eq 11, 3) := by decide +kernel
theorem dX4_take_108 : decode cX4_take 108 = .ok (.aload_n 0, 1) := by decide +kernel
theorem dX4_take_109 : decode cX4_take 109 = .ok (.getfield 32, 3) := by decide +kernel
theorem dX4_take_112 : decode cX4_take 112 = .ok (.iconst 2, 1) := by decide +kernel
theorem dX4_take_113 : decode cX4_take 113 = .ok (.if_icmp .ne 7, 3) := by decide +kernel
theorem dX4_take_116 : decode cX4_take 116 = .ok (.iconst 1, 1) := by decide +kernel
theorem dX4_take_117 : decode cX4_take 117 = .ok (.goto 4, 3) := by decide +kernel
theorem dX4_take_120 : decode cX4_take 120 = .ok (.iconst 0, 1) := by decide +kernel
theorem dX4_take_121 : decode cX4_take 121 = .ok (.istore_n 1, 1) := by decide +kernel
theorem dX4_take_122 : decode cX4_take 122 = .ok (.iload_n 1, 1) := by decide +kernel
theorem dX4_take_123 : decode cX4_take 123 = .ok (.ifCond .eq 46, 3) := by decide +kernel
theorem dX4_take_126 : decode cX4_take 126 = .ok (.aload_n 0, 1) := by decide +kernel
theorem dX4_take_127 : decode cX4_take 127 = .ok (.getfield 19, 3) := by decide +kernel
theorem dX4_take_130 : decode cX4_take 130 = .ok (.aload_n 0, 1) := by decide +kernel
theorem dX4_take_131 : decode cX4_take 131 = .ok (.getfield 15, 3) := by decide +kernel
theorem dX4_take_134 : decode cX4_take 134 = .ok (.if_icmp .ge 35, 3) := by decide +kernel
theorem dX4_take_137 : decode cX4_take 137 = .ok (.aload_n 0, 1) := by decide +kernel
theorem dX4_take_138 : decode cX4_take 138 = .ok (.getfield 9, 3) := by decide +kernel
theorem dX4_take_141 : decode cX4_take 141 = .ok (.aload_n 0, 1) := by decide +kernel
theorem dX4_take_142 : decode cX4_take 142 = .ok (.getfield 19, 3) := by decide +kernel
theorem dX4_take_145 : decode cX4_take 145 = .ok (.iaload, 1) := by decide +kernel
theorem dX4_take_146 : decode cX4_take 146 = .ok (.invokestatic 28, 3) := by decide +kernel
theorem dX4_take_149 : decode cX4_take 149 = .ok (.aload_n 0, 1) := by decide +kernel
theorem dX4_take_150 : decode cX4_take 150 = .ok (.getfield 32, 3) := by decide +kernel
theorem dX4_take_153 : decode cX4_take 153 = .ok (.if_icmp .ne 16, 3) := by decide +kernel
theorem dX4_take_156 : decode cX4_take 156 = .ok (.aload_n 0, 1) := by decide +kernel
theorem dX4_take_157 : decode cX4_take 157 = .ok (.dup, 1) := by decide +kernel
theorem dX4_take_158 : decode cX4_take 158 = .ok (.getfield 19, 3) := by decide +kernel
theorem dX4_take_161 : decode cX4_take 161 = .ok (.iconst 1, 1) := by decide +kernel
theorem dX4_take_162 : decode cX4_take 162 = .ok (.iadd, 1) := by decide +kernel
theorem dX4_take_163 : decode cX4_take 163 = .ok (.putfield 19, 3) := by decide +kernel
theorem dX4_take_166 : decode cX4_take 166 = .ok (.goto (-44), 3) := by decide +kernel
theorem dX4_take_169 : decode cX4_take 169 = .ok (.aload_n 0, 1) := by decide +kernel
theorem dX4_take_170 : decode cX4_take 170 = .ok (.getfield 32, 3) := by decide +kernel
theorem dX4_take_173 : decode cX4_take 173 = .ok (.iconst 2, 1) := by decide +kernel
theorem dX4_take_174 : decode cX4_take 174 = .ok (.if_icmp .ne 7, 3) := by decide +kernel
theorem dX4_take_177 : decode cX4_take 177 = .ok (.aload_n 0, 1) := by decide +kernel
theorem dX4_take_178 : decode cX4_take 178 = .ok (.invokevirtual 35, 3) := by decide +kernel
theorem dX4_take_181 : decode cX4_take 181 = .ok (.return_, 1) := by decide +kernel
theorem dX4_weighNumber_0 : decode cX4_weighNumber 0 = .ok (.aload_n 0, 1) := by decide +kernel
theorem dX4_weighNumber_1 : decode cX4_weighNumber 1 = .ok (.getfield 19, 3) := by decide +kernel
theorem dX4_weighNumber_4 : decode cX4_weighNumber 4 = .ok (.aload_n 0, 1) := by decide +kernel
theorem dX4_weighNumber_5 : decode cX4_weighNumber 5 = .ok (.getfield 22, 3) := by decide +kernel
theorem dX4_weighNumber_8 : decode cX4_weighNumber 8 = .ok (.isub, 1) := by decide +kernel
theorem dX4_weighNumber_9 : decode cX4_weighNumber 9 = .ok (.iconst 2, 1) := by decide +kernel
theorem dX4_weighNumber_10 : decode cX4_weighNumber 10 = .ok (.if_icmp .le 9, 3) := by decide +kernel
theorem dX4_weighNumber_13 : decode cX4_weighNumber 13 = .ok (.aload_n 0, 1) := by decide +kernel
theorem dX4_weighNumber_14 : decode cX4_weighNumber 14 = .ok (.iconst 4, 1) := by decide +kernel
theorem dX4_weighNumber_15 : decode cX4_weighNumber 15 = .ok (.putfield 32, 3) := by decide +kernel
theorem dX4_weighNumber_18 : decode cX4_weighNumber 18 = .ok (.return_, 1) := by decide +kernel
theorem dX4_weighNumber_19 : decode cX4_weighNumber 19 = .ok (.aload_n 0, 1) := by decide +kernel
theorem dX4_weighNumber_20 : decode cX4_weighNumber 20 = .ok (.getfield 22, 3) := by decide +kernel
theorem dX4_weighNumber_23 : decode cX4_weighNumber 23 = .ok (.istore_n 1, 1) := by decide +kernel
theorem dX4_weighNumber_24 : decode cX4_weighNumber 24 = .ok (.iload_n 1, 1) := by decide +kernel
theorem dX4_weighNumber_25 : decode cX4_weighNumber 25 = .ok (.aload_n 0, 1) := by decide +kernel
theorem dX4_weighNumber_26 : decode cX4_weighNumber 26 = .ok (.getfield 19, 3) := by decide +kernel
theorem dX4_weighNumber_29 : decode cX4_weighNumber 29 = .ok (.if_icmp .ge 30, 3) := by decide +kernel
theorem dX4_weighNumber_32 : decode cX4_weighNumber 32 = .ok (.aload_n 0, 1) := by decide +kernel
theorem dX4_weighNumber_33 : decode cX4_weighNumber 33 = .ok (.bipush 10, 2) := by decide +kernel
theorem dX4_weighNumber_35 : decode cX4_weighNumber 35 = .ok (.aload_n 0, 1) := by decide +kernel
theorem dX4_weighNumber_36 : decode cX4_weighNumber 36 = .ok (.getfield 25, 3) := by decide +kernel
theorem dX4_weighNumber_39 : decode cX4_weighNumber 39 = .ok (.imul, 1) := by decide +kernel
theorem dX4_weighNumber_40 : decode cX4_weighNumber 40 = .ok (.aload_n 0, 1) := by decide +kernel
theorem dX4_weighNumber_41 : decode cX4_weighNumber 41 = .ok (.getfield 9, 3) := by decide +kernel
theorem dX4_weighNumber_44 : decode cX4_weighNumber 44 = .ok (.iload_n 1, 1) := by decide +kernel
theorem dX4_weighNumber_45 : decode cX4_weighNumber 45 = .ok (.iaload, 1) := by decide +kernel
theorem dX4_weighNumber_46 : decode cX4_weighNumber 46 = .ok (.iadd, 1) := by decide +kernel
theorem dX4_weighNumber_47 : decode cX4_weighNumber 47 = .ok (.bipush 48, 2) := by decide +kernel
theorem dX4_weighNumber_49 : decode cX4_weighNumber 49 = .ok (.isub, 1) := by decide +kernel
theorem dX4_weighNumber_50 : decode cX4_weighNumber 50 = .ok (.putfield 25, 3) := by decide +kernel
theorem dX4_weighNumber_53 : decode cX4_weighNumber 53 = .ok (.iinc 1 1, 3) := by decide +kernel
theorem dX4_weighNumber_56 : decode cX4_weighNumber 56 = .ok (.goto (-32), 3) := by decide +kernel
theorem dX4_weighNumber_59 : decode cX4_weighNumber 59 = .ok (.return_, 1) := by decide +kernel
theorem dX4_isWord_0 : decode cX4_isWord 0 = .ok (.aload_n 0, 1) := by decide +kernel
theorem dX4_isWord_1 : decode cX4_isWord 1 = .ok (.getfield 32, 3) := by decide +kernel
theorem dX4_isWord_4 : decode cX4_isWord 4 = .ok (.iconst 1, 1) := by decide +kernel
theorem dX4_isWord_5 : decode cX4_isWord 5 = .ok (.if_icmp .ne 19, 3) := by decide +kernel
theorem dX4_isWord_8 : decode cX4_isWord 8 = .ok (.aload_n 0, 1) := by decide +kernel
theorem dX4_isWord_9 : decode cX4_isWord 9 = .ok (.getfield 19, 3) := by decide +kernel
theorem dX4_isWord_12 : decode cX4_isWord 12 = .ok (.aload_n 0, 1) := by decide +kernel
theorem dX4_isWord_13 : decode cX4_isWord 13 = .ok (.getfield 22, 3) := by decide +kernel
theorem dX4_isWord_16 : decode cX4_isWord 16 = .ok (.isub, 1) := by decide +kernel
theorem dX4_isWord_17 : decode cX4_isWord 17 = .ok (.aload_n 1, 1) := by decide +kernel
theorem dX4_isWord_18 : decode cX4_isWord 18 = .ok (.invokevirtual 38, 3) := by decide +kernel
theorem dX4_isWord_21 : decode cX4_isWord 21 = .ok (.if_icmp .eq 5, 3) := by decide +kernel
theorem dX4_isWord_24 : decode cX4_isWord 24 = .ok (.iconst 0, 1) := by decide +kernel
theorem dX4_isWord_25 : decode cX4_isWord 25 = .ok (.ireturn, 1) := by decide +kernel
theorem dX4_isWord_26 : decode cX4_isWord 26 = .ok (.iconst 0, 1) := by decide +kernel
theorem dX4_isWord_27 : decode cX4_isWord 27 = .ok (.istore_n 2, 1) := by decide +kernel
theorem dX4_isWord_28 : decode cX4_isWord 28 = .ok (.iload_n 2, 1) := by decide +kernel
theorem dX4_isWord_29 : decode cX4_isWord 29 = .ok (.aload_n 1, 1) := by decide +kernel
theorem dX4_isWord_30 : decode cX4_isWord 30 = .ok (.invokevirtual 38, 3) := by decide +kernel
theorem dX4_isWord_33 : decode cX4_isWord 33 = .ok (.if_icmp .ge 30, 3) := by decide +kernel
theorem dX4_isWord_36 : decode cX4_isWord 36 = .ok (.aload_n 0, 1) := by decide +kernel
theorem dX4_isWord_37 : decode cX4_isWord 37 = .ok (.getfield 9, 3) := by decide +kernel
theorem dX4_isWord_40 : decode cX4_isWord 40 = .ok (.aload_n 0, 1) := by decide +kernel
theorem dX4_isWord_41 : decode cX4_isWord 41 = .ok (.getfield 22, 3) := by decide +kernel
theorem dX4_isWord_44 : decode cX4_isWord 44 = .ok (.iload_n 2, 1) := by decide +kernel
theorem dX4_isWord_45 : decode cX4_isWord 45 = .ok (.iadd, 1) := by decide +kernel
theorem dX4_isWord_46 : decode cX4_isWord 46 = .ok (.iaload, 1) := by decide +kernel
theorem dX4_isWord_47 : decode cX4_isWord 47 = .ok (.aload_n 1, 1) := by decide +kernel
theorem dX4_isWord_48 : decode cX4_isWord 48 = .ok (.iload_n 2, 1) := by decide +kernel
theorem dX4_isWord_49 : decode cX4_isWord 49 = .ok (.invokevirtual 43, 3) := by decide +kernel
theorem dX4_isWord_52 : decode cX4_isWord 52 = .ok (.if_icmp .eq 5, 3) := by decide +kernel
theorem dX4_isWord_55 : decode cX4_isWord 55 = .ok (.iconst 0, 1) := by decide +kernel
theorem dX4_isWord_56 : decode cX4_isWord 56 = .ok (.ireturn, 1) := by decide +kernel
theorem dX4_isWord_57 : decode cX4_isWord 57 = .ok (.iinc 2 1, 3) := by decide +kernel
theorem dX4_isWord_60 : decode cX4_isWord 60 = .ok (.goto (-32), 3) := by decide +kernel
theorem dX4_isWord_63 : decode cX4_isWord 63 = .ok (.iconst 1, 1) := by decide +kernel
theorem dX4_isWord_64 : decode cX4_isWord 64 = .ok (.ireturn, 1) := by decide +kernel
theorem dX4_sortOf_0 : decode cX4_sortOf 0 = .ok (.iload_n 0, 1) := by decide +kernel
theorem dX4_sortOf_1 : decode cX4_sortOf 1 = .ok (.bipush 97, 2) := by decide +kernel
theorem dX4_sortOf_3 : decode cX4_sortOf 3 = .ok (.if_icmp .lt 11, 3) := by decide +kernel
theorem dX4_sortOf_6 : decode cX4_sortOf 6 = .ok (.iload_n 0, 1) := by decide +kernel
theorem dX4_sortOf_7 : decode cX4_sortOf 7 = .ok (.bipush 122, 2) := by decide +kernel
theorem dX4_sortOf_9 : decode cX4_sortOf 9 = .ok (.if_icmp .gt 5, 3) := by decide +kernel
theorem dX4_sortOf_12 : decode cX4_sortOf 12 = .ok (.iconst 1, 1) := by decide +kernel
theorem dX4_sortOf_13 : decode cX4_sortOf 13 = .ok (.ireturn, 1) := by decide +kernel
theorem dX4_sortOf_14 : decode cX4_sortOf 14 = .ok (.iload_n 0, 1) := by decide +kernel
theorem dX4_sortOf_15 : decode cX4_sortOf 15 = .ok (.bipush 48, 2) := by decide +kernel
theorem dX4_sortOf_17 : decode cX4_sortOf 17 = .ok (.if_icmp .lt 11, 3) := by decide +kernel
theorem dX4_sortOf_20 : decode cX4_sortOf 20 = .ok (.iload_n 0, 1) := by decide +kernel
theorem dX4_sortOf_21 : decode cX4_sortOf 21 = .ok (.bipush 57, 2) := by decide +kernel
theorem dX4_sortOf_23 : decode cX4_sortOf 23 = .ok (.if_icmp .gt 5, 3) := by decide +kernel
theorem dX4_sortOf_26 : decode cX4_sortOf 26 = .ok (.iconst 2, 1) := by decide +kernel
theorem dX4_sortOf_27 : decode cX4_sortOf 27 = .ok (.ireturn, 1) := by decide +kernel
theorem dX4_sortOf_28 : decode cX4_sortOf 28 = .ok (.iload_n 0, 1) := by decide +kernel
theorem dX4_sortOf_29 : decode cX4_sortOf 29 = .ok (.bipush 59, 2) := by decide +kernel
theorem dX4_sortOf_31 : decode cX4_sortOf 31 = .ok (.if_icmp .ne 7, 3) := by decide +kernel
theorem dX4_sortOf_34 : decode cX4_sortOf 34 = .ok (.iconst 3, 1) := by decide +kernel
theorem dX4_sortOf_35 : decode cX4_sortOf 35 = .ok (.goto 4, 3) := by decide +kernel
theorem dX4_sortOf_38 : decode cX4_sortOf 38 = .ok (.iconst 4, 1) := by decide +kernel
theorem dX4_sortOf_39 : decode cX4_sortOf 39 = .ok (.ireturn, 1) := by decide +kernel
theorem dJ6_bitCount_0f7a4_0 : decode cJ6_bitCount_0f7a4 0 = .ok (.iload_n 0, 1) := by decide +kernel
theorem dJ6_bitCount_0f7a4_1 : decode cJ6_bitCount_0f7a4 1 = .ok (.iload_n 0, 1) := by decide +kernel
theorem dJ6_bitCount_0f7a4_2 : decode cJ6_bitCount_0f7a4 2 = .ok (.iconst 1, 1) := by decide +kernel
theorem dJ6_bitCount_0f7a4_3 : decode cJ6_bitCount_0f7a4 3 = .ok (.iushr, 1) := by decide +kernel
theorem dJ6_bitCount_0f7a4_4 : decode cJ6_bitCount_0f7a4 4 = .ok (.ldc_w 265, 3) := by decide +kernel
theorem dJ6_bitCount_0f7a4_7 : decode cJ6_bitCount_0f7a4 7 = .ok (.iand, 1) := by decide +kernel
theorem dJ6_bitCount_0f7a4_8 : decode cJ6_bitCount_0f7a4 8 = .ok (.isub, 1) := by decide +kernel
theorem dJ6_bitCount_0f7a4_9 : decode cJ6_bitCount_0f7a4 9 = .ok (.istore_n 0, 1) := by decide +kernel
theorem dJ6_bitCount_0f7a4_10 : decode cJ6_bitCount_0f7a4 10 = .ok (.iload_n 0, 1) := by decide +kernel
theorem dJ6_bitCount_0f7a4_11 : decode cJ6_bitCount_0f7a4 11 = .ok (.ldc_w 266, 3) := by decide +kernel
theorem dJ6_bitCount_0f7a4_14 : decode cJ6_bitCount_0f7a4 14 = .ok (.iand, 1) := by decide +kernel
theorem dJ6_bitCount_0f7a4_15 : decode cJ6_bitCount_0f7a4 15 = .ok (.iload_n 0, 1) := by decide +kernel
theorem dJ6_bitCount_0f7a4_16 : decode cJ6_bitCount_0f7a4 16 = .ok (.iconst 2, 1) := by decide +kernel
theorem dJ6_bitCount_0f7a4_17 : decode cJ6_bitCount_0f7a4 17 = .ok (.iushr, 1) := by decide +kernel
theorem dJ6_bitCount_0f7a4_18 : decode cJ6_bitCount_0f7a4 18 = .ok (.ldc_w 266, 3) := by decide +kernel
theorem dJ6_bitCount_0f7a4_21 : decode cJ6_bitCount_0f7a4 21 = .ok (.iand, 1) := by decide +kernel
theorem dJ6_bitCount_0f7a4_22 : decode cJ6_bitCount_0f7a4 22 = .ok (.iadd, 1) := by decide +kernel
theorem dJ6_bitCount_0f7a4_23 : decode cJ6_bitCount_0f7a4 23 = .ok (.istore_n 0, 1) := by decide +kernel
theorem dJ6_bitCount_0f7a4_24 : decode cJ6_bitCount_0f7a4 24 = .ok (.iload_n 0, 1) := by decide +kernel
theorem dJ6_bitCount_0f7a4_25 : decode cJ6_bitCount_0f7a4 25 = .ok (.iload_n 0, 1) := by decide +kernel
theorem dJ6_bitCount_0f7a4_26 : decode cJ6_bitCount_0f7a4 26 = .ok (.iconst 4, 1) := by decide +kernel
theorem dJ6_bitCount_0f7a4_27 : decode cJ6_bitCount_0f7a4 27 = .ok (.iushr, 1) := by decide +kernel
theorem dJ6_bitCount_0f7a4_28 : decode cJ6_bitCount_0f7a4 28 = .ok (.iadd, 1) := by decide +kernel
theorem dJ6_bitCount_0f7a4_29 : decode cJ6_bitCount_0f7a4 29 = .ok (.ldc_w 267, 3) := by decide +kernel
theorem dJ6_bitCount_0f7a4_32 : decode cJ6_bitCount_0f7a4 32 = .ok (.iand, 1) := by decide +kernel
theorem dJ6_bitCount_0f7a4_33 : decode cJ6_bitCount_0f7a4 33 = .ok (.istore_n 0, 1) := by decide +kernel
theorem dJ6_bitCount_0f7a4_34 : decode cJ6_bitCount_0f7a4 34 = .ok (.iload_n 0, 1) := by decide +kernel
theorem dJ6_bitCount_0f7a4_35 : decode cJ6_bitCount_0f7a4 35 = .ok (.iload_n 0, 1) := by decide +kernel
theorem dJ6_bitCount_0f7a4_36 : decode cJ6_bitCount_0f7a4 36 = .ok (.bipush 8, 2) := by decide +kernel
theorem dJ6_bitCount_0f7a4_38 : decode cJ6_bitCount_0f7a4 38 = .ok (.iushr, 1) := by decide +kernel
theorem dJ6_bitCount_0f7a4_39 : decode cJ6_bitCount_0f7a4 39 = .ok (.iadd, 1) := by decide +kernel
theorem dJ6_bitCount_0f7a4_40 : decode cJ6_bitCount_0f7a4 40 = .ok (.istore_n 0, 1) := by decide +kernel
theorem dJ6_bitCount_0f7a4_41 : decode cJ6_bitCount_0f7a4 41 = .ok (.iload_n 0, 1) := by decide +kernel
theorem dJ6_bitCount_0f7a4_42 : decode cJ6_bitCount_0f7a4 42 = .ok (.iload_n 0, 1) := by decide +kernel
theorem dJ6_bitCount_0f7a4_43 : decode cJ6_bitCount_0f7a4 43 = .ok (.bipush 16, 2) := by decide +kernel
theorem dJ6_bitCount_0f7a4_45 : decode cJ6_bitCount_0f7a4 45 = .ok (.iushr, 1) := by decide +kernel
theorem dJ6_bitCount_0f7a4_46 : decode cJ6_bitCount_0f7a4 46 = .ok (.iadd, 1) := by decide +kernel
theorem dJ6_bitCount_0f7a4_47 : decode cJ6_bitCount_0f7a4 47 = .ok (.istore_n 0, 1) := by decide +kernel
theorem dJ6_bitCount_0f7a4_48 : decode cJ6_bitCount_0f7a4 48 = .ok (.iload_n 0, 1) := by decide +kernel
theorem dJ6_bitCount_0f7a4_49 : decode cJ6_bitCount_0f7a4 49 = .ok (.bipush 63, 2) := by decide +kernel
theorem dJ6_bitCount_0f7a4_51 : decode cJ6_bitCount_0f7a4 51 = .ok (.iand, 1) := by decide +kernel
theorem dJ6_bitCount_0f7a4_52 : decode cJ6_bitCount_0f7a4 52 = .ok (.ireturn, 1) := by decide +kernel
theorem dJ9_abs_0f7a4_0 : decode cJ9_abs_0f7a4 0 = .ok (.iload_n 0, 1) := by decide +kernel
theorem dJ9_abs_0f7a4_1 : decode cJ9_abs_0f7a4 1 = .ok (.ifCond .ge 8, 3) := by decide +kernel
theorem dJ9_abs_0f7a4_4 : decode cJ9_abs_0f7a4 4 = .ok (.iload_n 0, 1) := by decide +kernel
theorem dJ9_abs_0f7a4_5 : decode cJ9_abs_0f7a4 5 = .ok (.ineg, 1) := by decide +kernel
theorem dJ9_abs_0f7a4_6 : decode cJ9_abs_0f7a4 6 = .ok (.goto 4, 3) := by decide +kernel
theorem dJ9_abs_0f7a4_9 : decode cJ9_abs_0f7a4 9 = .ok (.iload_n 0, 1) := by decide +kernel
theorem dJ9_abs_0f7a4_10 : decode cJ9_abs_0f7a4 10 = .ok (.ireturn, 1) := by decide +kernel
theorem dJ9_max_7cf53_0 : decode cJ9_max_7cf53 0 = .ok (.iload_n 0, 1) := by decide +kernel
theorem dJ9_max_7cf53_1 : decode cJ9_max_7cf53 1 = .ok (.iload_n 1, 1) := by decide +kernel
theorem dJ9_max_7cf53_2 : decode cJ9_max_7cf53 2 = .ok (.if_icmp .lt 7, 3) := by decide +kernel
theorem dJ9_max_7cf53_5 : decode cJ9_max_7cf53 5 = .ok (.iload_n 0, 1) := by decide +kernel
theorem dJ9_max_7cf53_6 : decode cJ9_max_7cf53 6 = .ok (.goto 4, 3) := by decide +kernel
theorem dJ9_max_7cf53_9 : decode cJ9_max_7cf53 9 = .ok (.iload_n 1, 1) := by decide +kernel
theorem dJ9_max_7cf53_10 : decode cJ9_max_7cf53 10 = .ok (.ireturn, 1) := by decide +kernel
theorem dJ9_min_7cf53_0 : decode cJ9_min_7cf53 0 = .ok (.iload_n 0, 1) := by decide +kernel
theorem dJ9_min_7cf53_1 : decode cJ9_min_7cf53 1 = .ok (.iload_n 1, 1) := by decide +kernel
theorem dJ9_min_7cf53_2 : decode cJ9_min_7cf53 2 = .ok (.if_icmp .gt 7, 3) := by decide +kernel
theorem dJ9_min_7cf53_5 : decode cJ9_min_7cf53 5 = .ok (.iload_n 0, 1) := by decide +kernel
theorem dJ9_min_7cf53_6 : decode cJ9_min_7cf53 6 = .ok (.goto 4, 3) := by decide +kernel
theorem dJ9_min_7cf53_9 : decode cJ9_min_7cf53 9 = .ok (.iload_n 1, 1) := by decide +kernel
theorem dJ9_min_7cf53_10 : decode cJ9_min_7cf53 10 = .ok (.ireturn, 1) := by decide +kernel
theorem dJ0_length_8abf5_0 : decode cJ0_length_8abf5 0 = .ok (.aload_n 0, 1) := by decide +kernel
theorem dJ0_length_8abf5_1 : decode cJ0_length_8abf5 1 = .ok (.getfield 9, 3) := by decide +kernel
theorem dJ0_length_8abf5_4 : decode cJ0_length_8abf5 4 = .ok (.arraylength, 1) := by decide +kernel
theorem dJ0_length_8abf5_5 : decode cJ0_length_8abf5 5 = .ok (.aload_n 0, 1) := by decide +kernel
theorem dJ0_length_8abf5_6 : decode cJ0_length_8abf5 6 = .ok (.invokevirtual 335, 3) := by decide +kernel
theorem dJ0_length_8abf5_9 : decode cJ0_length_8abf5 9 = .ok (.ishr, 1) := by decide +kernel
theorem dJ0_length_8abf5_10 : decode cJ0_length_8abf5 10 = .ok (.ireturn, 1) := by decide +kernel
theorem dJ0_charAt_5068e_0 : decode cJ0_charAt_5068e 0 = .ok (.aload_n 0, 1) := by decide +kernel
theorem dJ0_charAt_5068e_1 : decode cJ0_charAt_5068e 1 = .ok (.invokevirtual 492, 3) := by decide +kernel
theorem dJ0_charAt_5068e_4 : decode cJ0_charAt_5068e 4 = .ok (.ifCond .eq 12, 3) := by decide +kernel
theorem dJ0_charAt_5068e_7 : decode cJ0_charAt_5068e 7 = .ok (.aload_n 0, 1) := by decide +kernel
theorem dJ0_charAt_5068e_8 : decode cJ0_charAt_5068e 8 = .ok (.getfield 9, 3) := by decide +kernel
theorem dJ0_charAt_5068e_11 : decode cJ0_charAt_5068e 11 = .ok (.iload_n 1, 1) := by decide +kernel
theorem dJ0_charAt_5068e_12 : decode cJ0_charAt_5068e 12 = .ok (.invokestatic 495, 3) := by decide +kernel
theorem dJ0_charAt_5068e_15 : decode cJ0_charAt_5068e 15 = .ok (.ireturn, 1) := by decide +kernel
theorem dJ0_charAt_5068e_16 : decode cJ0_charAt_5068e 16 = .ok (.aload_n 0, 1) := by decide +kernel
theorem dJ0_charAt_5068e_17 : decode cJ0_charAt_5068e 17 = .ok (.getfield 9, 3) := by decide +kernel
theorem dJ0_charAt_5068e_20 : decode cJ0_charAt_5068e 20 = .ok (.iload_n 1, 1) := by decide +kernel
theorem dJ0_charAt_5068e_21 : decode cJ0_charAt_5068e 21 = .ok (.invokestatic 498, 3) := by decide +kernel
theorem dJ0_charAt_5068e_24 : decode cJ0_charAt_5068e 24 = .ok (.ireturn, 1) := by decide +kernel
theorem dJ0_coder_7d493_0 : decode cJ0_coder_7d493 0 = .ok (.getstatic 38, 3) := by decide +kernel
theorem dJ0_coder_7d493_3 : decode cJ0_coder_7d493 3 = .ok (.ifCond .eq 10, 3) := by decide +kernel
theorem dJ0_coder_7d493_6 : decode cJ0_coder_7d493 6 = .ok (.aload_n 0, 1) := by decide +kernel
theorem dJ0_coder_7d493_7 : decode cJ0_coder_7d493 7 = .ok (.getfield 15, 3) := by decide +kernel
theorem dJ0_coder_7d493_10 : decode cJ0_coder_7d493 10 = .ok (.goto 4, 3) := by decide +kernel
theorem dJ0_coder_7d493_13 : decode cJ0_coder_7d493 13 = .ok (.iconst 1, 1) := by decide +kernel
theorem dJ0_coder_7d493_14 : decode cJ0_coder_7d493 14 = .ok (.ireturn, 1) := by decide +kernel
theorem dJ0_isLatin1_aae02_0 : decode cJ0_isLatin1_aae02 0 = .ok (.getstatic 38, 3) := by decide +kernel
theorem dJ0_isLatin1_aae02_3 : decode cJ0_isLatin1_aae02 3 = .ok (.ifCond .eq 14, 3) := by decide +kernel
theorem dJ0_isLatin1_aae02_6 : decode cJ0_isLatin1_aae02 6 = .ok (.aload_n 0, 1) := by decide +kernel
theorem dJ0_isLatin1_aae02_7 : decode cJ0_isLatin1_aae02 7 = .ok (.getfield 15, 3) := by decide +kernel
theorem dJ0_isLatin1_aae02_10 : decode cJ0_isLatin1_aae02 10 = .ok (.ifCond .ne 7, 3) := by decide +kernel
theorem dJ0_isLatin1_aae02_13 : decode cJ0_isLatin1_aae02 13 = .ok (.iconst 1, 1) := by decide +kernel
theorem dJ0_isLatin1_aae02_14 : decode cJ0_isLatin1_aae02 14 = .ok (.goto 4, 3) := by decide +kernel
theorem dJ0_isLatin1_aae02_17 : decode cJ0_isLatin1_aae02 17 = .ok (.iconst 0, 1) := by decide +kernel
theorem dJ0_isLatin1_aae02_18 : decode cJ0_isLatin1_aae02 18 = .ok (.ireturn, 1) := by decide +kernel
theorem dJ0_checkIndex_df160_0 : decode cJ0_checkIndex_df160 0 = .ok (.iload_n 0, 1) := by decide +kernel
theorem dJ0_checkIndex_df160_1 : decode cJ0_checkIndex_df160 1 = .ok (.iload_n 1, 1) := by decide +kernel
theorem dJ0_checkIndex_df160_2 : decode cJ0_checkIndex_df160 2 = .ok (.getstatic 1053, 3) := by decide +kernel
theorem dJ0_checkIndex_df160_5 : decode cJ0_checkIndex_df160 5 = .ok (.invokestatic 1059, 3) := by decide +kernel
theorem dJ0_checkIndex_df160_8 : decode cJ0_checkIndex_df160 8 = .ok (.pop, 1) := by decide +kernel
theorem dJ0_checkIndex_df160_9 : decode cJ0_checkIndex_df160 9 = .ok (.return_, 1) := by decide +kernel
theorem dJ1_charAt_3b067_0 : decode cJ1_charAt_3b067 0 = .ok (.iload_n 1, 1) := by decide +kernel
theorem dJ1_charAt_3b067_1 : decode cJ1_charAt_3b067 1 = .ok (.aload_n 0, 1) := by decide +kernel
theorem dJ1_charAt_3b067_2 : decode cJ1_charAt_3b067 2 = .ok (.arraylength, 1) := by decide +kernel
theorem dJ1_charAt_3b067_3 : decode cJ1_charAt_3b067 3 = .ok (.invokestatic 9, 3) := by decide +kernel
theorem dJ1_charAt_3b067_6 : decode cJ1_charAt_3b067 6 = .ok (.aload_n 0, 1) := by decide +kernel
theorem dJ1_charAt_3b067_7 : decode cJ1_charAt_3b067 7 = .ok (.iload_n 1, 1) := by decide +kernel
theorem dJ1_charAt_3b067_8 : decode cJ1_charAt_3b067 8 = .ok (.baload, 1) := by decide +kernel
theorem dJ1_charAt_3b067_9 : decode cJ1_charAt_3b067 9 = .ok (.sipush 255, 3) := by decide +kernel
theorem dJ1_charAt_3b067_12 : decode cJ1_charAt_3b067 12 = .ok (.iand, 1) := by decide +kernel
theorem dJ1_charAt_3b067_13 : decode cJ1_charAt_3b067 13 = .ok (.i2c, 1) := by decide +kernel
theorem dJ1_charAt_3b067_14 : decode cJ1_charAt_3b067 14 = .ok (.ireturn, 1) := by decide +kernel
theorem dJ2_getChar_3b067_0 : decode cJ2_getChar_3b067 0 = .ok (.getstatic 44, 3) := by decide +kernel
theorem dJ2_getChar_3b067_3 : decode cJ2_getChar_3b067 3 = .ok (.ifCond .ne 25, 3) := by decide +kernel
theorem dJ2_getChar_3b067_6 : decode cJ2_getChar_3b067 6 = .ok (.iload_n 1, 1) := by decide +kernel
theorem dJ2_getChar_3b067_7 : decode cJ2_getChar_3b067 7 = .ok (.ifCond .lt 11, 3) := by decide +kernel
theorem dJ2_getChar_3b067_10 : decode cJ2_getChar_3b067 10 = .ok (.iload_n 1, 1) := by decide +kernel
theorem dJ2_getChar_3b067_11 : decode cJ2_getChar_3b067 11 = .ok (.aload_n 0, 1) := by decide +kernel
theorem dJ2_getChar_3b067_12 : decode cJ2_getChar_3b067 12 = .ok (.invokestatic 48, 3) := by decide +kernel
theorem dJ2_getChar_3b067_15 : decode cJ2_getChar_3b067 15 = .ok (.if_icmp .lt 13, 3) := by decide +kernel
theorem dJ2_getChar_3b067_18 : decode cJ2_getChar_3b067 18 = .ok (.new 52, 3) := by decide +kernel
theorem dJ2_getChar_3b067_21 : decode cJ2_getChar_3b067 21 = .ok (.dup, 1) := by decide +kernel
theorem dJ2_getChar_3b067_22 : decode cJ2_getChar_3b067 22 = .ok (.ldc 54, 2) := by decide +kernel
theorem dJ2_getChar_3b067_24 : decode cJ2_getChar_3b067 24 = .ok (.invokespecial 56, 3) := by decide +kernel
theorem dJ2_getChar_3b067_27 : decode cJ2_getChar_3b067 27 = .ok (.athrow, 1) := by decide +kernel
theorem dJ2_getChar_3b067_28 : decode cJ2_getChar_3b067 28 = .ok (.iload_n 1, 1) := by decide +kernel
theorem dJ2_getChar_3b067_29 : decode cJ2_getChar_3b067 29 = .ok (.iconst 1, 1) := by decide +kernel
theorem dJ2_getChar_3b067_30 : decode cJ2_getChar_3b067 30 = .ok (.ishl, 1) := by decide +kernel
theorem dJ2_getChar_3b067_31 : decode cJ2_getChar_3b067 31 = .ok (.istore_n 1, 1) := by decide +kernel
theorem dJ2_getChar_3b067_32 : decode cJ2_getChar_3b067 32 = .ok (.aload_n 0, 1) := by decide +kernel
theorem dJ2_getChar_3b067_33 : decode cJ2_getChar_3b067 33 = .ok (.iload_n 1, 1) := by decide +kernel
theorem dJ2_getChar_3b067_34 : decode cJ2_getChar_3b067 34 = .ok (.iinc 1 1, 3) := by decide +kernel
theorem dJ2_getChar_3b067_37 : decode cJ2_getChar_3b067 37 = .ok (.baload, 1) := by decide +kernel
theorem dJ2_getChar_3b067_38 : decode cJ2_getChar_3b067 38 = .ok (.sipush 255, 3) := by decide +kernel
theorem dJ2_getChar_3b067_41 : decode cJ2_getChar_3b067 41 = .ok (.iand, 1) := by decide +kernel
theorem dJ2_getChar_3b067_42 : decode cJ2_getChar_3b067 42 = .ok (.getstatic 59, 3) := by decide +kernel
theorem dJ2_getChar_3b067_45 : decode cJ2_getChar_3b067 45 = .ok (.ishl, 1) := by decide +kernel
theorem dJ2_getChar_3b067_46 : decode cJ2_getChar_3b067 46 = .ok (.aload_n 0, 1) := by decide +kernel
theorem dJ2_getChar_3b067_47 : decode cJ2_getChar_3b067 47 = .ok (.iload_n 1, 1) := by decide +kernel
theorem dJ2_getChar_3b067_48 : decode cJ2_getChar_3b067 48 = .ok (.baload, 1) := by decide +kernel
theorem dJ2_getChar_3b067_49 : decode cJ2_getChar_3b067 49 = .ok (.sipush 255, 3) := by decide +kernel
theorem dJ2_getChar_3b067_52 : decode cJ2_getChar_3b067 52 = .ok (.iand, 1) := by decide +kernel
theorem dJ2_getChar_3b067_53 : decode cJ2_getChar_3b067 53 = .ok (.getstatic 63, 3) := by decide +kernel
theorem dJ2_getChar_3b067_56 : decode cJ2_getChar_3b067 56 = .ok (.ishl, 1) := by decide +kernel
theorem dJ2_getChar_3b067_57 : decode cJ2_getChar_3b067 57 = .ok (.ior, 1) := by decide +kernel
theorem dJ2_getChar_3b067_58 : decode cJ2_getChar_3b067 58 = .ok (.i2c, 1) := by decide +kernel
theorem dJ2_getChar_3b067_59 : decode cJ2_getChar_3b067 59 = .ok (.ireturn, 1) := by decide +kernel
theorem dJ2_length_9d52b_0 : decode cJ2_length_9d52b 0 = .ok (.aload_n 0, 1) := by decide +kernel
theorem dJ2_length_9d52b_1 : decode cJ2_length_9d52b 1 = .ok (.arraylength, 1) := by decide +kernel
theorem dJ2_length_9d52b_2 : decode cJ2_length_9d52b 2 = .ok (.iconst 1, 1) := by decide +kernel
theorem dJ2_length_9d52b_3 : decode cJ2_length_9d52b 3 = .ok (.ishr, 1) := by decide +kernel
theorem dJ2_length_9d52b_4 : decode cJ2_length_9d52b 4 = .ok (.ireturn, 1) := by decide +kernel
theorem dJ2_charAt_3b067_0 : decode cJ2_charAt_3b067 0 = .ok (.iload_n 1, 1) := by decide +kernel
theorem dJ2_charAt_3b067_1 : decode cJ2_charAt_3b067 1 = .ok (.aload_n 0, 1) := by decide +kernel
theorem dJ2_charAt_3b067_2 : decode cJ2_charAt_3b067 2 = .ok (.invokestatic 67, 3) := by decide +kernel
theorem dJ2_charAt_3b067_5 : decode cJ2_charAt_3b067 5 = .ok (.aload_n 0, 1) := by decide +kernel
theorem dJ2_charAt_3b067_6 : decode cJ2_charAt_3b067 6 = .ok (.iload_n 1, 1) := by decide +kernel
theorem dJ2_charAt_3b067_7 : decode cJ2_charAt_3b067 7 = .ok (.invokestatic 71, 3) := by decide +kernel
theorem dJ2_charAt_3b067_10 : decode cJ2_charAt_3b067 10 = .ok (.ireturn, 1) := by decide +kernel
theorem dJ2_checkIndex_2214a_0 : decode cJ2_checkIndex_2214a 0 = .ok (.iload_n 0, 1) := by decide +kernel
theorem dJ2_checkIndex_2214a_1 : decode cJ2_checkIndex_2214a 1 = .ok (.aload_n 1, 1) := by decide +kernel
theorem dJ2_checkIndex_2214a_2 : decode cJ2_checkIndex_2214a 2 = .ok (.invokestatic 48, 3) := by decide +kernel
theorem dJ2_checkIndex_2214a_5 : decode cJ2_checkIndex_2214a 5 = .ok (.invokestatic 414, 3) := by decide +kernel
theorem dJ2_checkIndex_2214a_8 : decode cJ2_checkIndex_2214a 8 = .ok (.return_, 1) := by decide +kernel
theorem dJ3_checkIndex_8e157_0 : decode cJ3_checkIndex_8e157 0 = .ok (.iload_n 0, 1) := by decide +kernel
theorem dJ3_checkIndex_8e157_1 : decode cJ3_checkIndex_8e157 1 = .ok (.ifCond .lt 8, 3) := by decide +kernel
theorem dJ3_checkIndex_8e157_4 : decode cJ3_checkIndex_8e157 4 = .ok (.iload_n 0, 1) := by decide +kernel
theorem dJ3_checkIndex_8e157_5 : decode cJ3_checkIndex_8e157 5 = .ok (.iload_n 1, 1) := by decide +kernel
theorem dJ3_checkIndex_8e157_6 : decode cJ3_checkIndex_8e157 6 = .ok (.if_icmp .lt 10, 3) := by decide +kernel
theorem dJ3_checkIndex_8e157_9 : decode cJ3_checkIndex_8e157 9 = .ok (.aload_n 2, 1) := by decide +kernel
theorem dJ3_checkIndex_8e157_10 : decode cJ3_checkIndex_8e157 10 = .ok (.iload_n 0, 1) := by decide +kernel
theorem dJ3_checkIndex_8e157_11 : decode cJ3_checkIndex_8e157 11 = .ok (.iload_n 1, 1) := by decide +kernel
theorem dJ3_checkIndex_8e157_12 : decode cJ3_checkIndex_8e157 12 = .ok (.invokestatic 95, 3) := by decide +kernel
theorem dJ3_checkIndex_8e157_15 : decode cJ3_checkIndex_8e157 15 = .ok (.athrow, 1) := by decide +kernel
theorem dJ3_checkIndex_8e157_16 : decode cJ3_checkIndex_8e157 16 = .ok (.iload_n 0, 1) := by decide +kernel
theorem dJ3_checkIndex_8e157_17 : decode cJ3_checkIndex_8e157 17 = .ok (.ireturn, 1) := by decide +kernel
end
section
theorem dX5_init_0 : decode cX5_init 0 = .ok (.aload_n 0, 1) := by decide +kernel
theorem dX5_init_1 : decode cX5_init 1 = .ok (.invokespecial 1, 3) := by decide +kernel
theorem dX5_init_4 : decode cX5_init 4 = .ok (.aload_n 0, 1) := by decide +kernel
theorem dX5_init_5 : decode cX5_init 5 = .ok (.new 7, 3) := by decide +kernel
theorem dX5_init_8 : decode cX5_init 8 = .ok (.dup, 1) := by decide +kernel
theorem dX5_init_9 : decode cX5_init 9 = .ok (.invokespecial 9, 3) := by decide +kernel
theorem dX5_init_12 : decode cX5_init 12 = .ok (.putfield 10, 3) := by decide +kernel
theorem dX5_init_15 : decode cX5_init 15 = .ok (.aload_n 0, 1) := by decide +kernel
theorem dX5_init_16 : decode cX5_init 16 = .ok (.new 16, 3) := by decide +kernel
theorem dX5_init_19 : decode cX5_init 19 = .ok (.dup, 1) := by decide +kernel
theorem dX5_init_20 : decode cX5_init 20 = .ok (.aload_n 0, 1) := by decide +kernel
theorem dX5_init_21 : decode cX5_init 21 = .ok (.getfield 10, 3) := by decide +kernel
theorem dX5_init_24 : decode cX5_init 24 = .ok (.invokespecial 18, 3) := by decide +kernel
theorem dX5_init_27 : decode cX5_init 27 = .ok (.putfield 21, 3) := by decide +kernel
theorem dX5_init_30 : decode cX5_init 30 = .ok (.aload_n 0, 1) := by decide +kernel
theorem dX5_init_31 : decode cX5_init 31 = .ok (.new 25, 3) := by decide +kernel
theorem dX5_init_34 : decode cX5_init 34 = .ok (.dup, 1) := by decide +kernel
theorem dX5_init_35 : decode cX5_init 35 = .ok (.invokespecial 27, 3) := by decide +kernel
theorem dX5_init_38 : decode cX5_init 38 = .ok (.putfield 28, 3) := by decide +kernel
theorem dX5_init_41 : decode cX5_init 41 = .ok (.aload_n 0, 1) := by decide +kernel
theorem dX5_init_42 : decode cX5_init 42 = .ok (.new 25, 3) := by decide +kernel
theorem dX5_init_45 : decode cX5_init 45 = .ok (.dup, 1) := by decide +kernel
theorem dX5_init_46 : decode cX5_init 46 = .ok (.invokespecial 27, 3) := by decide +kernel
theorem dX5_init_49 : decode cX5_init 49 = .ok (.putfield 32, 3) := by decide +kernel
theorem dX5_init_52 : decode cX5_init 52 = .ok (.aload_n 0, 1) := by decide +kernel
theorem dX5_init_53 : decode cX5_init 53 = .ok (.iconst 2, 1) := by decide +kernel
theorem dX5_init_54 : decode cX5_init 54 = .ok (.anewarray 25, 3) := by decide +kernel
theorem dX5_init_57 : decode cX5_init 57 = .ok (.dup, 1) := by decide +kernel
theorem dX5_init_58 : decode cX5_init 58 = .ok (.iconst 0, 1) := by decide +kernel
theorem dX5_init_59 : decode cX5_init 59 = .ok (.new 25, 3) := by decide +kernel
theorem dX5_init_62 : decode cX5_init 62 = .ok (.dup, 1) := by decide +kernel
theorem dX5_init_63 : decode cX5_init 63 = .ok (.invokespecial 27, 3) := by decide +kernel
theorem dX5_init_66 : decode cX5_init 66 = .ok (.aastore, 1) := by decide +kernel
theorem dX5_init_67 : decode cX5_init 67 = .ok (.dup, 1) := by decide +kernel
theorem dX5_init_68 : decode cX5_init 68 = .ok (.iconst 1, 1) := by decide +kernel
theorem dX5_init_69 : decode cX5_init 69 = .ok (.new 25, 3) := by decide +kernel
theorem dX5_init_72 : decode cX5_init 72 = .ok (.dup, 1) := by decide +kernel
theorem dX5_init_73 : decode cX5_init 73 = .ok (.invokespecial 27, 3) := by decide +kernel
theorem dX5_init_76 : decode cX5_init 76 = .ok (.aastore, 1) := by decide +kernel
theorem dX5_init_77 : decode cX5_init 77 = .ok (.putfield 35, 3) := by decide +kernel
theorem dX5_init_80 : decode cX5_init 80 = .ok (.aload_n 0, 1) := by decide +kernel
theorem dX5_init_81 : decode cX5_init 81 = .ok (.iconst 2, 1) := by decide +kernel
theorem dX5_init_82 : decode cX5_init 82 = .ok (.newarray .boolean, 2) := by decide +kernel
theorem dX5_init_84 : decode cX5_init 84 = .ok (.putfield 39, 3) := by decide +kernel
theorem dX5_init_87 : decode cX5_init 87 = .ok (.aload_n 0, 1) := by decide +kernel
theorem dX5_init_88 : decode cX5_init 88 = .ok (.iconst 4, 1) := by decide +kernel
theorem dX5_init_89 : decode cX5_init 89 = .ok (.anewarray 43, 3) := by decide +kernel
theorem dX5_init_92 : decode cX5_init 92 = .ok (.dup, 1) := by decide +kernel
theorem dX5_init_93 : decode cX5_init 93 = .ok (.iconst 0, 1) := by decide +kernel
theorem dX5_init_94 : decode cX5_init 94 = .ok (.new 43, 3) := by decide +kernel
theorem dX5_init_97 : decode cX5_init 97 = .ok (.dup, 1) := by decide +kernel
theorem dX5_init_98 : decode cX5_init 98 = .ok (.invokespecial 45, 3) := by decide +kernel
theorem dX5_init_101 : decode cX5_init 101 = .ok (.aastore, 1) := by decide +kernel
theorem dX5_init_102 : decode cX5_init 102 = .ok (.dup, 1) := by decide +kernel
theorem dX5_init_103 : decode cX5_init 103 = .ok (.iconst 1, 1) := by decide +kernel
theorem dX5_init_104 : decode cX5_init 104 = .ok (.new 43, 3) := by decide +kernel
theorem dX5_init_107 : decode cX5_init 107 = .ok (.dup, 1) := by decide +kernel
theorem dX5_init_108 : decode cX5_init 108 = .ok (.invokespecial 45, 3) := by decide +kernel
theorem dX5_init_111 : decode cX5_init 111 = .ok (.aastore, 1) := by decide +kernel
theorem dX5_init_112 : decode cX5_init 112 = .ok (.dup, 1) := by decide +kernel
theorem dX5_init_113 : decode cX5_init 113 = .ok (.iconst 2, 1) := by decide +kernel
theorem dX5_init_114 : decode cX5_init 114 = .ok (.new 43, 3) := by decide +kernel
theorem dX5_init_117 : decode cX5_init 117 = .ok (.dup, 1) := by decide +kernel
theorem dX5_init_118 : decode cX5_init 118 = .ok (.invokespecial 45, 3) := by decide +kernel
theorem dX5_init_121 : decode cX5_init 121 = .ok (.aastore, 1) := by decide +kernel
theorem dX5_init_122 : decode cX5_init 122 = .ok (.dup, 1) := by decide +kernel
theorem dX5_init_123 : decode cX5_init 123 = .ok (.iconst 3, 1) := by decide +kernel
theorem dX5_init_124 : decode cX5_init 124 = .ok (.new 43, 3) := by decide +kernel
theorem dX5_init_127 : decode cX5_init 127 = .ok (.dup, 1) := by decide +kernel
theorem dX5_init_128 : decode cX5_init 128 = .ok (.invokespecial 45, 3) := by decide +kernel
theorem dX5_init_131 : decode cX5_init 131 = .ok (.aastore, 1) := by decide +kernel
theorem dX5_init_132 : decode cX5_init 132 = .ok (.putfield 46, 3) := by decide +kernel
theorem dX5_init_135 : decode cX5_init 135 = .ok (.aload_n 0, 1) := by decide +kernel
theorem dX5_init_136 : decode cX5_init 136 = .ok (.new 50, 3) := by decide +kernel
theorem dX5_init_139 : decode cX5_init 139 = .ok (.dup, 1) := by decide +kernel
theorem dX5_init_140 : decode cX5_init 140 = .ok (.invokespecial 52, 3) := by decide +kernel
theorem dX5_init_143 : decode cX5_init 143 = .ok (.putfield 53, 3) := by decide +kernel
theorem dX5_init_146 : decode cX5_init 146 = .ok (.aload_n 0, 1) := by decide +kernel
theorem dX5_init_147 : decode cX5_init 147 = .ok (.bipush 6, 2) := by decide +kernel
theorem dX5_init_149 : decode cX5_init 149 = .ok (.newarray .int, 2) := by decide +kernel
theorem dX5_init_151 : decode cX5_init 151 = .ok (.putfield 57, 3) := by decide +kernel
theorem dX5_init_154 : decode cX5_init 154 = .ok (.aload_n 0, 1) := by decide +kernel
theorem dX5_init_155 : decode cX5_init 155 = .ok (.bipush 6, 2) := by decide +kernel
theorem dX5_init_157 : decode cX5_init 157 = .ok (.newarray .int, 2) := by decide +kernel
theorem dX5_init_159 : decode cX5_init 159 = .ok (.putfield 61, 3) := by decide +kernel
theorem dX5_init_162 : decode cX5_init 162 = .ok (.aload_n 0, 1) := by decide +kernel
theorem dX5_init_163 : decode cX5_init 163 = .ok (.bipush 6, 2) := by decide +kernel
theorem dX5_init_165 : decode cX5_init 165 = .ok (.newarray .int, 2) := by decide +kernel
theorem dX5_init_167 : decode cX5_init 167 = .ok (.putfield 64, 3) := by decide +kernel
theorem dX5_init_170 : decode cX5_init 170 = .ok (.aload_n 0, 1) := by decide +kernel
theorem dX5_init_171 : decode cX5_init 171 = .ok (.bipush 24, 2) := by decide +kernel
theorem dX5_init_173 : decode cX5_init 173 = .ok (.newarray .int, 2) := by decide +kernel
theorem dX5_init_175 : decode cX5_init 175 = .ok (.putfield 67, 3) := by decide +kernel
theorem dX5_init_178 : decode cX5_init 178 = .ok (.aload_n 0, 1) := by decide +kernel
theorem dX5_init_179 : decode cX5_init 179 = .ok (.iconst 4, 1) := by decide +kernel
theorem dX5_init_180 : decode cX5_init 180 = .ok (.newarray .int, 2) := by decide +kernel
theorem dX5_init_182 : decode cX5_init 182 = .ok (.putfield 70, 3) := by decide +kernel
theorem dX5_init_185 : decode cX5_init 185 = .ok (.aload_n 0, 1) := by decide +kernel
theorem dX5_init_186 : decode cX5_init 186 = .ok (.bipush 100, 2) := by decide +kernel
theorem dX5_init_188 : decode cX5_init 188 = .ok (.newarray .int, 2) := by decide +kernel
theorem dX5_init_190 : decode cX5_init 190 = .ok (.putfield 73, 3) := by decide +kernel
theorem dX5_init_193 : decode cX5_init 193 = .ok (.aload_n 0, 1) := by decide +kernel
theorem dX5_init_194 : decode cX5_init 194 = .ok (.bipush 100, 2) := by decide +kernel
theorem dX5_init_196 : decode cX5_init 196 = .ok (.newarray .int, 2) := by decide +kernel
theorem dX5_init_198 : decode cX5_init 198 = .ok (.putfield 76, 3) := by decide +kernel
theorem dX5_init_201 : decode cX5_init 201 = .ok (.return_, 1) := by decide +kernel
theorem dX5_feed_0 : decode cX5_feed 0 = .ok (.iload_n 1, 1) := by decide +kernel
theorem dX5_feed_1 : decode cX5_feed 1 = .ok (.iconst 0, 1) := by decide +kernel
theorem dX5_feed_2 : decode cX5_feed 2 = .ok (.bipush 127, 2) := by decide +kernel
theorem dX5_feed_4 : decode cX5_feed 4 = .ok (.invokestatic 79, 3) := by decide +kernel
theorem dX5_feed_7 : decode cX5_feed 7 = .ok (.ifCond .ne 5, 3) := by decide +kernel
theorem dX5_feed_10 : decode cX5_feed 10 = .ok (.iconst (-1), 1) := by decide +kernel
theorem dX5_feed_11 : decode cX5_feed 11 = .ok (.ireturn, 1) := by decide +kernel
theorem dX5_feed_12 : decode cX5_feed 12 = .ok (.aload_n 0, 1) := by decide +kernel
theorem dX5_feed_13 : decode cX5_feed 13 = .ok (.getfield 10, 3) := by decide +kernel
theorem dX5_feed_16 : decode cX5_feed 16 = .ok (.iload_n 1, 1) := by decide +kernel
theorem dX5_feed_17 : decode cX5_feed 17 = .ok (.invokevirtual 83, 3) := by decide +kernel
theorem dX5_feed_20 : decode cX5_feed 20 = .ok (.ifCond .eq 13, 3) := by decide +kernel
theorem dX5_feed_23 : decode cX5_feed 23 = .ok (.aload_n 0, 1) := by decide +kernel
theorem dX5_feed_24 : decode cX5_feed 24 = .ok (.getfield 10, 3) := by decide +kernel
theorem dX5_feed_27 : decode cX5_feed 27 = .ok (.getfield 87, 3) := by decide +kernel
theorem dX5_feed_30 : decode cX5_feed 30 = .ok (.goto 5, 3) := by decide +kernel
theorem dX5_feed_33 : decode cX5_feed 33 = .ok (.bipush (-3), 2) := by decide +kernel
theorem dX5_feed_35 : decode cX5_feed 35 = .ok (.ireturn, 1) := by decide +kernel
theorem dX5_end_0 : decode cX5_end 0 = .ok (.iload_n 1, 1) := by decide +kernel
theorem dX5_end_1 : decode cX5_end 1 = .ok (.iconst 0, 1) := by decide +kernel
theorem dX5_end_2 : decode cX5_end 2 = .ok (.aload_n 0, 1) := by decide +kernel
theorem dX5_end_3 : decode cX5_end 3 = .ok (.getfield 10, 3) := by decide +kernel
theorem dX5_end_6 : decode cX5_end 6 = .ok (.getfield 87, 3) := by decide +kernel
theorem dX5_end_9 : decode cX5_end 9 = .ok (.invokestatic 79, 3) := by decide +kernel
theorem dX5_end_12 : decode cX5_end 12 = .ok (.ifCond .ne 5, 3) := by decide +kernel
theorem dX5_end_15 : decode cX5_end 15 = .ok (.iconst (-1), 1) := by decide +kernel
theorem dX5_end_16 : decode cX5_end 16 = .ok (.ireturn, 1) := by decide +kernel
theorem dX5_end_17 : decode cX5_end 17 = .ok (.aload_n 0, 1) := by decide +kernel
theorem dX5_end_18 : decode cX5_end 18 = .ok (.getfield 10, 3) := by decide +kernel
theorem dX5_end_21 : decode cX5_end 21 = .ok (.getfield 87, 3) := by decide +kernel
theorem dX5_end_24 : decode cX5_end 24 = .ok (.istore_n 2, 1) := by decide +kernel
theorem dX5_end_25 : decode cX5_end 25 = .ok (.aload_n 0, 1) := by decide +kernel
theorem dX5_end_26 : decode cX5_end 26 = .ok (.getfield 10, 3) := by decide +kernel
theorem dX5_end_29 : decode cX5_end 29 = .ok (.iload_n 1, 1) := by decide +kernel
theorem dX5_end_30 : decode cX5_end 30 = .ok (.putfield 87, 3) := by decide +kernel
theorem dX5_end_33 : decode cX5_end 33 = .ok (.iload_n 2, 1) := by decide +kernel
theorem dX5_end_34 : decode cX5_end 34 = .ok (.ireturn, 1) := by decide +kernel
theorem dX5_text_0 : decode cX5_text 0 = .ok (.aload_n 0, 1) := by decide +kernel
theorem dX5_text_1 : decode cX5_text 1 = .ok (.getfield 21, 3) := by decide +kernel
theorem dX5_text_4 : decode cX5_text 4 = .ok (.invokevirtual 91, 3) := by decide +kernel
theorem dX5_text_7 : decode cX5_text 7 = .ok (.istore_n 1, 1) := by decide +kernel
theorem dX5_text_8 : decode cX5_text 8 = .ok (.aload_n 0, 1) := by decide +kernel
theorem dX5_text_9 : decode cX5_text 9 = .ok (.getfield 10, 3) := by decide +kernel
theorem dX5_text_12 : decode cX5_text 12 = .ok (.iconst 0, 1) := by decide +kernel
theorem dX5_text_13 : decode cX5_text 13 = .ok (.putfield 87, 3) := by decide +kernel
theorem dX5_text_16 : decode cX5_text 16 = .ok (.aload_n 0, 1) := by decide +kernel
theorem dX5_text_17 : decode cX5_text 17 = .ok (.getfield 21, 3) := by decide +kernel
theorem dX5_text_20 : decode cX5_text 20 = .ok (.getfield 95, 3) := by decide +kernel
theorem dX5_text_23 : decode cX5_text 23 = .ok (.ifCond .eq 14, 3) := by decide +kernel
theorem dX5_text_26 : decode cX5_text 26 = .ok (.bipush (-10), 2) := by decide +kernel
theorem dX5_text_28 : decode cX5_text 28 = .ok (.aload_n 0, 1) := by decide +kernel
theorem dX5_text_29 : decode cX5_text 29 = .ok (.getfield 21, 3) := by decide +kernel
theorem dX5_text_32 : decode cX5_text 32 = .ok (.getfield 98, 3) := by decide +kernel
theorem dX5_text_35 : decode cX5_text 35 = .ok (.isub, 1) := by decide +kernel
theorem dX5_text_36 : decode cX5_text 36 = .ok (.ireturn, 1) := by decide +kernel
theorem dX5_text_37 : decode cX5_text 37 = .ok (.aload_n 0, 1) := by decide +kernel
theorem dX5_text_38 : decode cX5_text 38 = .ok (.getfield 28, 3) := by decide +kernel
theorem dX5_text_41 : decode cX5_text 41 = .ok (.aload_n 0, 1) := by decide +kernel
theorem dX5_text_42 : decode cX5_text 42 = .ok (.getfield 21, 3) := by decide +kernel
theorem dX5_text_45 : decode cX5_text 45 = .ok (.getfield 101, 3) := by decide +kernel
theorem dX5_text_48 : decode cX5_text 48 = .ok (.invokevirtual 104, 3) := by decide +kernel
theorem dX5_text_51 : decode cX5_text 51 = .ok (.aload_n 0, 1) := by decide +kernel
theorem dX5_text_52 : decode cX5_text 52 = .ok (.iconst 0, 1) := by decide +kernel
theorem dX5_text_53 : decode cX5_text 53 = .ok (.putfield 108, 3) := by decide +kernel
theorem dX5_text_56 : decode cX5_text 56 = .ok (.iconst 0, 1) := by decide +kernel
theorem dX5_text_57 : decode cX5_text 57 = .ok (.istore_n 2, 1) := by decide +kernel
theorem dX5_text_58 : decode cX5_text 58 = .ok (.iload_n 2, 1) := by decide +kernel
theorem dX5_text_59 : decode cX5_text 59 = .ok (.iconst 2, 1) := by decide +kernel
theorem dX5_text_60 : decode cX5_text 60 = .ok (.if_icmp .ge 16, 3) := by decide +kernel
theorem dX5_text_63 : decode cX5_text 63 = .ok (.aload_n 0, 1) := by decide +kernel
theorem dX5_text_64 : decode cX5_text 64 = .ok (.getfield 39, 3) := by decide +kernel
theorem dX5_text_67 : decode cX5_text 67 = .ok (.iload_n 2, 1) := by decide +kernel
theorem dX5_text_68 : decode cX5_text 68 = .ok (.iconst 0, 1) := by decide +kernel
theorem dX5_text_69 : decode cX5_text 69 = .ok (.bastore, 1) := by decide +kernel
theorem dX5_text_70 : decode cX5_text 70 = .ok (.iinc 2 1, 3) := by decide +kernel
theorem dX5_text_73 : decode cX5_text 73 = .ok (.goto (-15), 3) := by decide +kernel
theorem dX5_text_76 : decode cX5_text 76 = .ok (.iload_n 1, 1) := by decide +kernel
theorem dX5_text_77 : decode cX5_text 77 = .ok (.ireturn, 1) := by decide +kernel
theorem dX5_fault_0 : decode cX5_fault 0 = .ok (.aload_n 0, 1) := by decide +kernel
theorem dX5_fault_1 : decode cX5_fault 1 = .ok (.getfield 21, 3) := by decide +kernel
theorem dX5_fault_4 : decode cX5_fault 4 = .ok (.getfield 95, 3) := by decide +kernel
theorem dX5_fault_7 : decode cX5_fault 7 = .ok (.ireturn, 1) := by decide +kernel
theorem dX5_rule_0 : decode cX5_rule 0 = .ok (.iload_n 1, 1) := by decide +kernel
theorem dX5_rule_1 : decode cX5_rule 1 = .ok (.tableswitch 72 0 4 #[35, 43, 51, 59, 67], 35) := by decide +kernel
theorem dX5_rule_36 : decode cX5_rule 36 = .ok (.aload_n 0, 1) := by decide +kernel
theorem dX5_rule_37 : decode cX5_rule 37 = .ok (.getfield 28, 3) := by decide +kernel
theorem dX5_rule_40 : decode cX5_rule 40 = .ok (.getfield 111, 3) := by decide +kernel
theorem dX5_rule_43 : decode cX5_rule 43 = .ok (.ireturn, 1) := by decide +kernel
theorem dX5_rule_44 : decode cX5_rule 44 = .ok (.aload_n 0, 1) := by decide +kernel
theorem dX5_rule_45 : decode cX5_rule 45 = .ok (.getfield 28, 3) := by decide +kernel
theorem dX5_rule_48 : decode cX5_rule 48 = .ok (.getfield 114, 3) := by decide +kernel
theorem dX5_rule_51 : decode cX5_rule 51 = .ok (.ireturn, 1) := by decide +kernel
theorem dX5_rule_52 : decode cX5_rule 52 = .ok (.aload_n 0, 1) := by decide +kernel
theorem dX5_rule_53 : decode cX5_rule 53 = .ok (.getfield 28, 3) := by decide +kernel
theorem dX5_rule_56 : decode cX5_rule 56 = .ok (.getfield 117, 3) := by decide +kernel
theorem dX5_rule_59 : decode cX5_rule 59 = .ok (.ireturn, 1) := by decide +kernel
theorem dX5_rule_60 : decode cX5_rule 60 = .ok (.aload_n 0, 1) := by decide +kernel
theorem dX5_rule_61 : decode cX5_rule 61 = .ok (.getfield 28, 3) := by decide +kernel
theorem dX5_rule_64 : decode cX5_rule 64 = .ok (.invokevirtual 120, 3) := by decide +kernel
theorem dX5_rule_67 : decode cX5_rule 67 = .ok (.ireturn, 1) := by decide +kernel
theorem dX5_rule_68 : decode cX5_rule 68 = .ok (.aload_n 0, 1) := by decide +kernel
theorem dX5_rule_69 : decode cX5_rule 69 = .ok (.invokevirtual 123, 3) := by decide +kernel
theorem dX5_rule_72 : decode cX5_rule 72 = .ok (.ireturn, 1) := by decide +kernel
theorem dX5_rule_73 : decode cX5_rule 73 = .ok (.iconst (-1), 1) := by decide +kernel
theorem dX5_rule_74 : decode cX5_rule 74 = .ok (.ireturn, 1) := by decide +kernel
theorem dX5_tub_0 : decode cX5_tub 0 = .ok (.aload_n 0, 1) := by decide +kernel
theorem dX5_tub_1 : decode cX5_tub 1 = .ok (.getfield 28, 3) := by decide +kernel
theorem dX5_tub_4 : decode cX5_tub 4 = .ok (.iload_n 1, 1) := by decide +kernel
theorem dX5_tub_5 : decode cX5_tub 5 = .ok (.invokevirtual 126, 3) := by decide +kernel
theorem dX5_tub_8 : decode cX5_tub 8 = .ok (.ifCond .eq 12, 3) := by decide +kernel
theorem dX5_tub_11 : decode cX5_tub 11 = .ok (.iload_n 2, 1) := by decide +kernel
theorem dX5_tub_12 : decode cX5_tub 12 = .ok (.iconst 0, 1) := by decide +kernel
theorem dX5_tub_13 : decode cX5_tub 13 = .ok (.iconst 5, 1) := by decide +kernel
theorem dX5_tub_14 : decode cX5_tub 14 = .ok (.invokestatic 79, 3) := by decide +kernel
theorem dX5_tub_17 : decode cX5_tub 17 = .ok (.ifCond .ne 5, 3) := by decide +kernel
theorem dX5_tub_20 : decode cX5_tub 20 = .ok (.iconst (-1), 1) := by decide +kernel
theorem dX5_tub_21 : decode cX5_tub 21 = .ok (.ireturn, 1) := by decide +kernel
theorem dX5_tub_22 : decode cX5_tub 22 = .ok (.iload_n 2, 1) := by decide +kernel
theorem dX5_tub_23 : decode cX5_tub 23 = .ok (.iconst 5, 1) := by decide +kernel
theorem dX5_tub_24 : decode cX5_tub 24 = .ok (.if_icmp .ne 19, 3) := by decide +kernel
theorem dX5_tub_27 : decode cX5_tub 27 = .ok (.getstatic 129, 3) := by decide +kernel
theorem dX5_tub_30 : decode cX5_tub 30 = .ok (.aload_n 0, 1) := by decide +kernel
theorem dX5_tub_31 : decode cX5_tub 31 = .ok (.getfield 28, 3) := by decide +kernel
theorem dX5_tub_34 : decode cX5_tub 34 = .ok (.iload_n 1, 1) := by decide +kernel
theorem dX5_tub_35 : decode cX5_tub 35 = .ok (.iconst 0, 1) := by decide +kernel
theorem dX5_tub_36 : decode cX5_tub 36 = .ok (.invokevirtual 132, 3) := by decide +kernel
theorem dX5_tub_39 : decode cX5_tub 39 = .ok (.iaload, 1) := by decide +kernel
theorem dX5_tub_40 : decode cX5_tub 40 = .ok (.goto 12, 3) := by decide +kernel
theorem dX5_tub_43 : decode cX5_tub 43 = .ok (.aload_n 0, 1) := by decide +kernel
theorem dX5_tub_44 : decode cX5_tub 44 = .ok (.getfield 28, 3) := by decide +kernel
theorem dX5_tub_47 : decode cX5_tub 47 = .ok (.iload_n 1, 1) := by decide +kernel
theorem dX5_tub_48 : decode cX5_tub 48 = .ok (.iload_n 2, 1) := by decide +kernel
theorem dX5_tub_49 : decode cX5_tub 49 = .ok (.invokevirtual 132, 3) := by decide +kernel
theorem dX5_tub_52 : decode cX5_tub 52 = .ok (.ireturn, 1) := by decide +kernel
theorem dX5_heir_0 : decode cX5_heir 0 = .ok (.aload_n 0, 1) := by decide +kernel
theorem dX5_heir_1 : decode cX5_heir 1 = .ok (.getfield 28, 3) := by decide +kernel
theorem dX5_heir_4 : decode cX5_heir 4 = .ok (.iload_n 1, 1) := by decide +kernel
theorem dX5_heir_5 : decode cX5_heir 5 = .ok (.invokevirtual 136, 3) := by decide +kernel
theorem dX5_heir_8 : decode cX5_heir 8 = .ok (.ifCond .eq 12, 3) := by decide +kernel
theorem dX5_heir_11 : decode cX5_heir 11 = .ok (.iload_n 2, 1) := by decide +kernel
theorem dX5_heir_12 : decode cX5_heir 12 = .ok (.iconst 0, 1) := by decide +kernel
theorem dX5_heir_13 : decode cX5_heir 13 = .ok (.iconst 3, 1) := by decide +kernel
theorem dX5_heir_14 : decode cX5_heir 14 = .ok (.invokestatic 79, 3) := by decide +kernel
theorem dX5_heir_17 : decode cX5_heir 17 = .ok (.ifCond .ne 5, 3) := by decide +kernel
theorem dX5_heir_20 : decode cX5_heir 20 = .ok (.iconst (-1), 1) := by decide +kernel
theorem dX5_heir_21 : decode cX5_heir 21 = .ok (.ireturn, 1) := by decide +kernel
theorem dX5_heir_22 : decode cX5_heir 22 = .ok (.aload_n 0, 1) := by decide +kernel
theorem dX5_heir_23 : decode cX5_heir 23 = .ok (.getfield 28, 3) := by decide +kernel
theorem dX5_heir_26 : decode cX5_heir 26 = .ok (.iload_n 1, 1) := by decide +kernel
theorem dX5_heir_27 : decode cX5_heir 27 = .ok (.iload_n 2, 1) := by decide +kernel
theorem dX5_heir_28 : decode cX5_heir 28 = .ok (.invokevirtual 139, 3) := by decide +kernel
theorem dX5_heir_31 : decode cX5_heir 31 = .ok (.ireturn, 1) := by decide +kernel
theorem dX5_current_0 : decode cX5_current 0 = .ok (.iload_n 1, 1) := by decide +kernel
theorem dX5_current_1 : decode cX5_current 1 = .ok (.iconst 0, 1) := by decide +kernel
theorem dX5_current_2 : decode cX5_current 2 = .ok (.bipush 9, 2) := by decide +kernel
theorem dX5_current_4 : decode cX5_current 4 = .ok (.invokestatic 79, 3) := by decide +kernel
theorem dX5_current_7 : decode cX5_current 7 = .ok (.ifCond .eq 15, 3) := by decide +kernel
theorem dX5_current_10 : decode cX5_current 10 = .ok (.aload_n 0, 1) := by decide +kernel
theorem dX5_current_11 : decode cX5_current 11 = .ok (.getfield 28, 3) := by decide +kernel
theorem dX5_current_14 : decode cX5_current 14 = .ok (.getfield 142, 3) := by decide +kernel
theorem dX5_current_17 : decode cX5_current 17 = .ok (.iload_n 1, 1) := by decide +kernel
theorem dX5_current_18 : decode cX5_current 18 = .ok (.iaload, 1) := by decide +kernel
theorem dX5_current_19 : decode cX5_current 19 = .ok (.goto 4, 3) := by decide +kernel
theorem dX5_current_22 : decode cX5_current 22 = .ok (.iconst (-1), 1) := by decide +kernel
theorem dX5_current_23 : decode cX5_current 23 = .ok (.ireturn, 1) := by decide +kernel
theorem dX5_wind_0 : decode cX5_wind 0 = .ok (.iload_n 1, 1) := by decide +kernel
theorem dX5_wind_1 : decode cX5_wind 1 = .ok (.iconst 0, 1) := by decide +kernel
theorem dX5_wind_2 : decode cX5_wind 2 = .ok (.bipush 23, 2) := by decide +kernel
theorem dX5_wind_4 : decode cX5_wind 4 = .ok (.invokestatic 79, 3) := by decide +kernel
theorem dX5_wind_7 : decode cX5_wind 7 = .ok (.ifCond .eq 15, 3) := by decide +kernel
theorem dX5_wind_10 : decode cX5_wind 10 = .ok (.aload_n 0, 1) := by decide +kernel
theorem dX5_wind_11 : decode cX5_wind 11 = .ok (.getfield 28, 3) := by decide +kernel
theorem dX5_wind_14 : decode cX5_wind 14 = .ok (.getfield 145, 3) := by decide +kernel
theorem dX5_wind_17 : decode cX5_wind 17 = .ok (.iload_n 1, 1) := by decide +kernel
theorem dX5_wind_18 : decode cX5_wind 18 = .ok (.iaload, 1) := by decide +kernel
theorem dX5_wind_19 : decode cX5_wind 19 = .ok (.goto 4, 3) := by decide +kernel
theorem dX5_wind_22 : decode cX5_wind 22 = .ok (.iconst (-1), 1) := by decide +kernel
theorem dX5_wind_23 : decode cX5_wind 23 = .ok (.ireturn, 1) := by decide +kernel
theorem dX5_alter_0 : decode cX5_alter 0 = .ok (.aload_n 0, 1) := by decide +kernel
theorem dX5_alter_1 : decode cX5_alter 1 = .ok (.getfield 28, 3) := by decide +kernel
theorem dX5_alter_4 : decode cX5_alter 4 = .ok (.iload_n 1, 1) := by decide +kernel
theorem dX5_alter_5 : decode cX5_alter 5 = .ok (.invokevirtual 126, 3) := by decide +kernel
theorem dX5_alter_8 : decode cX5_alter 8 = .ok (.ifCond .eq 11, 3) := by decide +kernel
theorem dX5_alter_11 : decode cX5_alter 11 = .ok (.iload_n 2, 1) := by decide +kernel
theorem dX5_alter_12 : decode cX5_alter 12 = .ok (.iload_n 3, 1) := by decide +kernel
theorem dX5_alter_13 : decode cX5_alter 13 = .ok (.invokestatic 148, 3) := by decide +kernel
theorem dX5_alter_16 : decode cX5_alter 16 = .ok (.ifCond .ne 5, 3) := by decide +kernel
theorem dX5_alter_19 : decode cX5_alter 19 = .ok (.iconst (-1), 1) := by decide +kernel
theorem dX5_alter_20 : decode cX5_alter 20 = .ok (.ireturn, 1) := by decide +kernel
theorem dX5_alter_21 : decode cX5_alter 21 = .ok (.aload_n 0, 1) := by decide +kernel
theorem dX5_alter_22 : decode cX5_alter 22 = .ok (.getfield 28, 3) := by decide +kernel
theorem dX5_alter_25 : decode cX5_alter 25 = .ok (.iload_n 1, 1) := by decide +kernel
theorem dX5_alter_26 : decode cX5_alter 26 = .ok (.iload_n 2, 1) := by decide +kernel
theorem dX5_alter_27 : decode cX5_alter 27 = .ok (.invokevirtual 132, 3) := by decide +kernel
theorem dX5_alter_30 : decode cX5_alter 30 = .ok (.istore 4, 2) := by decide +kernel
theorem dX5_alter_32 : decode cX5_alter 32 = .ok (.aload_n 0, 1) := by decide +kernel
theorem dX5_alter_33 : decode cX5_alter 33 = .ok (.getfield 28, 3) := by decide +kernel
theorem dX5_alter_36 : decode cX5_alter 36 = .ok (.iload_n 1, 1) := by decide +kernel
theorem dX5_alter_37 : decode cX5_alter 37 = .ok (.iload_n 2, 1) := by decide +kernel
theorem dX5_alter_38 : decode cX5_alter 38 = .ok (.iload_n 3, 1) := by decide +kernel
theorem dX5_alter_39 : decode cX5_alter 39 = .ok (.invokevirtual 152, 3) := by decide +kernel
theorem dX5_alter_42 : decode cX5_alter 42 = .ok (.iload 4, 2) := by decide +kernel
theorem dX5_alter_44 : decode cX5_alter 44 = .ok (.ireturn, 1) := by decide +kernel
theorem dX5_stand_0 : decode cX5_stand 0 = .ok (.aload_n 0, 1) := by decide +kernel
theorem dX5_stand_1 : decode cX5_stand 1 = .ok (.getfield 28, 3) := by decide +kernel
theorem dX5_stand_4 : decode cX5_stand 4 = .ok (.iload_n 1, 1) := by decide +kernel
theorem dX5_stand_5 : decode cX5_stand 5 = .ok (.invokevirtual 136, 3) := by decide +kernel
theorem dX5_stand_8 : decode cX5_stand 8 = .ok (.ifCond .eq 11, 3) := by decide +kernel
theorem dX5_stand_11 : decode cX5_stand 11 = .ok (.iload_n 2, 1) := by decide +kernel
theorem dX5_stand_12 : decode cX5_stand 12 = .ok (.iload_n 3, 1) := by decide +kernel
theorem dX5_stand_13 : decode cX5_stand 13 = .ok (.invokestatic 156, 3) := by decide +kernel
theorem dX5_stand_16 : decode cX5_stand 16 = .ok (.ifCond .ne 5, 3) := by decide +kernel
theorem dX5_stand_19 : decode cX5_stand 19 = .ok (.iconst (-1), 1) := by decide +kernel
theorem dX5_stand_20 : decode cX5_stand 20 = .ok (.ireturn, 1) := by decide +kernel
theorem dX5_stand_21 : decode cX5_stand 21 = .ok (.iload_n 2, 1) := by decide +kernel
theorem dX5_stand_22 : decode cX5_stand 22 = .ok (.iconst 1, 1) := by decide +kernel
theorem dX5_stand_23 : decode cX5_stand 23 = .ok (.if_icmp .ne 18, 3) := by decide +kernel
theorem dX5_stand_26 : decode cX5_stand 26 = .ok (.iload_n 3, 1) := by decide +kernel
theorem dX5_stand_27 : decode cX5_stand 27 = .ok (.aload_n 0, 1) := by decide +kernel
theorem dX5_stand_28 : decode cX5_stand 28 = .ok (.getfield 28, 3) := by decide +kernel
theorem dX5_stand_31 : decode cX5_stand 31 = .ok (.iload_n 1, 1) := by decide +kernel
theorem dX5_stand_32 : decode cX5_stand 32 = .ok (.iconst 2, 1) := by decide +kernel
theorem dX5_stand_33 : decode cX5_stand 33 = .ok (.invokevirtual 139, 3) := by decide +kernel
theorem dX5_stand_36 : decode cX5_stand 36 = .ok (.if_icmp .le 5, 3) := by decide +kernel
theorem dX5_stand_39 : decode cX5_stand 39 = .ok (.iconst (-1), 1) := by decide +kernel
theorem dX5_stand_40 : decode cX5_stand 40 = .ok (.ireturn, 1) := by decide +kernel
theorem dX5_stand_41 : decode cX5_stand 41 = .ok (.iload_n 2, 1) := by decide +kernel
theorem dX5_stand_42 : decode cX5_stand 42 = .ok (.iconst 2, 1) := by decide +kernel
theorem dX5_stand_43 : decode cX5_stand 43 = .ok (.if_icmp .ne 18, 3) := by decide +kernel
theorem dX5_stand_46 : decode cX5_stand 46 = .ok (.iload_n 3, 1) := by decide +kernel
theorem dX5_stand_47 : decode cX5_stand 47 = .ok (.aload_n 0, 1) := by decide +kernel
theorem dX5_stand_48 : decode cX5_stand 48 = .ok (.getfield 28, 3) := by decide +kernel
theorem dX5_stand_51 : decode cX5_stand 51 = .ok (.iload_n 1, 1) := by decide +kernel
theorem dX5_stand_52 : decode cX5_stand 52 = .ok (.iconst 1, 1) := by decide +kernel
theorem dX5_stand_53 : decode cX5_stand 53 = .ok (.invokevirtual 139, 3) := by decide +kernel
theorem dX5_stand_56 : decode cX5_stand 56 = .ok (.if_icmp .ge 5, 3) := by decide +kernel
theorem dX5_stand_59 : decode cX5_stand 59 = .ok (.iconst (-1), 1) := by decide +kernel
theorem dX5_stand_60 : decode cX5_stand 60 = .ok (.ireturn, 1) := by decide +kernel
theorem dX5_stand_61 : decode cX5_stand 61 = .ok (.aload_n 0, 1) := by decide +kernel
theorem dX5_stand_62 : decode cX5_stand 62 = .ok (.getfield 28, 3) := by decide +kernel
theorem dX5_stand_65 : decode cX5_stand 65 = .ok (.iload_n 1, 1) := by decide +kernel
theorem dX5_stand_66 : decode cX5_stand 66 = .ok (.iload_n 2, 1) := by decide +kernel
theorem dX5_stand_67 : decode cX5_stand 67 = .ok (.invokevirtual 139, 3) := by decide +kernel
theorem dX5_stand_70 : decode cX5_stand 70 = .ok (.istore 4, 2) := by decide +kernel
theorem dX5_stand_72 : decode cX5_stand 72 = .ok (.aload_n 0, 1) := by decide +kernel
theorem dX5_stand_73 : decode cX5_stand 73 = .ok (.getfield 28, 3) := by decide +kernel
theorem dX5_stand_76 : decode cX5_stand 76 = .ok (.iload_n 1, 1) := by decide +kernel
theorem dX5_stand_77 : decode cX5_stand 77 = .ok (.iload_n 2, 1) := by decide +kernel
theorem dX5_stand_78 : decode cX5_stand 78 = .ok (.iload_n 3, 1) := by decide +kernel
theorem dX5_stand_79 : decode cX5_stand 79 = .ok (.invokevirtual 159, 3) := by decide +kernel
theorem dX5_stand_82 : decode cX5_stand 82 = .ok (.iload 4, 2) := by decide +kernel
theorem dX5_stand_84 : decode cX5_stand 84 = .ok (.ireturn, 1) := by decide +kernel
theorem dX5_set_0 : decode cX5_set 0 = .ok (.iload_n 1, 1) := by decide +kernel
theorem dX5_set_1 : decode cX5_set 1 = .ok (.iconst 0, 1) := by decide +kernel
theorem dX5_set_2 : decode cX5_set 2 = .ok (.bipush 9, 2) := by decide +kernel
theorem dX5_set_4 : decode cX5_set 4 = .ok (.invokestatic 79, 3) := by decide +kernel
theorem dX5_set_7 : decode cX5_set 7 = .ok (.ifCond .eq 12, 3) := by decide +kernel
theorem dX5_set_10 : decode cX5_set 10 = .ok (.iload_n 2, 1) := by decide +kernel
theorem dX5_set_11 : decode cX5_set 11 = .ok (.iconst 0, 1) := by decide +kernel
theorem dX5_set_12 : decode cX5_set 12 = .ok (.iconst 4, 1) := by decide +kernel
theorem dX5_set_13 : decode cX5_set 13 = .ok (.invokestatic 79, 3) := by decide +kernel
theorem dX5_set_16 : decode cX5_set 16 = .ok (.ifCond .ne 5, 3) := by decide +kernel
theorem dX5_set_19 : decode cX5_set 19 = .ok (.iconst (-1), 1) := by decide +kernel
theorem dX5_set_20 : decode cX5_set 20 = .ok (.ireturn, 1) := by decide +kernel
theorem dX5_set_21 : decode cX5_set 21 = .ok (.aload_n 0, 1) := by decide +kernel
theorem dX5_set_22 : decode cX5_set 22 = .ok (.getfield 28, 3) := by decide +kernel
theorem dX5_set_25 : decode cX5_set 25 = .ok (.getfield 142, 3) := by decide +kernel
theorem dX5_set_28 : decode cX5_set 28 = .ok (.iload_n 1, 1) := by decide +kernel
theorem dX5_set_29 : decode cX5_set 29 = .ok (.iaload, 1) := by decide +kernel
theorem dX5_set_30 : decode cX5_set 30 = .ok (.istore_n 3, 1) := by decide +kernel
theorem dX5_set_31 : decode cX5_set 31 = .ok (.aload_n 0, 1) := by decide +kernel
theorem dX5_set_32 : decode cX5_set 32 = .ok (.getfield 28, 3) := by decide +kernel
theorem dX5_set_35 : decode cX5_set 35 = .ok (.getfield 142, 3) := by decide +kernel
theorem dX5_set_38 : decode cX5_set 38 = .ok (.iload_n 1, 1) := by decide +kernel
theorem dX5_set_39 : decode cX5_set 39 = .ok (.iload_n 2, 1) := by decide +kernel
theorem dX5_set_40 : decode cX5_set 40 = .ok (.iastore, 1) := by decide +kernel
theorem dX5_set_41 : decode cX5_set 41 = .ok (.iload_n 3, 1) := by decide +kernel
theorem dX5_set_42 : decode cX5_set 42 = .ok (.ireturn, 1) := by decide +kernel
theorem dX5_blow_0 : decode cX5_blow 0 = .ok (.iload_n 1, 1) := by decide +kernel
theorem dX5_blow_1 : decode cX5_blow 1 = .ok (.iconst 0, 1) := by decide +kernel
theorem dX5_blow_2 : decode cX5_blow 2 = .ok (.bipush 23, 2) := by decide +kernel
theorem dX5_blow_4 : decode cX5_blow 4 = .ok (.invokestatic 79, 3) := by decide +kernel
theorem dX5_blow_7 : decode cX5_blow 7 = .ok (.ifCond .eq 12, 3) := by decide +kernel
theorem dX5_blow_10 : decode cX5_blow 10 = .ok (.iload_n 2, 1) := by decide +kernel
theorem dX5_blow_11 : decode cX5_blow 11 = .ok (.iconst 0, 1) := by decide +kernel
theorem dX5_blow_12 : decode cX5_blow 12 = .ok (.iconst 4, 1) := by decide +kernel
theorem dX5_blow_13 : decode cX5_blow 13 = .ok (.invokestatic 79, 3) := by decide +kernel
theorem dX5_blow_16 : decode cX5_blow 16 = .ok (.ifCond .ne 5, 3) := by decide +kernel
theorem dX5_blow_19 : decode cX5_blow 19 = .ok (.iconst (-1), 1) := by decide +kernel
theorem dX5_blow_20 : decode cX5_blow 20 = .ok (.ireturn, 1) := by decide +kernel
theorem dX5_blow_21 : decode cX5_blow 21 = .ok (.aload_n 0, 1) := by decide +kernel
theorem dX5_blow_22 : decode cX5_blow 22 = .ok (.getfield 28, 3) := by decide +kernel
theorem dX5_blow_25 : decode cX5_blow 25 = .ok (.getfield 145, 3) := by decide +kernel
theorem dX5_blow_28 : decode cX5_blow 28 = .ok (.iload_n 1, 1) := by decide +kernel
theorem dX5_blow_29 : decode cX5_blow 29 = .ok (.iaload, 1) := by decide +kernel
theorem dX5_blow_30 : decode cX5_blow 30 = .ok (.istore_n 3, 1) := by decide +kernel
theorem dX5_blow_31 : decode cX5_blow 31 = .ok (.aload_n 0, 1) := by decide +kernel
theorem dX5_blow_32 : decode cX5_blow 32 = .ok (.getfield 28, 3) := by decide +kernel
theorem dX5_blow_35 : decode cX5_blow 35 = .ok (.getfield 145, 3) := by decide +kernel
theorem dX5_blow_38 : decode cX5_blow 38 = .ok (.iload_n 1, 1) := by decide +kernel
theorem dX5_blow_39 : decode cX5_blow 39 = .ok (.iload_n 2, 1) := by decide +kernel
theorem dX5_blow_40 : decode cX5_blow 40 = .ok (.iastore, 1) := by decide +kernel
theorem dX5_blow_41 : decode cX5_blow 41 = .ok (.iload_n 3, 1) := by decide +kernel
theorem dX5_blow_42 : decode cX5_blow 42 = .ok (.ireturn, 1) := by decide +kernel
theorem dX5_phase_0 : decode cX5_phase 0 = .ok (.iload_n 1, 1) := by decide +kernel
theorem dX5_phase_1 : decode cX5_phase 1 = .ok (.iconst 0, 1) := by decide +kernel
theorem dX5_phase_2 : decode cX5_phase 2 = .ok (.iconst 5, 1) := by decide +kernel
theorem dX5_phase_3 : decode cX5_phase 3 = .ok (.invokestatic 79, 3) := by decide +kernel
theorem dX5_phase_6 : decode cX5_phase 6 = .ok (.ifCond .ne 5, 3) := by decide +kernel
theorem dX5_phase_9 : decode cX5_phase 9 = .ok (.iconst (-1), 1) := by decide +kernel
theorem dX5_phase_10 : decode cX5_phase 10 = .ok (.ireturn, 1) := by decide +kernel
theorem dX5_phase_11 : decode cX5_phase 11 = .ok (.aload_n 0, 1) := by decide +kernel
theorem dX5_phase_12 : decode cX5_phase 12 = .ok (.getfield 28, 3) := by decide +kernel
theorem dX5_phase_15 : decode cX5_phase 15 = .ok (.getfield 117, 3) := by decide +kernel
theorem dX5_phase_18 : decode cX5_phase 18 = .ok (.istore_n 2, 1) := by decide +kernel
theorem dX5_phase_19 : decode cX5_phase 19 = .ok (.aload_n 0, 1) := by decide +kernel
theorem dX5_phase_20 : decode cX5_phase 20 = .ok (.getfield 28, 3) := by decide +kernel
theorem dX5_phase_23 : decode cX5_phase 23 = .ok (.iload_n 1, 1) := by decide +kernel
theorem dX5_phase_24 : decode cX5_phase 24 = .ok (.putfield 117, 3) := by decide +kernel
theorem dX5_phase_27 : decode cX5_phase 27 = .ok (.iload_n 2, 1) := by decide +kernel
theorem dX5_phase_28 : decode cX5_phase 28 = .ok (.ireturn, 1) := by decide +kernel
theorem dX5_cast_0 : decode cX5_cast 0 = .ok (.aload_n 0, 1) := by decide +kernel
theorem dX5_cast_1 : decode cX5_cast 1 = .ok (.iload_n 1, 1) := by decide +kernel
theorem dX5_cast_2 : decode cX5_cast 2 = .ok (.iload_n 2, 1) := by decide +kernel
theorem dX5_cast_3 : decode cX5_cast 3 = .ok (.iload_n 3, 1) := by decide +kernel
theorem dX5_cast_4 : decode cX5_cast 4 = .ok (.invokevirtual 162, 3) := by decide +kernel
theorem dX5_cast_7 : decode cX5_cast 7 = .ok (.ireturn, 1) := by decide +kernel
theorem dX5_sink_0 : decode cX5_sink 0 = .ok (.iload_n 1, 1) := by decide +kernel
theorem dX5_sink_1 : decode cX5_sink 1 = .ok (.iconst 0, 1) := by decide +kernel
theorem dX5_sink_2 : decode cX5_sink 2 = .ok (.aload_n 0, 1) := by decide +kernel
theorem dX5_sink_3 : decode cX5_sink 3 = .ok (.getfield 28, 3) := by decide +kernel
theorem dX5_sink_6 : decode cX5_sink 6 = .ok (.getfield 111, 3) := by decide +kernel
theorem dX5_sink_9 : decode cX5_sink 9 = .ok (.invokestatic 79, 3) := by decide +kernel
theorem dX5_sink_12 : decode cX5_sink 12 = .ok (.ifCond .ne 5, 3) := by decide +kernel
theorem dX5_sink_15 : decode cX5_sink 15 = .ok (.iconst (-1), 1) := by decide +kernel
theorem dX5_sink_16 : decode cX5_sink 16 = .ok (.ireturn, 1) := by decide +kernel
theorem dX5_sink_17 : decode cX5_sink 17 = .ok (.aload_n 0, 1) := by decide +kernel
theorem dX5_sink_18 : decode cX5_sink 18 = .ok (.getfield 28, 3) := by decide +kernel
theorem dX5_sink_21 : decode cX5_sink 21 = .ok (.getfield 111, 3) := by decide +kernel
theorem dX5_sink_24 : decode cX5_sink 24 = .ok (.istore_n 2, 1) := by decide +kernel
theorem dX5_sink_25 : decode cX5_sink 25 = .ok (.aload_n 0, 1) := by decide +kernel
theorem dX5_sink_26 : decode cX5_sink 26 = .ok (.getfield 28, 3) := by decide +kernel
theorem dX5_sink_29 : decode cX5_sink 29 = .ok (.iload_n 1, 1) := by decide +kernel
theorem dX5_sink_30 : decode cX5_sink 30 = .ok (.putfield 111, 3) := by decide +kernel
theorem dX5_sink_33 : decode cX5_sink 33 = .ok (.iload_n 2, 1) := by decide +kernel
theorem dX5_sink_34 : decode cX5_sink 34 = .ok (.ireturn, 1) := by decide +kernel
theorem dX5_fate_0 : decode cX5_fate 0 = .ok (.aload_n 0, 1) := by decide +kernel
theorem dX5_fate_1 : decode cX5_fate 1 = .ok (.getfield 28, 3) := by decide +kernel
theorem dX5_fate_4 : decode cX5_fate 4 = .ok (.iload_n 1, 1) := by decide +kernel
theorem dX5_fate_5 : decode cX5_fate 5 = .ok (.invokevirtual 126, 3) := by decide +kernel
theorem dX5_fate_8 : decode cX5_fate 8 = .ok (.ifCond .eq 12, 3) := by decide +kernel
theorem dX5_fate_11 : decode cX5_fate 11 = .ok (.iload_n 2, 1) := by decide +kernel
theorem dX5_fate_12 : decode cX5_fate 12 = .ok (.iconst 0, 1) := by decide +kernel
theorem dX5_fate_13 : decode cX5_fate 13 = .ok (.iconst 3, 1) := by decide +kernel
theorem dX5_fate_14 : decode cX5_fate 14 = .ok (.invokestatic 79, 3) := by decide +kernel
theorem dX5_fate_17 : decode cX5_fate 17 = .ok (.ifCond .ne 5, 3) := by decide +kernel
theorem dX5_fate_20 : decode cX5_fate 20 = .ok (.iconst (-1), 1) := by decide +kernel
theorem dX5_fate_21 : decode cX5_fate 21 = .ok (.ireturn, 1) := by decide +kernel
theorem dX5_fate_22 : decode cX5_fate 22 = .ok (.aload_n 0, 1) := by decide +kernel
theorem dX5_fate_23 : decode cX5_fate 23 = .ok (.getfield 53, 3) := by decide +kernel
theorem dX5_fate_26 : decode cX5_fate 26 = .ok (.aload_n 0, 1) := by decide +kernel
theorem dX5_fate_27 : decode cX5_fate 27 = .ok (.getfield 28, 3) := by decide +kernel
theorem dX5_fate_30 : decode cX5_fate 30 = .ok (.iload_n 1, 1) := by decide +kernel
theorem dX5_fate_31 : decode cX5_fate 31 = .ok (.bipush 24, 2) := by decide +kernel
theorem dX5_fate_33 : decode cX5_fate 33 = .ok (.invokevirtual 166, 3) := by decide +kernel
theorem dX5_fate_36 : decode cX5_fate 36 = .ok (.iload_n 2, 1) := by decide +kernel
theorem dX5_fate_37 : decode cX5_fate 37 = .ok (.tableswitch 56 0 2 #[27, 36, 46], 27) := by decide +kernel
theorem dX5_fate_64 : decode cX5_fate 64 = .ok (.aload_n 0, 1) := by decide +kernel
theorem dX5_fate_65 : decode cX5_fate 65 = .ok (.getfield 53, 3) := by decide +kernel
theorem dX5_fate_68 : decode cX5_fate 68 = .ok (.iload_n 1, 1) := by decide +kernel
theorem dX5_fate_69 : decode cX5_fate 69 = .ok (.invokevirtual 170, 3) := by decide +kernel
theorem dX5_fate_72 : decode cX5_fate 72 = .ok (.ireturn, 1) := by decide +kernel
theorem dX5_fate_73 : decode cX5_fate 73 = .ok (.aload_n 0, 1) := by decide +kernel
theorem dX5_fate_74 : decode cX5_fate 74 = .ok (.getfield 53, 3) := by decide +kernel
theorem dX5_fate_77 : decode cX5_fate 77 = .ok (.getfield 174, 3) := by decide +kernel
theorem dX5_fate_80 : decode cX5_fate 80 = .ok (.iload_n 1, 1) := by decide +kernel
theorem dX5_fate_81 : decode cX5_fate 81 = .ok (.iaload, 1) := by decide +kernel
theorem dX5_fate_82 : decode cX5_fate 82 = .ok (.ireturn, 1) := by decide +kernel
theorem dX5_fate_83 : decode cX5_fate 83 = .ok (.aload_n 0, 1) := by decide +kernel
theorem dX5_fate_84 : decode cX5_fate 84 = .ok (.getfield 53, 3) := by decide +kernel
theorem dX5_fate_87 : decode cX5_fate 87 = .ok (.getfield 177, 3) := by decide +kernel
theorem dX5_fate_90 : decode cX5_fate 90 = .ok (.iload_n 1, 1) := by decide +kernel
theorem dX5_fate_91 : decode cX5_fate 91 = .ok (.iaload, 1) := by decide +kernel
theorem dX5_fate_92 : decode cX5_fate 92 = .ok (.ireturn, 1) := by decide +kernel
theorem dX5_fate_93 : decode cX5_fate 93 = .ok (.aload_n 0, 1) := by decide +kernel
theorem dX5_fate_94 : decode cX5_fate 94 = .ok (.getfield 53, 3) := by decide +kernel
theorem dX5_fate_97 : decode cX5_fate 97 = .ok (.getfield 180, 3) := by decide +kernel
theorem dX5_fate_100 : decode cX5_fate 100 = .ok (.iload_n 1, 1) := by decide +kernel
theorem dX5_fate_101 : decode cX5_fate 101 = .ok (.iaload, 1) := by decide +kernel
theorem dX5_fate_102 : decode cX5_fate 102 = .ok (.ireturn, 1) := by decide +kernel
theorem dX5_where_0 : decode cX5_where 0 = .ok (.aload_n 0, 1) := by decide +kernel
theorem dX5_where_1 : decode cX5_where 1 = .ok (.getfield 28, 3) := by decide +kernel
theorem dX5_where_4 : decode cX5_where 4 = .ok (.iload_n 1, 1) := by decide +kernel
theorem dX5_where_5 : decode cX5_where 5 = .ok (.invokevirtual 126, 3) := by decide +kernel
theorem dX5_where_8 : decode cX5_where 8 = .ok (.ifCond .eq 22, 3) := by decide +kernel
theorem dX5_where_11 : decode cX5_where 11 = .ok (.iload_n 2, 1) := by decide +kernel
theorem dX5_where_12 : decode cX5_where 12 = .ok (.iconst 0, 1) := by decide +kernel
theorem dX5_where_13 : decode cX5_where 13 = .ok (.bipush 24, 2) := by decide +kernel
theorem dX5_where_15 : decode cX5_where 15 = .ok (.invokestatic 79, 3) := by decide +kernel
theorem dX5_where_18 : decode cX5_where 18 = .ok (.ifCond .eq 12, 3) := by decide +kernel
theorem dX5_where_21 : decode cX5_where 21 = .ok (.iload_n 3, 1) := by decide +kernel
theorem dX5_where_22 : decode cX5_where 22 = .ok (.iconst 0, 1) := by decide +kernel
theorem dX5_where_23 : decode cX5_where 23 = .ok (.iconst 2, 1) := by decide +kernel
theorem dX5_where_24 : decode cX5_where 24 = .ok (.invokestatic 79, 3) := by decide +kernel
theorem dX5_where_27 : decode cX5_where 27 = .ok (.ifCond .ne 5, 3) := by decide +kernel
theorem dX5_where_30 : decode cX5_where 30 = .ok (.iconst (-1), 1) := by decide +kernel
theorem dX5_where_31 : decode cX5_where 31 = .ok (.ireturn, 1) := by decide +kernel
theorem dX5_where_32 : decode cX5_where 32 = .ok (.aload_n 0, 1) := by decide +kernel
theorem dX5_where_33 : decode cX5_where 33 = .ok (.getfield 53, 3) := by decide +kernel
theorem dX5_where_36 : decode cX5_where 36 = .ok (.aload_n 0, 1) := by decide +kernel
theorem dX5_where_37 : decode cX5_where 37 = .ok (.getfield 28, 3) := by decide +kernel
theorem dX5_where_40 : decode cX5_where 40 = .ok (.iload_n 1, 1) := by decide +kernel
theorem dX5_where_41 : decode cX5_where 41 = .ok (.iload_n 2, 1) := by decide +kernel
theorem dX5_where_42 : decode cX5_where 42 = .ok (.invokevirtual 166, 3) := by decide +kernel
theorem dX5_where_45 : decode cX5_where 45 = .ok (.iload_n 3, 1) := by decide +kernel
theorem dX5_where_46 : decode cX5_where 46 = .ok (.lookupswitch 45 #[(0, 26), (1, 35)], 26) := by decide +kernel
theorem dX5_where_72 : decode cX5_where 72 = .ok (.aload_n 0, 1) := by decide +kernel
theorem dX5_where_73 : decode cX5_where 73 = .ok (.getfield 53, 3) := by decide +kernel
theorem dX5_where_76 : decode cX5_where 76 = .ok (.iload_n 1, 1) := by decide +kernel
theorem dX5_where_77 : decode cX5_where 77 = .ok (.invokevirtual 183, 3) := by decide +kernel
theorem dX5_where_80 : decode cX5_where 80 = .ok (.ireturn, 1) := by decide +kernel
theorem dX5_where_81 : decode cX5_where 81 = .ok (.aload_n 0, 1) := by decide +kernel
theorem dX5_where_82 : decode cX5_where 82 = .ok (.getfield 53, 3) := by decide +kernel
theorem dX5_where_85 : decode cX5_where 85 = .ok (.getfield 186, 3) := by decide +kernel
theorem dX5_where_88 : decode cX5_where 88 = .ok (.iload_n 1, 1) := by decide +kernel
theorem dX5_where_89 : decode cX5_where 89 = .ok (.iaload, 1) := by decide +kernel
theorem dX5_where_90 : decode cX5_where 90 = .ok (.ireturn, 1) := by decide +kernel
theorem dX5_where_91 : decode cX5_where 91 = .ok (.aload_n 0, 1) := by decide +kernel
theorem dX5_where_92 : decode cX5_where 92 = .ok (.getfield 53, 3) := by decide +kernel
theorem dX5_where_95 : decode cX5_where 95 = .ok (.iload_n 1, 1) := by decide +kernel
theorem dX5_where_96 : decode cX5_where 96 = .ok (.invokevirtual 170, 3) := by decide +kernel
theorem dX5_where_99 : decode cX5_where 99 = .ok (.ireturn, 1) := by decide +kernel
theorem dX5_has_0 : decode cX5_has 0 = .ok (.aload_n 0, 1) := by decide +kernel
theorem dX5_has_1 : decode cX5_has 1 = .ok (.getfield 28, 3) := by decide +kernel
theorem dX5_has_4 : decode cX5_has 4 = .ok (.iload_n 1, 1) := by decide +kernel
theorem dX5_has_5 : decode cX5_has 5 = .ok (.invokevirtual 136, 3) := by decide +kernel
theorem dX5_has_8 : decode cX5_has 8 = .ok (.ifCond .eq 12, 3) := by decide +kernel
theorem dX5_has_11 : decode cX5_has 11 = .ok (.iload_n 2, 1) := by decide +kernel
theorem dX5_has_12 : decode cX5_has 12 = .ok (.iconst 0, 1) := by decide +kernel
theorem dX5_has_13 : decode cX5_has 13 = .ok (.iconst 1, 1) := by decide +kernel
theorem dX5_has_14 : decode cX5_has 14 = .ok (.invokestatic 79, 3) := by decide +kernel
theorem dX5_has_17 : decode cX5_has 17 = .ok (.ifCond .ne 5, 3) := by decide +kernel
theorem dX5_has_20 : decode cX5_has 20 = .ok (.iconst (-1), 1) := by decide +kernel
theorem dX5_has_21 : decode cX5_has 21 = .ok (.ireturn, 1) := by decide +kernel
theorem dX5_has_22 : decode cX5_has 22 = .ok (.aload_n 0, 1) := by decide +kernel
theorem dX5_has_23 : decode cX5_has 23 = .ok (.getfield 53, 3) := by decide +kernel
theorem dX5_has_26 : decode cX5_has 26 = .ok (.aload_n 0, 1) := by decide +kernel
theorem dX5_has_27 : decode cX5_has 27 = .ok (.getfield 28, 3) := by decide +kernel
theorem dX5_has_30 : decode cX5_has 30 = .ok (.invokevirtual 189, 3) := by decide +kernel
theorem dX5_has_33 : decode cX5_has 33 = .ok (.iload_n 2, 1) := by decide +kernel
theorem dX5_has_34 : decode cX5_has 34 = .ok (.ifCond .ne 18, 3) := by decide +kernel
theorem dX5_has_37 : decode cX5_has 37 = .ok (.aload_n 0, 1) := by decide +kernel
theorem dX5_has_38 : decode cX5_has 38 = .ok (.getfield 53, 3) := by decide +kernel
theorem dX5_has_41 : decode cX5_has 41 = .ok (.aload_n 0, 1) := by decide +kernel
theorem dX5_has_42 : decode cX5_has 42 = .ok (.getfield 28, 3) := by decide +kernel
theorem dX5_has_45 : decode cX5_has 45 = .ok (.iload_n 1, 1) := by decide +kernel
theorem dX5_has_46 : decode cX5_has 46 = .ok (.invokevirtual 192, 3) := by decide +kernel
theorem dX5_has_49 : decode cX5_has 49 = .ok (.goto 15, 3) := by decide +kernel
theorem dX5_has_52 : decode cX5_has 52 = .ok (.aload_n 0, 1) := by decide +kernel
theorem dX5_has_53 : decode cX5_has 53 = .ok (.getfield 53, 3) := by decide +kernel
theorem dX5_has_56 : decode cX5_has 56 = .ok (.aload_n 0, 1) := by decide +kernel
theorem dX5_has_57 : decode cX5_has 57 = .ok (.getfield 28, 3) := by decide +kernel
theorem dX5_has_60 : decode cX5_has 60 = .ok (.iload_n 1, 1) := by decide +kernel
theorem dX5_has_61 : decode cX5_has 61 = .ok (.invokevirtual 196, 3) := by decide +kernel
theorem dX5_has_64 : decode cX5_has 64 = .ok (.ireturn, 1) := by decide +kernel
theorem dX5_all_0 : decode cX5_all 0 = .ok (.iload_n 1, 1) := by decide +kernel
theorem dX5_all_1 : decode cX5_all 1 = .ok (.iconst 0, 1) := by decide +kernel
theorem dX5_all_2 : decode cX5_all 2 = .ok (.iconst 4, 1) := by decide +kernel
theorem dX5_all_3 : decode cX5_all 3 = .ok (.invokestatic 79, 3) := by decide +kernel
theorem dX5_all_6 : decode cX5_all 6 = .ok (.ifCond .ne 5, 3) := by decide +kernel
theorem dX5_all_9 : decode cX5_all 9 = .ok (.iconst (-1), 1) := by decide +kernel
theorem dX5_all_10 : decode cX5_all 10 = .ok (.ireturn, 1) := by decide +kernel
theorem dX5_all_11 : decode cX5_all 11 = .ok (.aload_n 0, 1) := by decide +kernel
theorem dX5_all_12 : decode cX5_all 12 = .ok (.getfield 53, 3) := by decide +kernel
theorem dX5_all_15 : decode cX5_all 15 = .ok (.aload_n 0, 1) := by decide +kernel
theorem dX5_all_16 : decode cX5_all 16 = .ok (.getfield 28, 3) := by decide +kernel
theorem dX5_all_19 : decode cX5_all 19 = .ok (.invokevirtual 189, 3) := by decide +kernel
theorem dX5_all_22 : decode cX5_all 22 = .ok (.iload_n 1, 1) := by decide +kernel
theorem dX5_all_23 : decode cX5_all 23 = .ok (.iconst 4, 1) := by decide +kernel
theorem dX5_all_24 : decode cX5_all 24 = .ok (.if_icmp .ne 17, 3) := by decide +kernel
theorem dX5_all_27 : decode cX5_all 27 = .ok (.aload_n 0, 1) := by decide +kernel
theorem dX5_all_28 : decode cX5_all 28 = .ok (.getfield 53, 3) := by decide +kernel
theorem dX5_all_31 : decode cX5_all 31 = .ok (.aload_n 0, 1) := by decide +kernel
theorem dX5_all_32 : decode cX5_all 32 = .ok (.getfield 28, 3) := by decide +kernel
theorem dX5_all_35 : decode cX5_all 35 = .ok (.invokevirtual 199, 3) := by decide +kernel
theorem dX5_all_38 : decode cX5_all 38 = .ok (.goto 15, 3) := by decide +kernel
theorem dX5_all_41 : decode cX5_all 41 = .ok (.aload_n 0, 1) := by decide +kernel
theorem dX5_all_42 : decode cX5_all 42 = .ok (.getfield 53, 3) := by decide +kernel
theorem dX5_all_45 : decode cX5_all 45 = .ok (.aload_n 0, 1) := by decide +kernel
theorem dX5_all_46 : decode cX5_all 46 = .ok (.getfield 28, 3) := by decide +kernel
theorem dX5_all_49 : decode cX5_all 49 = .ok (.iload_n 1, 1) := by decide +kernel
theorem dX5_all_50 : decode cX5_all 50 = .ok (.invokevirtual 203, 3) := by decide +kernel
theorem dX5_all_53 : decode cX5_all 53 = .ok (.ireturn, 1) := by decide +kernel
theorem dX5_when_0 : decode cX5_when 0 = .ok (.aload_n 0, 1) := by decide +kernel
theorem dX5_when_1 : decode cX5_when 1 = .ok (.getfield 28, 3) := by decide +kernel
theorem dX5_when_4 : decode cX5_when 4 = .ok (.iload_n 1, 1) := by decide +kernel
theorem dX5_when_5 : decode cX5_when 5 = .ok (.invokevirtual 126, 3) := by decide +kernel
theorem dX5_when_8 : decode cX5_when 8 = .ok (.ifCond .eq 14, 3) := by decide +kernel
theorem dX5_when_11 : decode cX5_when 11 = .ok (.aload_n 0, 1) := by decide +kernel
theorem dX5_when_12 : decode cX5_when 12 = .ok (.getfield 28, 3) := by decide +kernel
theorem dX5_when_15 : decode cX5_when 15 = .ok (.iload_n 2, 1) := by decide +kernel
theorem dX5_when_16 : decode cX5_when 16 = .ok (.invokevirtual 136, 3) := by decide +kernel
theorem dX5_when_19 : decode cX5_when 19 = .ok (.ifCond .ne 5, 3) := by decide +kernel
theorem dX5_when_22 : decode cX5_when 22 = .ok (.iconst (-1), 1) := by decide +kernel
theorem dX5_when_23 : decode cX5_when 23 = .ok (.ireturn, 1) := by decide +kernel
theorem dX5_when_24 : decode cX5_when 24 = .ok (.aload_n 0, 1) := by decide +kernel
theorem dX5_when_25 : decode cX5_when 25 = .ok (.getfield 32, 3) := by decide +kernel
theorem dX5_when_28 : decode cX5_when 28 = .ok (.aload_n 0, 1) := by decide +kernel
theorem dX5_when_29 : decode cX5_when 29 = .ok (.getfield 28, 3) := by decide +kernel
theorem dX5_when_32 : decode cX5_when 32 = .ok (.invokevirtual 104, 3) := by decide +kernel
theorem dX5_when_35 : decode cX5_when 35 = .ok (.iconst 0, 1) := by decide +kernel
theorem dX5_when_36 : decode cX5_when 36 = .ok (.istore_n 3, 1) := by decide +kernel
theorem dX5_when_37 : decode cX5_when 37 = .ok (.iload_n 3, 1) := by decide +kernel
theorem dX5_when_38 : decode cX5_when 38 = .ok (.bipush 24, 2) := by decide +kernel
theorem dX5_when_40 : decode cX5_when 40 = .ok (.if_icmp .ge 37, 3) := by decide +kernel
theorem dX5_when_43 : decode cX5_when 43 = .ok (.aload_n 0, 1) := by decide +kernel
theorem dX5_when_44 : decode cX5_when 44 = .ok (.getfield 32, 3) := by decide +kernel
theorem dX5_when_47 : decode cX5_when 47 = .ok (.iload_n 1, 1) := by decide +kernel
theorem dX5_when_48 : decode cX5_when 48 = .ok (.iconst 3, 1) := by decide +kernel
theorem dX5_when_49 : decode cX5_when 49 = .ok (.iload_n 3, 1) := by decide +kernel
theorem dX5_when_50 : decode cX5_when 50 = .ok (.invokevirtual 152, 3) := by decide +kernel
theorem dX5_when_53 : decode cX5_when 53 = .ok (.aload_n 0, 1) := by decide +kernel
theorem dX5_when_54 : decode cX5_when 54 = .ok (.getfield 53, 3) := by decide +kernel
theorem dX5_when_57 : decode cX5_when 57 = .ok (.aload_n 0, 1) := by decide +kernel
theorem dX5_when_58 : decode cX5_when 58 = .ok (.getfield 32, 3) := by decide +kernel
theorem dX5_when_61 : decode cX5_when 61 = .ok (.iload_n 1, 1) := by decide +kernel
theorem dX5_when_62 : decode cX5_when 62 = .ok (.iload_n 2, 1) := by decide +kernel
theorem dX5_when_63 : decode cX5_when 63 = .ok (.invokevirtual 206, 3) := by decide +kernel
theorem dX5_when_66 : decode cX5_when 66 = .ok (.ifCond .eq 5, 3) := by decide +kernel
theorem dX5_when_69 : decode cX5_when 69 = .ok (.iload_n 3, 1) := by decide +kernel
theorem dX5_when_70 : decode cX5_when 70 = .ok (.ireturn, 1) := by decide +kernel
theorem dX5_when_71 : decode cX5_when 71 = .ok (.iinc 3 1, 3) := by decide +kernel
theorem dX5_when_74 : decode cX5_when 74 = .ok (.goto (-37), 3) := by decide +kernel
theorem dX5_when_77 : decode cX5_when 77 = .ok (.bipush (-4), 2) := by decide +kernel
theorem dX5_when_79 : decode cX5_when 79 = .ok (.ireturn, 1) := by decide +kernel
theorem dX5_aim_0 : decode cX5_aim 0 = .ok (.aload_n 0, 1) := by decide +kernel
theorem dX5_aim_1 : decode cX5_aim 1 = .ok (.getfield 28, 3) := by decide +kernel
theorem dX5_aim_4 : decode cX5_aim 4 = .ok (.iload_n 1, 1) := by decide +kernel
theorem dX5_aim_5 : decode cX5_aim 5 = .ok (.invokevirtual 126, 3) := by decide +kernel
theorem dX5_aim_8 : decode cX5_aim 8 = .ok (.ifCond .eq 14, 3) := by decide +kernel
theorem dX5_aim_11 : decode cX5_aim 11 = .ok (.aload_n 0, 1) := by decide +kernel
theorem dX5_aim_12 : decode cX5_aim 12 = .ok (.getfield 28, 3) := by decide +kernel
theorem dX5_aim_15 : decode cX5_aim 15 = .ok (.iload_n 2, 1) := by decide +kernel
theorem dX5_aim_16 : decode cX5_aim 16 = .ok (.invokevirtual 136, 3) := by decide +kernel
theorem dX5_aim_19 : decode cX5_aim 19 = .ok (.ifCond .ne 5, 3) := by decide +kernel
theorem dX5_aim_22 : decode cX5_aim 22 = .ok (.iconst (-1), 1) := by decide +kernel
theorem dX5_aim_23 : decode cX5_aim 23 = .ok (.ireturn, 1) := by decide +kernel
theorem dX5_aim_24 : decode cX5_aim 24 = .ok (.aload_n 0, 1) := by decide +kernel
theorem dX5_aim_25 : decode cX5_aim 25 = .ok (.getfield 32, 3) := by decide +kernel
theorem dX5_aim_28 : decode cX5_aim 28 = .ok (.aload_n 0, 1) := by decide +kernel
theorem dX5_aim_29 : decode cX5_aim 29 = .ok (.getfield 28, 3) := by decide +kernel
theorem dX5_aim_32 : decode cX5_aim 32 = .ok (.invokevirtual 104, 3) := by decide +kernel
theorem dX5_aim_35 : decode cX5_aim 35 = .ok (.getstatic 210, 3) := by decide +kernel
theorem dX5_aim_38 : decode cX5_aim 38 = .ok (.iconst 1, 1) := by decide +kernel
theorem dX5_aim_39 : decode cX5_aim 39 = .ok (.iaload, 1) := by decide +kernel
theorem dX5_aim_40 : decode cX5_aim 40 = .ok (.istore_n 3, 1) := by decide +kernel
theorem dX5_aim_41 : decode cX5_aim 41 = .ok (.iload_n 3, 1) := by decide +kernel
theorem dX5_aim_42 : decode cX5_aim 42 = .ok (.getstatic 213, 3) := by decide +kernel
theorem dX5_aim_45 : decode cX5_aim 45 = .ok (.iconst 1, 1) := by decide +kernel
theorem dX5_aim_46 : decode cX5_aim 46 = .ok (.iaload, 1) := by decide +kernel
theorem dX5_aim_47 : decode cX5_aim 47 = .ok (.if_icmp .gt 67, 3) := by decide +kernel
theorem dX5_aim_50 : decode cX5_aim 50 = .ok (.getstatic 210, 3) := by decide +kernel
theorem dX5_aim_53 : decode cX5_aim 53 = .ok (.iconst 2, 1) := by decide +kernel
theorem dX5_aim_54 : decode cX5_aim 54 = .ok (.iaload, 1) := by decide +kernel
theorem dX5_aim_55 : decode cX5_aim 55 = .ok (.istore 4, 2) := by decide +kernel
theorem dX5_aim_57 : decode cX5_aim 57 = .ok (.iload 4, 2) := by decide +kernel
theorem dX5_aim_59 : decode cX5_aim 59 = .ok (.getstatic 213, 3) := by decide +kernel
theorem dX5_aim_62 : decode cX5_aim 62 = .ok (.iconst 2, 1) := by decide +kernel
theorem dX5_aim_63 : decode cX5_aim 63 = .ok (.iaload, 1) := by decide +kernel
theorem dX5_aim_64 : decode cX5_aim 64 = .ok (.if_icmp .gt 44, 3) := by decide +kernel
theorem dX5_aim_67 : decode cX5_aim 67 = .ok (.aload_n 0, 1) := by decide +kernel
theorem dX5_aim_68 : decode cX5_aim 68 = .ok (.getfield 32, 3) := by decide +kernel
theorem dX5_aim_71 : decode cX5_aim 71 = .ok (.iload_n 1, 1) := by decide +kernel
theorem dX5_aim_72 : decode cX5_aim 72 = .ok (.iload_n 3, 1) := by decide +kernel
theorem dX5_aim_73 : decode cX5_aim 73 = .ok (.iload 4, 2) := by decide +kernel
theorem dX5_aim_75 : decode cX5_aim 75 = .ok (.invokevirtual 216, 3) := by decide +kernel
theorem dX5_aim_78 : decode cX5_aim 78 = .ok (.aload_n 0, 1) := by decide +kernel
theorem dX5_aim_79 : decode cX5_aim 79 = .ok (.getfield 53, 3) := by decide +kernel
theorem dX5_aim_82 : decode cX5_aim 82 = .ok (.aload_n 0, 1) := by decide +kernel
theorem dX5_aim_83 : decode cX5_aim 83 = .ok (.getfield 32, 3) := by decide +kernel
theorem dX5_aim_86 : decode cX5_aim 86 = .ok (.iload_n 1, 1) := by decide +kernel
theorem dX5_aim_87 : decode cX5_aim 87 = .ok (.iload_n 2, 1) := by decide +kernel
theorem dX5_aim_88 : decode cX5_aim 88 = .ok (.invokevirtual 206, 3) := by decide +kernel
theorem dX5_aim_91 : decode cX5_aim 91 = .ok (.ifCond .eq 11, 3) := by decide +kernel
theorem dX5_aim_94 : decode cX5_aim 94 = .ok (.bipush 10, 2) := by decide +kernel
theorem dX5_aim_96 : decode cX5_aim 96 = .ok (.iload_n 3, 1) := by decide +kernel
theorem dX5_aim_97 : decode cX5_aim 97 = .ok (.imul, 1) := by decide +kernel
theorem dX5_aim_98 : decode cX5_aim 98 = .ok (.iload 4, 2) := by decide +kernel
theorem dX5_aim_100 : decode cX5_aim 100 = .ok (.iadd, 1) := by decide +kernel
theorem dX5_aim_101 : decode cX5_aim 101 = .ok (.ireturn, 1) := by decide +kernel
theorem dX5_aim_102 : decode cX5_aim 102 = .ok (.iinc 4 1, 3) := by decide +kernel
theorem dX5_aim_105 : decode cX5_aim 105 = .ok (.goto (-48), 3) := by decide +kernel
theorem dX5_aim_108 : decode cX5_aim 108 = .ok (.iinc 3 1, 3) := by decide +kernel
theorem dX5_aim_111 : decode cX5_aim 111 = .ok (.goto (-70), 3) := by decide +kernel
theorem dX5_aim_114 : decode cX5_aim 114 = .ok (.bipush (-4), 2) := by decide +kernel
theorem dX5_aim_116 : decode cX5_aim 116 = .ok (.ireturn, 1) := by decide +kernel
theorem dX5_ways_0 : decode cX5_ways 0 = .ok (.aload_n 0, 1) := by decide +kernel
theorem dX5_ways_1 : decode cX5_ways 1 = .ok (.getfield 28, 3) := by decide +kernel
theorem dX5_ways_4 : decode cX5_ways 4 = .ok (.iload_n 1, 1) := by decide +kernel
theorem dX5_ways_5 : decode cX5_ways 5 = .ok (.invokevirtual 126, 3) := by decide +kernel
theorem dX5_ways_8 : decode cX5_ways 8 = .ok (.ifCond .eq 12, 3) := by decide +kernel
theorem dX5_ways_11 : decode cX5_ways 11 = .ok (.iload_n 2, 1) := by decide +kernel
theorem dX5_ways_12 : decode cX5_ways 12 = .ok (.iconst 0, 1) := by decide +kernel
theorem dX5_ways_13 : decode cX5_ways 13 = .ok (.iconst 3, 1) := by decide +kernel
theorem dX5_ways_14 : decode cX5_ways 14 = .ok (.invokestatic 79, 3) := by decide +kernel
theorem dX5_ways_17 : decode cX5_ways 17 = .ok (.ifCond .ne 5, 3) := by decide +kernel
theorem dX5_ways_20 : decode cX5_ways 20 = .ok (.iconst (-1), 1) := by decide +kernel
theorem dX5_ways_21 : decode cX5_ways 21 = .ok (.ireturn, 1) := by decide +kernel
theorem dX5_ways_22 : decode cX5_ways 22 = .ok (.aload_n 0, 1) := by decide +kernel
theorem dX5_ways_23 : decode cX5_ways 23 = .ok (.getfield 32, 3) := by decide +kernel
theorem dX5_ways_26 : decode cX5_ways 26 = .ok (.aload_n 0, 1) := by decide +kernel
theorem dX5_ways_27 : decode cX5_ways 27 = .ok (.getfield 28, 3) := by decide +kernel
theorem dX5_ways_30 : decode cX5_ways 30 = .ok (.invokevirtual 104, 3) := by decide +kernel
theorem dX5_ways_33 : decode cX5_ways 33 = .ok (.iconst 0, 1) := by decide +kernel
theorem dX5_ways_34 : decode cX5_ways 34 = .ok (.istore_n 3, 1) := by decide +kernel
theorem dX5_ways_35 : decode cX5_ways 35 = .ok (.getstatic 210, 3) := by decide +kernel
theorem dX5_ways_38 : decode cX5_ways 38 = .ok (.iconst 1, 1) := by decide +kernel
theorem dX5_ways_39 : decode cX5_ways 39 = .ok (.iaload, 1) := by decide +kernel
theorem dX5_ways_40 : decode cX5_ways 40 = .ok (.istore 4, 2) := by decide +kernel
theorem dX5_ways_42 : decode cX5_ways 42 = .ok (.iload 4, 2) := by decide +kernel
theorem dX5_ways_44 : decode cX5_ways 44 = .ok (.getstatic 213, 3) := by decide +kernel
theorem dX5_ways_47 : decode cX5_ways 47 = .ok (.iconst 1, 1) := by decide +kernel
theorem dX5_ways_48 : decode cX5_ways 48 = .ok (.iaload, 1) := by decide +kernel
theorem dX5_ways_49 : decode cX5_ways 49 = .ok (.if_icmp .gt 73, 3) := by decide +kernel
theorem dX5_ways_52 : decode cX5_ways 52 = .ok (.getstatic 210, 3) := by decide +kernel
theorem dX5_ways_55 : decode cX5_ways 55 = .ok (.iconst 2, 1) := by decide +kernel
theorem dX5_ways_56 : decode cX5_ways 56 = .ok (.iaload, 1) := by decide +kernel
theorem dX5_ways_57 : decode cX5_ways 57 = .ok (.istore 5, 2) := by decide +kernel
theorem dX5_ways_59 : decode cX5_ways 59 = .ok (.iload 5, 2) := by decide +kernel
theorem dX5_ways_61 : decode cX5_ways 61 = .ok (.getstatic 213, 3) := by decide +kernel
theorem dX5_ways_64 : decode cX5_ways 64 = .ok (.iconst 2, 1) := by decide +kernel
theorem dX5_ways_65 : decode cX5_ways 65 = .ok (.iaload, 1) := by decide +kernel
theorem dX5_ways_66 : decode cX5_ways 66 = .ok (.if_icmp .gt 50, 3) := by decide +kernel
theorem dX5_ways_69 : decode cX5_ways 69 = .ok (.aload_n 0, 1) := by decide +kernel
theorem dX5_ways_70 : decode cX5_ways 70 = .ok (.getfield 32, 3) := by decide +kernel
theorem dX5_ways_73 : decode cX5_ways 73 = .ok (.iload_n 1, 1) := by decide +kernel
theorem dX5_ways_74 : decode cX5_ways 74 = .ok (.iload 4, 2) := by decide +kernel
theorem dX5_ways_76 : decode cX5_ways 76 = .ok (.iload 5, 2) := by decide +kernel
theorem dX5_ways_78 : decode cX5_ways 78 = .ok (.invokevirtual 216, 3) := by decide +kernel
theorem dX5_ways_81 : decode cX5_ways 81 = .ok (.aload_n 0, 1) := by decide +kernel
theorem dX5_ways_82 : decode cX5_ways 82 = .ok (.getfield 53, 3) := by decide +kernel
theorem dX5_ways_85 : decode cX5_ways 85 = .ok (.aload_n 0, 1) := by decide +kernel
theorem dX5_ways_86 : decode cX5_ways 86 = .ok (.getfield 32, 3) := by decide +kernel
theorem dX5_ways_89 : decode cX5_ways 89 = .ok (.iload_n 1, 1) := by decide +kernel
theorem dX5_ways_90 : decode cX5_ways 90 = .ok (.bipush 24, 2) := by decide +kernel
theorem dX5_ways_92 : decode cX5_ways 92 = .ok (.invokevirtual 166, 3) := by decide +kernel
theorem dX5_ways_95 : decode cX5_ways 95 = .ok (.aload_n 0, 1) := by decide +kernel
theorem dX5_ways_96 : decode cX5_ways 96 = .ok (.getfield 53, 3) := by decide +kernel
theorem dX5_ways_99 : decode cX5_ways 99 = .ok (.iload_n 1, 1) := by decide +kernel
theorem dX5_ways_100 : decode cX5_ways 100 = .ok (.invokevirtual 170, 3) := by decide +kernel
theorem dX5_ways_103 : decode cX5_ways 103 = .ok (.iload_n 2, 1) := by decide +kernel
theorem dX5_ways_104 : decode cX5_ways 104 = .ok (.if_icmp .ne 6, 3) := by decide +kernel
theorem dX5_ways_107 : decode cX5_ways 107 = .ok (.iinc 3 1, 3) := by decide +kernel
theorem dX5_ways_110 : decode cX5_ways 110 = .ok (.iinc 5 1, 3) := by decide +kernel
theorem dX5_ways_113 : decode cX5_ways 113 = .ok (.goto (-54), 3) := by decide +kernel
theorem dX5_ways_116 : decode cX5_ways 116 = .ok (.iinc 4 1, 3) := by decide +kernel
theorem dX5_ways_119 : decode cX5_ways 119 = .ok (.goto (-77), 3) := by decide +kernel
theorem dX5_ways_122 : decode cX5_ways 122 = .ok (.iload_n 3, 1) := by decide +kernel
theorem dX5_ways_123 : decode cX5_ways 123 = .ok (.ireturn, 1) := by decide +kernel
theorem dX5_place_0 : decode cX5_place 0 = .ok (.aload_n 0, 1) := by decide +kernel
theorem dX5_place_1 : decode cX5_place 1 = .ok (.getfield 28, 3) := by decide +kernel
theorem dX5_place_4 : decode cX5_place 4 = .ok (.iload_n 1, 1) := by decide +kernel
theorem dX5_place_5 : decode cX5_place 5 = .ok (.invokevirtual 136, 3) := by decide +kernel
theorem dX5_place_8 : decode cX5_place 8 = .ok (.ifCond .eq 12, 3) := by decide +kernel
theorem dX5_place_11 : decode cX5_place 11 = .ok (.iload_n 2, 1) := by decide +kernel
theorem dX5_place_12 : decode cX5_place 12 = .ok (.iconst 0, 1) := by decide +kernel
theorem dX5_place_13 : decode cX5_place 13 = .ok (.iconst 1, 1) := by decide +kernel
theorem dX5_place_14 : decode cX5_place 14 = .ok (.invokestatic 79, 3) := by decide +kernel
theorem dX5_place_17 : decode cX5_place 17 = .ok (.ifCond .ne 5, 3) := by decide +kernel
theorem dX5_place_20 : decode cX5_place 20 = .ok (.iconst (-1), 1) := by decide +kernel
theorem dX5_place_21 : decode cX5_place 21 = .ok (.ireturn, 1) := by decide +kernel
theorem dX5_place_22 : decode cX5_place 22 = .ok (.aload_n 0, 1) := by decide +kernel
theorem dX5_place_23 : decode cX5_place 23 = .ok (.getfield 32, 3) := by decide +kernel
theorem dX5_place_26 : decode cX5_place 26 = .ok (.aload_n 0, 1) := by decide +kernel
theorem dX5_place_27 : decode cX5_place 27 = .ok (.getfield 28, 3) := by decide +kernel
theorem dX5_place_30 : decode cX5_place 30 = .ok (.invokevirtual 104, 3) := by decide +kernel
theorem dX5_place_33 : decode cX5_place 33 = .ok (.aload_n 0, 1) := by decide +kernel
theorem dX5_place_34 : decode cX5_place 34 = .ok (.getfield 53, 3) := by decide +kernel
theorem dX5_place_37 : decode cX5_place 37 = .ok (.aload_n 0, 1) := by decide +kernel
theorem dX5_place_38 : decode cX5_place 38 = .ok (.getfield 32, 3) := by decide +kernel
theorem dX5_place_41 : decode cX5_place 41 = .ok (.invokevirtual 219, 3) := by decide +kernel
theorem dX5_place_44 : decode cX5_place 44 = .ok (.iconst 0, 1) := by decide +kernel
theorem dX5_place_45 : decode cX5_place 45 = .ok (.istore_n 3, 1) := by decide +kernel
theorem dX5_place_46 : decode cX5_place 46 = .ok (.iconst (-1), 1) := by decide +kernel
theorem dX5_place_47 : decode cX5_place 47 = .ok (.istore 4, 2) := by decide +kernel
theorem dX5_place_49 : decode cX5_place 49 = .ok (.iconst 0, 1) := by decide +kernel
theorem dX5_place_50 : decode cX5_place 50 = .ok (.istore 5, 2) := by decide +kernel
theorem dX5_place_52 : decode cX5_place 52 = .ok (.iload 5, 2) := by decide +kernel
theorem dX5_place_54 : decode cX5_place 54 = .ok (.bipush 10, 2) := by decide +kernel
theorem dX5_place_56 : decode cX5_place 56 = .ok (.if_icmp .ge 59, 3) := by decide +kernel
theorem dX5_place_59 : decode cX5_place 59 = .ok (.aload_n 0, 1) := by decide +kernel
theorem dX5_place_60 : decode cX5_place 60 = .ok (.getfield 32, 3) := by decide +kernel
theorem dX5_place_63 : decode cX5_place 63 = .ok (.iload_n 1, 1) := by decide +kernel
theorem dX5_place_64 : decode cX5_place 64 = .ok (.iconst 0, 1) := by decide +kernel
theorem dX5_place_65 : decode cX5_place 65 = .ok (.iload 5, 2) := by decide +kernel
theorem dX5_place_67 : decode cX5_place 67 = .ok (.invokevirtual 159, 3) := by decide +kernel
theorem dX5_place_70 : decode cX5_place 70 = .ok (.aload_n 0, 1) := by decide +kernel
theorem dX5_place_71 : decode cX5_place 71 = .ok (.getfield 53, 3) := by decide +kernel
theorem dX5_place_74 : decode cX5_place 74 = .ok (.aload_n 0, 1) := by decide +kernel
theorem dX5_place_75 : decode cX5_place 75 = .ok (.getfield 32, 3) := by decide +kernel
theorem dX5_place_78 : decode cX5_place 78 = .ok (.invokevirtual 222, 3) := by decide +kernel
theorem dX5_place_81 : decode cX5_place 81 = .ok (.aload_n 0, 1) := by decide +kernel
theorem dX5_place_82 : decode cX5_place 82 = .ok (.getfield 53, 3) := by decide +kernel
theorem dX5_place_85 : decode cX5_place 85 = .ok (.aload_n 0, 1) := by decide +kernel
theorem dX5_place_86 : decode cX5_place 86 = .ok (.getfield 32, 3) := by decide +kernel
theorem dX5_place_89 : decode cX5_place 89 = .ok (.iload_n 1, 1) := by decide +kernel
theorem dX5_place_90 : decode cX5_place 90 = .ok (.invokevirtual 192, 3) := by decide +kernel
theorem dX5_place_93 : decode cX5_place 93 = .ok (.istore 6, 2) := by decide +kernel
theorem dX5_place_95 : decode cX5_place 95 = .ok (.iload 6, 2) := by decide +kernel
theorem dX5_place_97 : decode cX5_place 97 = .ok (.iload 4, 2) := by decide +kernel
theorem dX5_place_99 : decode cX5_place 99 = .ok (.if_icmp .le 10, 3) := by decide +kernel
theorem dX5_place_102 : decode cX5_place 102 = .ok (.iload 6, 2) := by decide +kernel
theorem dX5_place_104 : decode cX5_place 104 = .ok (.istore 4, 2) := by decide +kernel
theorem dX5_place_106 : decode cX5_place 106 = .ok (.iload 5, 2) := by decide +kernel
theorem dX5_place_108 : decode cX5_place 108 = .ok (.istore_n 3, 1) := by decide +kernel
theorem dX5_place_109 : decode cX5_place 109 = .ok (.iinc 5 1, 3) := by decide +kernel
theorem dX5_place_112 : decode cX5_place 112 = .ok (.goto (-60), 3) := by decide +kernel
theorem dX5_place_115 : decode cX5_place 115 = .ok (.iload_n 2, 1) := by decide +kernel
theorem dX5_place_116 : decode cX5_place 116 = .ok (.ifCond .ne 7, 3) := by decide +kernel
theorem dX5_place_119 : decode cX5_place 119 = .ok (.iload_n 3, 1) := by decide +kernel
theorem dX5_place_120 : decode cX5_place 120 = .ok (.goto 5, 3) := by decide +kernel
theorem dX5_place_123 : decode cX5_place 123 = .ok (.iload 4, 2) := by decide +kernel
theorem dX5_place_125 : decode cX5_place 125 = .ok (.ireturn, 1) := by decide +kernel
theorem dX5_hook_0 : decode cX5_hook 0 = .ok (.aload_n 0, 1) := by decide +kernel
theorem dX5_hook_1 : decode cX5_hook 1 = .ok (.getfield 28, 3) := by decide +kernel
theorem dX5_hook_4 : decode cX5_hook 4 = .ok (.iload_n 1, 1) := by decide +kernel
theorem dX5_hook_5 : decode cX5_hook 5 = .ok (.invokevirtual 136, 3) := by decide +kernel
theorem dX5_hook_8 : decode cX5_hook 8 = .ok (.ifCond .eq 14, 3) := by decide +kernel
theorem dX5_hook_11 : decode cX5_hook 11 = .ok (.iload_n 2, 1) := by decide +kernel
theorem dX5_hook_12 : decode cX5_hook 12 = .ok (.iconst 1, 1) := by decide +kernel
theorem dX5_hook_13 : decode cX5_hook 13 = .ok (.sipush 400, 3) := by decide +kernel
theorem dX5_hook_16 : decode cX5_hook 16 = .ok (.invokestatic 79, 3) := by decide +kernel
theorem dX5_hook_19 : decode cX5_hook 19 = .ok (.ifCond .ne 5, 3) := by decide +kernel
theorem dX5_hook_22 : decode cX5_hook 22 = .ok (.iconst (-1), 1) := by decide +kernel
theorem dX5_hook_23 : decode cX5_hook 23 = .ok (.ireturn, 1) := by decide +kernel
theorem dX5_hook_24 : decode cX5_hook 24 = .ok (.aload_n 0, 1) := by decide +kernel
theorem dX5_hook_25 : decode cX5_hook 25 = .ok (.getfield 32, 3) := by decide +kernel
theorem dX5_hook_28 : decode cX5_hook 28 = .ok (.aload_n 0, 1) := by decide +kernel
theorem dX5_hook_29 : decode cX5_hook 29 = .ok (.getfield 28, 3) := by decide +kernel
theorem dX5_hook_32 : decode cX5_hook 32 = .ok (.invokevirtual 104, 3) := by decide +kernel
theorem dX5_hook_35 : decode cX5_hook 35 = .ok (.aload_n 0, 1) := by decide +kernel
theorem dX5_hook_36 : decode cX5_hook 36 = .ok (.getfield 53, 3) := by decide +kernel
theorem dX5_hook_39 : decode cX5_hook 39 = .ok (.aload_n 0, 1) := by decide +kernel
theorem dX5_hook_40 : decode cX5_hook 40 = .ok (.getfield 32, 3) := by decide +kernel
theorem dX5_hook_43 : decode cX5_hook 43 = .ok (.invokevirtual 219, 3) := by decide +kernel
theorem dX5_hook_46 : decode cX5_hook 46 = .ok (.iconst 0, 1) := by decide +kernel
theorem dX5_hook_47 : decode cX5_hook 47 = .ok (.istore_n 3, 1) := by decide +kernel
theorem dX5_hook_48 : decode cX5_hook 48 = .ok (.iload_n 3, 1) := by decide +kernel
theorem dX5_hook_49 : decode cX5_hook 49 = .ok (.getstatic 225, 3) := by decide +kernel
theorem dX5_hook_52 : decode cX5_hook 52 = .ok (.iconst 3, 1) := by decide +kernel
theorem dX5_hook_53 : decode cX5_hook 53 = .ok (.iaload, 1) := by decide +kernel
theorem dX5_hook_54 : decode cX5_hook 54 = .ok (.if_icmp .gt 48, 3) := by decide +kernel
theorem dX5_hook_57 : decode cX5_hook 57 = .ok (.aload_n 0, 1) := by decide +kernel
theorem dX5_hook_58 : decode cX5_hook 58 = .ok (.getfield 32, 3) := by decide +kernel
theorem dX5_hook_61 : decode cX5_hook 61 = .ok (.iload_n 1, 1) := by decide +kernel
theorem dX5_hook_62 : decode cX5_hook 62 = .ok (.iconst 3, 1) := by decide +kernel
theorem dX5_hook_63 : decode cX5_hook 63 = .ok (.iload_n 3, 1) := by decide +kernel
theorem dX5_hook_64 : decode cX5_hook 64 = .ok (.invokevirtual 159, 3) := by decide +kernel
theorem dX5_hook_67 : decode cX5_hook 67 = .ok (.aload_n 0, 1) := by decide +kernel
theorem dX5_hook_68 : decode cX5_hook 68 = .ok (.getfield 53, 3) := by decide +kernel
theorem dX5_hook_71 : decode cX5_hook 71 = .ok (.aload_n 0, 1) := by decide +kernel
theorem dX5_hook_72 : decode cX5_hook 72 = .ok (.getfield 32, 3) := by decide +kernel
theorem dX5_hook_75 : decode cX5_hook 75 = .ok (.invokevirtual 222, 3) := by decide +kernel
theorem dX5_hook_78 : decode cX5_hook 78 = .ok (.aload_n 0, 1) := by decide +kernel
theorem dX5_hook_79 : decode cX5_hook 79 = .ok (.getfield 53, 3) := by decide +kernel
theorem dX5_hook_82 : decode cX5_hook 82 = .ok (.aload_n 0, 1) := by decide +kernel
theorem dX5_hook_83 : decode cX5_hook 83 = .ok (.getfield 32, 3) := by decide +kernel
theorem dX5_hook_86 : decode cX5_hook 86 = .ok (.iload_n 1, 1) := by decide +kernel
theorem dX5_hook_87 : decode cX5_hook 87 = .ok (.invokevirtual 192, 3) := by decide +kernel
theorem dX5_hook_90 : decode cX5_hook 90 = .ok (.iload_n 2, 1) := by decide +kernel
theorem dX5_hook_91 : decode cX5_hook 91 = .ok (.if_icmp .lt 5, 3) := by decide +kernel
theorem dX5_hook_94 : decode cX5_hook 94 = .ok (.iload_n 3, 1) := by decide +kernel
theorem dX5_hook_95 : decode cX5_hook 95 = .ok (.ireturn, 1) := by decide +kernel
theorem dX5_hook_96 : decode cX5_hook 96 = .ok (.iinc 3 1, 3) := by decide +kernel
theorem dX5_hook_99 : decode cX5_hook 99 = .ok (.goto (-51), 3) := by decide +kernel
theorem dX5_hook_102 : decode cX5_hook 102 = .ok (.bipush (-4), 2) := by decide +kernel
theorem dX5_hook_104 : decode cX5_hook 104 = .ok (.ireturn, 1) := by decide +kernel
theorem dX5_fire_0 : decode cX5_fire 0 = .ok (.aload_n 0, 1) := by decide +kernel
theorem dX5_fire_1 : decode cX5_fire 1 = .ok (.getfield 28, 3) := by decide +kernel
theorem dX5_fire_4 : decode cX5_fire 4 = .ok (.iload_n 1, 1) := by decide +kernel
theorem dX5_fire_5 : decode cX5_fire 5 = .ok (.invokevirtual 136, 3) := by decide +kernel
theorem dX5_fire_8 : decode cX5_fire 8 = .ok (.ifCond .eq 12, 3) := by decide +kernel
theorem dX5_fire_11 : decode cX5_fire 11 = .ok (.iload_n 2, 1) := by decide +kernel
theorem dX5_fire_12 : decode cX5_fire 12 = .ok (.iconst 0, 1) := by decide +kernel
theorem dX5_fire_13 : decode cX5_fire 13 = .ok (.iconst 1, 1) := by decide +kernel
theorem dX5_fire_14 : decode cX5_fire 14 = .ok (.invokestatic 79, 3) := by decide +kernel
theorem dX5_fire_17 : decode cX5_fire 17 = .ok (.ifCond .ne 5, 3) := by decide +kernel
theorem dX5_fire_20 : decode cX5_fire 20 = .ok (.iconst (-1), 1) := by decide +kernel
theorem dX5_fire_21 : decode cX5_fire 21 = .ok (.ireturn, 1) := by decide +kernel
theorem dX5_fire_22 : decode cX5_fire 22 = .ok (.aload_n 0, 1) := by decide +kernel
theorem dX5_fire_23 : decode cX5_fire 23 = .ok (.getfield 32, 3) := by decide +kernel
theorem dX5_fire_26 : decode cX5_fire 26 = .ok (.aload_n 0, 1) := by decide +kernel
theorem dX5_fire_27 : decode cX5_fire 27 = .ok (.getfield 28, 3) := by decide +kernel
theorem dX5_fire_30 : decode cX5_fire 30 = .ok (.invokevirtual 104, 3) := by decide +kernel
theorem dX5_fire_33 : decode cX5_fire 33 = .ok (.aload_n 0, 1) := by decide +kernel
theorem dX5_fire_34 : decode cX5_fire 34 = .ok (.getfield 53, 3) := by decide +kernel
theorem dX5_fire_37 : decode cX5_fire 37 = .ok (.aload_n 0, 1) := by decide +kernel
theorem dX5_fire_38 : decode cX5_fire 38 = .ok (.getfield 32, 3) := by decide +kernel
theorem dX5_fire_41 : decode cX5_fire 41 = .ok (.invokevirtual 189, 3) := by decide +kernel
theorem dX5_fire_44 : decode cX5_fire 44 = .ok (.bipush (-4), 2) := by decide +kernel
theorem dX5_fire_46 : decode cX5_fire 46 = .ok (.istore_n 3, 1) := by decide +kernel
theorem dX5_fire_47 : decode cX5_fire 47 = .ok (.aload_n 0, 1) := by decide +kernel
theorem dX5_fire_48 : decode cX5_fire 48 = .ok (.getfield 53, 3) := by decide +kernel
theorem dX5_fire_51 : decode cX5_fire 51 = .ok (.aload_n 0, 1) := by decide +kernel
theorem dX5_fire_52 : decode cX5_fire 52 = .ok (.getfield 32, 3) := by decide +kernel
theorem dX5_fire_55 : decode cX5_fire 55 = .ok (.iload_n 1, 1) := by decide +kernel
theorem dX5_fire_56 : decode cX5_fire 56 = .ok (.invokevirtual 192, 3) := by decide +kernel
theorem dX5_fire_59 : decode cX5_fire 59 = .ok (.istore 4, 2) := by decide +kernel
theorem dX5_fire_61 : decode cX5_fire 61 = .ok (.iconst 0, 1) := by decide +kernel
theorem dX5_fire_62 : decode cX5_fire 62 = .ok (.istore 5, 2) := by decide +kernel
theorem dX5_fire_64 : decode cX5_fire 64 = .ok (.iload 5, 2) := by decide +kernel
theorem dX5_fire_66 : decode cX5_fire 66 = .ok (.bipush 24, 2) := by decide +kernel
theorem dX5_fire_68 : decode cX5_fire 68 = .ok (.if_icmp .ge 101, 3) := by decide +kernel
theorem dX5_fire_71 : decode cX5_fire 71 = .ok (.iconst 1, 1) := by decide +kernel
theorem dX5_fire_72 : decode cX5_fire 72 = .ok (.istore 6, 2) := by decide +kernel
theorem dX5_fire_74 : decode cX5_fire 74 = .ok (.iload 6, 2) := by decide +kernel
theorem dX5_fire_76 : decode cX5_fire 76 = .ok (.iconst 5, 1) := by decide +kernel
theorem dX5_fire_77 : decode cX5_fire 77 = .ok (.if_icmp .ge 66, 3) := by decide +kernel
theorem dX5_fire_80 : decode cX5_fire 80 = .ok (.aload_n 0, 1) := by decide +kernel
theorem dX5_fire_81 : decode cX5_fire 81 = .ok (.getfield 32, 3) := by decide +kernel
theorem dX5_fire_84 : decode cX5_fire 84 = .ok (.getfield 145, 3) := by decide +kernel
theorem dX5_fire_87 : decode cX5_fire 87 = .ok (.iload 5, 2) := by decide +kernel
theorem dX5_fire_89 : decode cX5_fire 89 = .ok (.iload 6, 2) := by decide +kernel
theorem dX5_fire_91 : decode cX5_fire 91 = .ok (.iastore, 1) := by decide +kernel
theorem dX5_fire_92 : decode cX5_fire 92 = .ok (.aload_n 0, 1) := by decide +kernel
theorem dX5_fire_93 : decode cX5_fire 93 = .ok (.getfield 53, 3) := by decide +kernel
theorem dX5_fire_96 : decode cX5_fire 96 = .ok (.aload_n 0, 1) := by decide +kernel
theorem dX5_fire_97 : decode cX5_fire 97 = .ok (.getfield 32, 3) := by decide +kernel
theorem dX5_fire_100 : decode cX5_fire 100 = .ok (.invokevirtual 189, 3) := by decide +kernel
theorem dX5_fire_103 : decode cX5_fire 103 = .ok (.aload_n 0, 1) := by decide +kernel
theorem dX5_fire_104 : decode cX5_fire 104 = .ok (.getfield 53, 3) := by decide +kernel
theorem dX5_fire_107 : decode cX5_fire 107 = .ok (.aload_n 0, 1) := by decide +kernel
theorem dX5_fire_108 : decode cX5_fire 108 = .ok (.getfield 32, 3) := by decide +kernel
theorem dX5_fire_111 : decode cX5_fire 111 = .ok (.iload_n 1, 1) := by decide +kernel
theorem dX5_fire_112 : decode cX5_fire 112 = .ok (.invokevirtual 192, 3) := by decide +kernel
theorem dX5_fire_115 : decode cX5_fire 115 = .ok (.istore 7, 2) := by decide +kernel
theorem dX5_fire_117 : decode cX5_fire 117 = .ok (.iload 7, 2) := by decide +kernel
theorem dX5_fire_119 : decode cX5_fire 119 = .ok (.iload 4, 2) := by decide +kernel
theorem dX5_fire_121 : decode cX5_fire 121 = .ok (.if_icmp .le 16, 3) := by decide +kernel
theorem dX5_fire_124 : decode cX5_fire 124 = .ok (.iload 7, 2) := by decide +kernel
theorem dX5_fire_126 : decode cX5_fire 126 = .ok (.istore 4, 2) := by decide +kernel
theorem dX5_fire_128 : decode cX5_fire 128 = .ok (.bipush 10, 2) := by decide +kernel
theorem dX5_fire_130 : decode cX5_fire 130 = .ok (.iload 5, 2) := by decide +kernel
theorem dX5_fire_132 : decode cX5_fire 132 = .ok (.imul, 1) := by decide +kernel
theorem dX5_fire_133 : decode cX5_fire 133 = .ok (.iload 6, 2) := by decide +kernel
theorem dX5_fire_135 : decode cX5_fire 135 = .ok (.iadd, 1) := by decide +kernel
theorem dX5_fire_136 : decode cX5_fire 136 = .ok (.istore_n 3, 1) := by decide +kernel
theorem dX5_fire_137 : decode cX5_fire 137 = .ok (.iinc 6 1, 3) := by decide +kernel
theorem dX5_fire_140 : decode cX5_fire 140 = .ok (.goto (-66), 3) := by decide +kernel
theorem dX5_fire_143 : decode cX5_fire 143 = .ok (.aload_n 0, 1) := by decide +kernel
theorem dX5_fire_144 : decode cX5_fire 144 = .ok (.getfield 32, 3) := by decide +kernel
theorem dX5_fire_147 : decode cX5_fire 147 = .ok (.getfield 145, 3) := by decide +kernel
theorem dX5_fire_150 : decode cX5_fire 150 = .ok (.iload 5, 2) := by decide +kernel
theorem dX5_fire_152 : decode cX5_fire 152 = .ok (.aload_n 0, 1) := by decide +kernel
theorem dX5_fire_153 : decode cX5_fire 153 = .ok (.getfield 28, 3) := by decide +kernel
theorem dX5_fire_156 : decode cX5_fire 156 = .ok (.getfield 145, 3) := by decide +kernel
theorem dX5_fire_159 : decode cX5_fire 159 = .ok (.iload 5, 2) := by decide +kernel
theorem dX5_fire_161 : decode cX5_fire 161 = .ok (.iaload, 1) := by decide +kernel
theorem dX5_fire_162 : decode cX5_fire 162 = .ok (.iastore, 1) := by decide +kernel
theorem dX5_fire_163 : decode cX5_fire 163 = .ok (.iinc 5 1, 3) := by decide +kernel
theorem dX5_fire_166 : decode cX5_fire 166 = .ok (.goto (-102), 3) := by decide +kernel
theorem dX5_fire_169 : decode cX5_fire 169 = .ok (.iload_n 3, 1) := by decide +kernel
theorem dX5_fire_170 : decode cX5_fire 170 = .ok (.bipush (-4), 2) := by decide +kernel
theorem dX5_fire_172 : decode cX5_fire 172 = .ok (.if_icmp .ne 6, 3) := by decide +kernel
theorem dX5_fire_175 : decode cX5_fire 175 = .ok (.bipush (-4), 2) := by decide +kernel
theorem dX5_fire_177 : decode cX5_fire 177 = .ok (.ireturn, 1) := by decide +kernel
theorem dX5_fire_178 : decode cX5_fire 178 = .ok (.iload_n 2, 1) := by decide +kernel
theorem dX5_fire_179 : decode cX5_fire 179 = .ok (.ifCond .ne 7, 3) := by decide +kernel
theorem dX5_fire_182 : decode cX5_fire 182 = .ok (.iload_n 3, 1) := by decide +kernel
theorem dX5_fire_183 : decode cX5_fire 183 = .ok (.goto 5, 3) := by decide +kernel
theorem dX5_fire_186 : decode cX5_fire 186 = .ok (.iload 4, 2) := by decide +kernel
theorem dX5_fire_188 : decode cX5_fire 188 = .ok (.ireturn, 1) := by decide +kernel
theorem dX5_moon_0 : decode cX5_moon 0 = .ok (.iload_n 1, 1) := by decide +kernel
theorem dX5_moon_1 : decode cX5_moon 1 = .ok (.iconst 0, 1) := by decide +kernel
theorem dX5_moon_2 : decode cX5_moon 2 = .ok (.iconst 1, 1) := by decide +kernel
theorem dX5_moon_3 : decode cX5_moon 3 = .ok (.invokestatic 79, 3) := by decide +kernel
theorem dX5_moon_6 : decode cX5_moon 6 = .ok (.ifCond .ne 5, 3) := by decide +kernel
theorem dX5_moon_9 : decode cX5_moon 9 = .ok (.iconst (-1), 1) := by decide +kernel
theorem dX5_moon_10 : decode cX5_moon 10 = .ok (.ireturn, 1) := by decide +kernel
theorem dX5_moon_11 : decode cX5_moon 11 = .ok (.aload_n 0, 1) := by decide +kernel
theorem dX5_moon_12 : decode cX5_moon 12 = .ok (.getfield 32, 3) := by decide +kernel
theorem dX5_moon_15 : decode cX5_moon 15 = .ok (.aload_n 0, 1) := by decide +kernel
theorem dX5_moon_16 : decode cX5_moon 16 = .ok (.getfield 28, 3) := by decide +kernel
theorem dX5_moon_19 : decode cX5_moon 19 = .ok (.invokevirtual 104, 3) := by decide +kernel
theorem dX5_moon_22 : decode cX5_moon 22 = .ok (.iconst 0, 1) := by decide +kernel
theorem dX5_moon_23 : decode cX5_moon 23 = .ok (.istore_n 2, 1) := by decide +kernel
theorem dX5_moon_24 : decode cX5_moon 24 = .ok (.iconst (-1), 1) := by decide +kernel
theorem dX5_moon_25 : decode cX5_moon 25 = .ok (.istore_n 3, 1) := by decide +kernel
theorem dX5_moon_26 : decode cX5_moon 26 = .ok (.iconst 0, 1) := by decide +kernel
theorem dX5_moon_27 : decode cX5_moon 27 = .ok (.istore 4, 2) := by decide +kernel
theorem dX5_moon_29 : decode cX5_moon 29 = .ok (.iload 4, 2) := by decide +kernel
theorem dX5_moon_31 : decode cX5_moon 31 = .ok (.bipush 6, 2) := by decide +kernel
theorem dX5_moon_33 : decode cX5_moon 33 = .ok (.if_icmp .ge 54, 3) := by decide +kernel
theorem dX5_moon_36 : decode cX5_moon 36 = .ok (.aload_n 0, 1) := by decide +kernel
theorem dX5_moon_37 : decode cX5_moon 37 = .ok (.getfield 32, 3) := by decide +kernel
theorem dX5_moon_40 : decode cX5_moon 40 = .ok (.iload 4, 2) := by decide +kernel
theorem dX5_moon_42 : decode cX5_moon 42 = .ok (.putfield 117, 3) := by decide +kernel
theorem dX5_moon_45 : decode cX5_moon 45 = .ok (.aload_n 0, 1) := by decide +kernel
theorem dX5_moon_46 : decode cX5_moon 46 = .ok (.getfield 53, 3) := by decide +kernel
theorem dX5_moon_49 : decode cX5_moon 49 = .ok (.aload_n 0, 1) := by decide +kernel
theorem dX5_moon_50 : decode cX5_moon 50 = .ok (.getfield 32, 3) := by decide +kernel
theorem dX5_moon_53 : decode cX5_moon 53 = .ok (.invokevirtual 189, 3) := by decide +kernel
theorem dX5_moon_56 : decode cX5_moon 56 = .ok (.aload_n 0, 1) := by decide +kernel
theorem dX5_moon_57 : decode cX5_moon 57 = .ok (.getfield 53, 3) := by decide +kernel
theorem dX5_moon_60 : decode cX5_moon 60 = .ok (.aload_n 0, 1) := by decide +kernel
theorem dX5_moon_61 : decode cX5_moon 61 = .ok (.getfield 32, 3) := by decide +kernel
theorem dX5_moon_64 : decode cX5_moon 64 = .ok (.invokevirtual 199, 3) := by decide +kernel
theorem dX5_moon_67 : decode cX5_moon 67 = .ok (.istore 5, 2) := by decide +kernel
theorem dX5_moon_69 : decode cX5_moon 69 = .ok (.iload 5, 2) := by decide +kernel
theorem dX5_moon_71 : decode cX5_moon 71 = .ok (.iload_n 3, 1) := by decide +kernel
theorem dX5_moon_72 : decode cX5_moon 72 = .ok (.if_icmp .le 9, 3) := by decide +kernel
theorem dX5_moon_75 : decode cX5_moon 75 = .ok (.iload 5, 2) := by decide +kernel
theorem dX5_moon_77 : decode cX5_moon 77 = .ok (.istore_n 3, 1) := by decide +kernel
theorem dX5_moon_78 : decode cX5_moon 78 = .ok (.iload 4, 2) := by decide +kernel
theorem dX5_moon_80 : decode cX5_moon 80 = .ok (.istore_n 2, 1) := by decide +kernel
theorem dX5_moon_81 : decode cX5_moon 81 = .ok (.iinc 4 1, 3) := by decide +kernel
theorem dX5_moon_84 : decode cX5_moon 84 = .ok (.goto (-55), 3) := by decide +kernel
theorem dX5_moon_87 : decode cX5_moon 87 = .ok (.iload_n 1, 1) := by decide +kernel
theorem dX5_moon_88 : decode cX5_moon 88 = .ok (.ifCond .ne 7, 3) := by decide +kernel
theorem dX5_moon_91 : decode cX5_moon 91 = .ok (.iload_n 2, 1) := by decide +kernel
theorem dX5_moon_92 : decode cX5_moon 92 = .ok (.goto 4, 3) := by decide +kernel
theorem dX5_moon_95 : decode cX5_moon 95 = .ok (.iload_n 3, 1) := by decide +kernel
theorem dX5_moon_96 : decode cX5_moon 96 = .ok (.ireturn, 1) := by decide +kernel
theorem dX5_rest_0 : decode cX5_rest 0 = .ok (.aload_n 0, 1) := by decide +kernel
theorem dX5_rest_1 : decode cX5_rest 1 = .ok (.getfield 28, 3) := by decide +kernel
theorem dX5_rest_4 : decode cX5_rest 4 = .ok (.iload_n 1, 1) := by decide +kernel
theorem dX5_rest_5 : decode cX5_rest 5 = .ok (.invokevirtual 136, 3) := by decide +kernel
theorem dX5_rest_8 : decode cX5_rest 8 = .ok (.ifCond .eq 28, 3) := by decide +kernel
theorem dX5_rest_11 : decode cX5_rest 11 = .ok (.aload_n 0, 1) := by decide +kernel
theorem dX5_rest_12 : decode cX5_rest 12 = .ok (.getfield 28, 3) := by decide +kernel
theorem dX5_rest_15 : decode cX5_rest 15 = .ok (.iload_n 2, 1) := by decide +kernel
theorem dX5_rest_16 : decode cX5_rest 16 = .ok (.invokevirtual 136, 3) := by decide +kernel
theorem dX5_rest_19 : decode cX5_rest 19 = .ok (.ifCond .eq 17, 3) := by decide +kernel
theorem dX5_rest_22 : decode cX5_rest 22 = .ok (.iload_n 1, 1) := by decide +kernel
theorem dX5_rest_23 : decode cX5_rest 23 = .ok (.iload_n 2, 1) := by decide +kernel
theorem dX5_rest_24 : decode cX5_rest 24 = .ok (.if_icmp .eq 12, 3) := by decide +kernel
theorem dX5_rest_27 : decode cX5_rest 27 = .ok (.iload_n 3, 1) := by decide +kernel
theorem dX5_rest_28 : decode cX5_rest 28 = .ok (.iconst 0, 1) := by decide +kernel
theorem dX5_rest_29 : decode cX5_rest 29 = .ok (.iconst 1, 1) := by decide +kernel
theorem dX5_rest_30 : decode cX5_rest 30 = .ok (.invokestatic 79, 3) := by decide +kernel
theorem dX5_rest_33 : decode cX5_rest 33 = .ok (.ifCond .ne 5, 3) := by decide +kernel
theorem dX5_rest_36 : decode cX5_rest 36 = .ok (.iconst (-1), 1) := by decide +kernel
theorem dX5_rest_37 : decode cX5_rest 37 = .ok (.ireturn, 1) := by decide +kernel
theorem dX5_rest_38 : decode cX5_rest 38 = .ok (.aload_n 0, 1) := by decide +kernel
theorem dX5_rest_39 : decode cX5_rest 39 = .ok (.iload_n 1, 1) := by decide +kernel
theorem dX5_rest_40 : decode cX5_rest 40 = .ok (.iload_n 2, 1) := by decide +kernel
theorem dX5_rest_41 : decode cX5_rest 41 = .ok (.invokevirtual 228, 3) := by decide +kernel
theorem dX5_rest_44 : decode cX5_rest 44 = .ok (.iconst 0, 1) := by decide +kernel
theorem dX5_rest_45 : decode cX5_rest 45 = .ok (.istore 4, 2) := by decide +kernel
theorem dX5_rest_47 : decode cX5_rest 47 = .ok (.bipush (-4), 2) := by decide +kernel
theorem dX5_rest_49 : decode cX5_rest 49 = .ok (.istore 5, 2) := by decide +kernel
theorem dX5_rest_51 : decode cX5_rest 51 = .ok (.iconst 0, 1) := by decide +kernel
theorem dX5_rest_52 : decode cX5_rest 52 = .ok (.istore 6, 2) := by decide +kernel
theorem dX5_rest_54 : decode cX5_rest 54 = .ok (.iload 6, 2) := by decide +kernel
theorem dX5_rest_56 : decode cX5_rest 56 = .ok (.bipush 10, 2) := by decide +kernel
theorem dX5_rest_58 : decode cX5_rest 58 = .ok (.if_icmp .ge 57, 3) := by decide +kernel
theorem dX5_rest_61 : decode cX5_rest 61 = .ok (.iconst 0, 1) := by decide +kernel
theorem dX5_rest_62 : decode cX5_rest 62 = .ok (.istore 7, 2) := by decide +kernel
theorem dX5_rest_64 : decode cX5_rest 64 = .ok (.iload 7, 2) := by decide +kernel
theorem dX5_rest_66 : decode cX5_rest 66 = .ok (.bipush 10, 2) := by decide +kernel
theorem dX5_rest_68 : decode cX5_rest 68 = .ok (.if_icmp .ge 41, 3) := by decide +kernel
theorem dX5_rest_71 : decode cX5_rest 71 = .ok (.aload_n 0, 1) := by decide +kernel
theorem dX5_rest_72 : decode cX5_rest 72 = .ok (.iload 6, 2) := by decide +kernel
theorem dX5_rest_74 : decode cX5_rest 74 = .ok (.iload 7, 2) := by decide +kernel
theorem dX5_rest_76 : decode cX5_rest 76 = .ok (.invokevirtual 232, 3) := by decide +kernel
theorem dX5_rest_79 : decode cX5_rest 79 = .ok (.ifCond .ne 6, 3) := by decide +kernel
theorem dX5_rest_82 : decode cX5_rest 82 = .ok (.goto 21, 3) := by decide +kernel
theorem dX5_rest_85 : decode cX5_rest 85 = .ok (.iload 4, 2) := by decide +kernel
theorem dX5_rest_87 : decode cX5_rest 87 = .ok (.ifCond .ne 13, 3) := by decide +kernel
theorem dX5_rest_90 : decode cX5_rest 90 = .ok (.bipush 10, 2) := by decide +kernel
theorem dX5_rest_92 : decode cX5_rest 92 = .ok (.iload 6, 2) := by decide +kernel
theorem dX5_rest_94 : decode cX5_rest 94 = .ok (.imul, 1) := by decide +kernel
theorem dX5_rest_95 : decode cX5_rest 95 = .ok (.iload 7, 2) := by decide +kernel
theorem dX5_rest_97 : decode cX5_rest 97 = .ok (.iadd, 1) := by decide +kernel
theorem dX5_rest_98 : decode cX5_rest 98 = .ok (.istore 5, 2) := by decide +kernel
theorem dX5_rest_100 : decode cX5_rest 100 = .ok (.iinc 4 1, 3) := by decide +kernel
theorem dX5_rest_103 : decode cX5_rest 103 = .ok (.iinc 7 1, 3) := by decide +kernel
theorem dX5_rest_106 : decode cX5_rest 106 = .ok (.goto (-42), 3) := by decide +kernel
theorem dX5_rest_109 : decode cX5_rest 109 = .ok (.iinc 6 1, 3) := by decide +kernel
theorem dX5_rest_112 : decode cX5_rest 112 = .ok (.goto (-58), 3) := by decide +kernel
theorem dX5_rest_115 : decode cX5_rest 115 = .ok (.iload_n 3, 1) := by decide +kernel
theorem dX5_rest_116 : decode cX5_rest 116 = .ok (.ifCond .ne 8, 3) := by decide +kernel
theorem dX5_rest_119 : decode cX5_rest 119 = .ok (.iload 4, 2) := by decide +kernel
theorem dX5_rest_121 : decode cX5_rest 121 = .ok (.goto 5, 3) := by decide +kernel
theorem dX5_rest_124 : decode cX5_rest 124 = .ok (.iload 5, 2) := by decide +kernel
theorem dX5_rest_126 : decode cX5_rest 126 = .ok (.ireturn, 1) := by decide +kernel
theorem dX5_luck_0 : decode cX5_luck 0 = .ok (.iload_n 1, 1) := by decide +kernel
theorem dX5_luck_1 : decode cX5_luck 1 = .ok (.iconst 0, 1) := by decide +kernel
theorem dX5_luck_2 : decode cX5_luck 2 = .ok (.bipush 10, 2) := by decide +kernel
theorem dX5_luck_4 : decode cX5_luck 4 = .ok (.invokestatic 79, 3) := by decide +kernel
theorem dX5_luck_7 : decode cX5_luck 7 = .ok (.ifCond .eq 35, 3) := by decide +kernel
theorem dX5_luck_10 : decode cX5_luck 10 = .ok (.aload_n 0, 1) := by decide +kernel
theorem dX5_luck_11 : decode cX5_luck 11 = .ok (.getfield 28, 3) := by decide +kernel
theorem dX5_luck_14 : decode cX5_luck 14 = .ok (.iload_n 2, 1) := by decide +kernel
theorem dX5_luck_15 : decode cX5_luck 15 = .ok (.invokevirtual 126, 3) := by decide +kernel
theorem dX5_luck_18 : decode cX5_luck 18 = .ok (.ifCond .eq 24, 3) := by decide +kernel
theorem dX5_luck_21 : decode cX5_luck 21 = .ok (.aload_n 0, 1) := by decide +kernel
theorem dX5_luck_22 : decode cX5_luck 22 = .ok (.getfield 28, 3) := by decide +kernel
theorem dX5_luck_25 : decode cX5_luck 25 = .ok (.iload_n 3, 1) := by decide +kernel
theorem dX5_luck_26 : decode cX5_luck 26 = .ok (.invokevirtual 136, 3) := by decide +kernel
theorem dX5_luck_29 : decode cX5_luck 29 = .ok (.ifCond .eq 13, 3) := by decide +kernel
theorem dX5_luck_32 : decode cX5_luck 32 = .ok (.iload 4, 2) := by decide +kernel
theorem dX5_luck_34 : decode cX5_luck 34 = .ok (.iconst 0, 1) := by decide +kernel
theorem dX5_luck_35 : decode cX5_luck 35 = .ok (.iconst 1, 1) := by decide +kernel
theorem dX5_luck_36 : decode cX5_luck 36 = .ok (.invokestatic 79, 3) := by decide +kernel
theorem dX5_luck_39 : decode cX5_luck 39 = .ok (.ifCond .ne 7, 3) := by decide +kernel
theorem dX5_luck_42 : decode cX5_luck 42 = .ok (.ldc2_w 235, 3) := by decide +kernel
theorem dX5_luck_45 : decode cX5_luck 45 = .ok (.lreturn, 1) := by decide +kernel
theorem dX5_luck_46 : decode cX5_luck 46 = .ok (.aload_n 0, 1) := by decide +kernel
theorem dX5_luck_47 : decode cX5_luck 47 = .ok (.invokevirtual 123, 3) := by decide +kernel
theorem dX5_luck_50 : decode cX5_luck 50 = .ok (.istore 5, 2) := by decide +kernel
theorem dX5_luck_52 : decode cX5_luck 52 = .ok (.iload 5, 2) := by decide +kernel
theorem dX5_luck_54 : decode cX5_luck 54 = .ok (.bipush 8, 2) := by decide +kernel
theorem dX5_luck_56 : decode cX5_luck 56 = .ok (.if_icmp .le 7, 3) := by decide +kernel
theorem dX5_luck_59 : decode cX5_luck 59 = .ok (.ldc2_w 237, 3) := by decide +kernel
theorem dX5_luck_62 : decode cX5_luck 62 = .ok (.lreturn, 1) := by decide +kernel
theorem dX5_luck_63 : decode cX5_luck 63 = .ok (.aload_n 0, 1) := by decide +kernel
theorem dX5_luck_64 : decode cX5_luck 64 = .ok (.getfield 32, 3) := by decide +kernel
theorem dX5_luck_67 : decode cX5_luck 67 = .ok (.aload_n 0, 1) := by decide +kernel
theorem dX5_luck_68 : decode cX5_luck 68 = .ok (.getfield 28, 3) := by decide +kernel
theorem dX5_luck_71 : decode cX5_luck 71 = .ok (.invokevirtual 104, 3) := by decide +kernel
theorem dX5_luck_74 : decode cX5_luck 74 = .ok (.lconst 0, 1) := by decide +kernel
theorem dX5_luck_75 : decode cX5_luck 75 = .ok (.lstore 6, 2) := by decide +kernel
theorem dX5_luck_77 : decode cX5_luck 77 = .ok (.iconst 0, 1) := by decide +kernel
theorem dX5_luck_78 : decode cX5_luck 78 = .ok (.istore 8, 2) := by decide +kernel
theorem dX5_luck_80 : decode cX5_luck 80 = .ok (.iload 8, 2) := by decide +kernel
theorem dX5_luck_82 : decode cX5_luck 82 = .ok (.iconst 1, 1) := by decide +kernel
theorem dX5_luck_83 : decode cX5_luck 83 = .ok (.iload 5, 2) := by decide +kernel
theorem dX5_luck_85 : decode cX5_luck 85 = .ok (.ishl, 1) := by decide +kernel
theorem dX5_luck_86 : decode cX5_luck 86 = .ok (.if_icmp .ge 50, 3) := by decide +kernel
theorem dX5_luck_89 : decode cX5_luck 89 = .ok (.aload_n 0, 1) := by decide +kernel
theorem dX5_luck_90 : decode cX5_luck 90 = .ok (.iload 8, 2) := by decide +kernel
theorem dX5_luck_92 : decode cX5_luck 92 = .ok (.iload 5, 2) := by decide +kernel
theorem dX5_luck_94 : decode cX5_luck 94 = .ok (.iload_n 1, 1) := by decide +kernel
theorem dX5_luck_95 : decode cX5_luck 95 = .ok (.invokevirtual 239, 3) := by decide +kernel
theorem dX5_luck_98 : decode cX5_luck 98 = .ok (.lstore 9, 2) := by decide +kernel
theorem dX5_luck_100 : decode cX5_luck 100 = .ok (.lload 9, 2) := by decide +kernel
theorem dX5_luck_102 : decode cX5_luck 102 = .ok (.lconst 0, 1) := by decide +kernel
theorem dX5_luck_103 : decode cX5_luck 103 = .ok (.lcmp, 1) := by decide +kernel
theorem dX5_luck_104 : decode cX5_luck 104 = .ok (.ifCond .le 26, 3) := by decide +kernel
theorem dX5_luck_107 : decode cX5_luck 107 = .ok (.aload_n 0, 1) := by decide +kernel
theorem dX5_luck_108 : decode cX5_luck 108 = .ok (.getfield 53, 3) := by decide +kernel
theorem dX5_luck_111 : decode cX5_luck 111 = .ok (.aload_n 0, 1) := by decide +kernel
theorem dX5_luck_112 : decode cX5_luck 112 = .ok (.getfield 32, 3) := by decide +kernel
theorem dX5_luck_115 : decode cX5_luck 115 = .ok (.iload_n 2, 1) := by decide +kernel
theorem dX5_luck_116 : decode cX5_luck 116 = .ok (.iload_n 3, 1) := by decide +kernel
theorem dX5_luck_117 : decode cX5_luck 117 = .ok (.invokevirtual 206, 3) := by decide +kernel
theorem dX5_luck_120 : decode cX5_luck 120 = .ok (.ifCond .eq 10, 3) := by decide +kernel
theorem dX5_luck_123 : decode cX5_luck 123 = .ok (.lload 6, 2) := by decide +kernel
theorem dX5_luck_125 : decode cX5_luck 125 = .ok (.lload 9, 2) := by decide +kernel
theorem dX5_luck_127 : decode cX5_luck 127 = .ok (.ladd, 1) := by decide +kernel
theorem dX5_luck_128 : decode cX5_luck 128 = .ok (.lstore 6, 2) := by decide +kernel
theorem dX5_luck_130 : decode cX5_luck 130 = .ok (.iinc 8 1, 3) := by decide +kernel
theorem dX5_luck_133 : decode cX5_luck 133 = .ok (.goto (-53), 3) := by decide +kernel
theorem dX5_luck_136 : decode cX5_luck 136 = .ok (.lload 6, 2) := by decide +kernel
theorem dX5_luck_138 : decode cX5_luck 138 = .ok (.iload 5, 2) := by decide +kernel
theorem dX5_luck_140 : decode cX5_luck 140 = .ok (.invokestatic 243, 3) := by decide +kernel
theorem dX5_luck_143 : decode cX5_luck 143 = .ok (.iload 4, 2) := by decide +kernel
theorem dX5_luck_145 : decode cX5_luck 145 = .ok (.invokestatic 247, 3) := by decide +kernel
theorem dX5_luck_148 : decode cX5_luck 148 = .ok (.lreturn, 1) := by decide +kernel
theorem dX5_mean_0 : decode cX5_mean 0 = .ok (.iload_n 1, 1) := by decide +kernel
theorem dX5_mean_1 : decode cX5_mean 1 = .ok (.iconst 0, 1) := by decide +kernel
theorem dX5_mean_2 : decode cX5_mean 2 = .ok (.bipush 10, 2) := by decide +kernel
theorem dX5_mean_4 : decode cX5_mean 4 = .ok (.invokestatic 79, 3) := by decide +kernel
theorem dX5_mean_7 : decode cX5_mean 7 = .ok (.ifCond .eq 23, 3) := by decide +kernel
theorem dX5_mean_10 : decode cX5_mean 10 = .ok (.aload_n 0, 1) := by decide +kernel
theorem dX5_mean_11 : decode cX5_mean 11 = .ok (.getfield 28, 3) := by decide +kernel
theorem dX5_mean_14 : decode cX5_mean 14 = .ok (.iload_n 2, 1) := by decide +kernel
theorem dX5_mean_15 : decode cX5_mean 15 = .ok (.invokevirtual 136, 3) := by decide +kernel
theorem dX5_mean_18 : decode cX5_mean 18 = .ok (.ifCond .eq 12, 3) := by decide +kernel
theorem dX5_mean_21 : decode cX5_mean 21 = .ok (.iload_n 3, 1) := by decide +kernel
theorem dX5_mean_22 : decode cX5_mean 22 = .ok (.iconst 0, 1) := by decide +kernel
theorem dX5_mean_23 : decode cX5_mean 23 = .ok (.iconst 1, 1) := by decide +kernel
theorem dX5_mean_24 : decode cX5_mean 24 = .ok (.invokestatic 79, 3) := by decide +kernel
theorem dX5_mean_27 : decode cX5_mean 27 = .ok (.ifCond .ne 7, 3) := by decide +kernel
theorem dX5_mean_30 : decode cX5_mean 30 = .ok (.ldc2_w 235, 3) := by decide +kernel
theorem dX5_mean_33 : decode cX5_mean 33 = .ok (.lreturn, 1) := by decide +kernel
theorem dX5_mean_34 : decode cX5_mean 34 = .ok (.aload_n 0, 1) := by decide +kernel
theorem dX5_mean_35 : decode cX5_mean 35 = .ok (.invokevirtual 123, 3) := by decide +kernel
theorem dX5_mean_38 : decode cX5_mean 38 = .ok (.istore 4, 2) := by decide +kernel
theorem dX5_mean_40 : decode cX5_mean 40 = .ok (.iload 4, 2) := by decide +kernel
theorem dX5_mean_42 : decode cX5_mean 42 = .ok (.bipush 8, 2) := by decide +kernel
theorem dX5_mean_44 : decode cX5_mean 44 = .ok (.if_icmp .le 7, 3) := by decide +kernel
theorem dX5_mean_47 : decode cX5_mean 47 = .ok (.ldc2_w 237, 3) := by decide +kernel
theorem dX5_mean_50 : decode cX5_mean 50 = .ok (.lreturn, 1) := by decide +kernel
theorem dX5_mean_51 : decode cX5_mean 51 = .ok (.aload_n 0, 1) := by decide +kernel
theorem dX5_mean_52 : decode cX5_mean 52 = .ok (.getfield 32, 3) := by decide +kernel
theorem dX5_mean_55 : decode cX5_mean 55 = .ok (.aload_n 0, 1) := by decide +kernel
theorem dX5_mean_56 : decode cX5_mean 56 = .ok (.getfield 28, 3) := by decide +kernel
theorem dX5_mean_59 : decode cX5_mean 59 = .ok (.invokevirtual 104, 3) := by decide +kernel
theorem dX5_mean_62 : decode cX5_mean 62 = .ok (.lconst 0, 1) := by decide +kernel
theorem dX5_mean_63 : decode cX5_mean 63 = .ok (.lstore 5, 2) := by decide +kernel
theorem dX5_mean_65 : decode cX5_mean 65 = .ok (.iconst 0, 1) := by decide +kernel
theorem dX5_mean_66 : decode cX5_mean 66 = .ok (.istore 7, 2) := by decide +kernel
theorem dX5_mean_68 : decode cX5_mean 68 = .ok (.iload 7, 2) := by decide +kernel
theorem dX5_mean_70 : decode cX5_mean 70 = .ok (.iconst 1, 1) := by decide +kernel
theorem dX5_mean_71 : decode cX5_mean 71 = .ok (.iload 4, 2) := by decide +kernel
theorem dX5_mean_73 : decode cX5_mean 73 = .ok (.ishl, 1) := by decide +kernel
theorem dX5_mean_74 : decode cX5_mean 74 = .ok (.if_icmp .ge 62, 3) := by decide +kernel
theorem dX5_mean_77 : decode cX5_mean 77 = .ok (.aload_n 0, 1) := by decide +kernel
theorem dX5_mean_78 : decode cX5_mean 78 = .ok (.iload 7, 2) := by decide +kernel
theorem dX5_mean_80 : decode cX5_mean 80 = .ok (.iload 4, 2) := by decide +kernel
theorem dX5_mean_82 : decode cX5_mean 82 = .ok (.iload_n 1, 1) := by decide +kernel
theorem dX5_mean_83 : decode cX5_mean 83 = .ok (.invokevirtual 239, 3) := by decide +kernel
theorem dX5_mean_86 : decode cX5_mean 86 = .ok (.lstore 8, 2) := by decide +kernel
theorem dX5_mean_88 : decode cX5_mean 88 = .ok (.lload 8, 2) := by decide +kernel
theorem dX5_mean_90 : decode cX5_mean 90 = .ok (.lconst 0, 1) := by decide +kernel
theorem dX5_mean_91 : decode cX5_mean 91 = .ok (.lcmp, 1) := by decide +kernel
theorem dX5_mean_92 : decode cX5_mean 92 = .ok (.ifCond .ne 6, 3) := by decide +kernel
theorem dX5_mean_95 : decode cX5_mean 95 = .ok (.goto 35, 3) := by decide +kernel
theorem dX5_mean_98 : decode cX5_mean 98 = .ok (.aload_n 0, 1) := by decide +kernel
theorem dX5_mean_99 : decode cX5_mean 99 = .ok (.getfield 53, 3) := by decide +kernel
theorem dX5_mean_102 : decode cX5_mean 102 = .ok (.aload_n 0, 1) := by decide +kernel
theorem dX5_mean_103 : decode cX5_mean 103 = .ok (.getfield 32, 3) := by decide +kernel
theorem dX5_mean_106 : decode cX5_mean 106 = .ok (.invokevirtual 189, 3) := by decide +kernel
theorem dX5_mean_109 : decode cX5_mean 109 = .ok (.lload 5, 2) := by decide +kernel
theorem dX5_mean_111 : decode cX5_mean 111 = .ok (.lload 8, 2) := by decide +kernel
theorem dX5_mean_113 : decode cX5_mean 113 = .ok (.aload_n 0, 1) := by decide +kernel
theorem dX5_mean_114 : decode cX5_mean 114 = .ok (.getfield 53, 3) := by decide +kernel
theorem dX5_mean_117 : decode cX5_mean 117 = .ok (.aload_n 0, 1) := by decide +kernel
theorem dX5_mean_118 : decode cX5_mean 118 = .ok (.getfield 32, 3) := by decide +kernel
theorem dX5_mean_121 : decode cX5_mean 121 = .ok (.iload_n 2, 1) := by decide +kernel
theorem dX5_mean_122 : decode cX5_mean 122 = .ok (.invokevirtual 192, 3) := by decide +kernel
theorem dX5_mean_125 : decode cX5_mean 125 = .ok (.i2l, 1) := by decide +kernel
theorem dX5_mean_126 : decode cX5_mean 126 = .ok (.lmul, 1) := by decide +kernel
theorem dX5_mean_127 : decode cX5_mean 127 = .ok (.ladd, 1) := by decide +kernel
theorem dX5_mean_128 : decode cX5_mean 128 = .ok (.lstore 5, 2) := by decide +kernel
theorem dX5_mean_130 : decode cX5_mean 130 = .ok (.iinc 7 1, 3) := by decide +kernel
theorem dX5_mean_133 : decode cX5_mean 133 = .ok (.goto (-65), 3) := by decide +kernel
theorem dX5_mean_136 : decode cX5_mean 136 = .ok (.lload 5, 2) := by decide +kernel
theorem dX5_mean_138 : decode cX5_mean 138 = .ok (.iload 4, 2) := by decide +kernel
theorem dX5_mean_140 : decode cX5_mean 140 = .ok (.invokestatic 243, 3) := by decide +kernel
theorem dX5_mean_143 : decode cX5_mean 143 = .ok (.iload_n 3, 1) := by decide +kernel
theorem dX5_mean_144 : decode cX5_mean 144 = .ok (.invokestatic 247, 3) := by decide +kernel
theorem dX5_mean_147 : decode cX5_mean 147 = .ok (.lreturn, 1) := by decide +kernel
theorem dX5_see_0 : decode cX5_see 0 = .ok (.aload_n 0, 1) := by decide +kernel
theorem dX5_see_1 : decode cX5_see 1 = .ok (.getfield 28, 3) := by decide +kernel
theorem dX5_see_4 : decode cX5_see 4 = .ok (.iload_n 1, 1) := by decide +kernel
theorem dX5_see_5 : decode cX5_see 5 = .ok (.invokevirtual 126, 3) := by decide +kernel
theorem dX5_see_8 : decode cX5_see 8 = .ok (.ifCond .eq 23, 3) := by decide +kernel
theorem dX5_see_11 : decode cX5_see 11 = .ok (.iload_n 2, 1) := by decide +kernel
theorem dX5_see_12 : decode cX5_see 12 = .ok (.iconst 0, 1) := by decide +kernel
theorem dX5_see_13 : decode cX5_see 13 = .ok (.bipush 24, 2) := by decide +kernel
theorem dX5_see_15 : decode cX5_see 15 = .ok (.invokestatic 79, 3) := by decide +kernel
theorem dX5_see_18 : decode cX5_see 18 = .ok (.ifCond .eq 13, 3) := by decide +kernel
theorem dX5_see_21 : decode cX5_see 21 = .ok (.iload_n 3, 1) := by decide +kernel
theorem dX5_see_22 : decode cX5_see 22 = .ok (.iconst 0, 1) := by decide +kernel
theorem dX5_see_23 : decode cX5_see 23 = .ok (.bipush 30, 2) := by decide +kernel
theorem dX5_see_25 : decode cX5_see 25 = .ok (.invokestatic 79, 3) := by decide +kernel
theorem dX5_see_28 : decode cX5_see 28 = .ok (.ifCond .ne 5, 3) := by decide +kernel
theorem dX5_see_31 : decode cX5_see 31 = .ok (.iconst (-1), 1) := by decide +kernel
theorem dX5_see_32 : decode cX5_see 32 = .ok (.ireturn, 1) := by decide +kernel
theorem dX5_see_33 : decode cX5_see 33 = .ok (.aload_n 0, 1) := by decide +kernel
theorem dX5_see_34 : decode cX5_see 34 = .ok (.getfield 108, 3) := by decide +kernel
theorem dX5_see_37 : decode cX5_see 37 = .ok (.bipush 6, 2) := by decide +kernel
theorem dX5_see_39 : decode cX5_see 39 = .ok (.if_icmp .lt 6, 3) := by decide +kernel
theorem dX5_see_42 : decode cX5_see 42 = .ok (.bipush (-3), 2) := by decide +kernel
theorem dX5_see_44 : decode cX5_see 44 = .ok (.ireturn, 1) := by decide +kernel
theorem dX5_see_45 : decode cX5_see 45 = .ok (.aload_n 0, 1) := by decide +kernel
theorem dX5_see_46 : decode cX5_see 46 = .ok (.getfield 57, 3) := by decide +kernel
theorem dX5_see_49 : decode cX5_see 49 = .ok (.aload_n 0, 1) := by decide +kernel
theorem dX5_see_50 : decode cX5_see 50 = .ok (.getfield 108, 3) := by decide +kernel
theorem dX5_see_53 : decode cX5_see 53 = .ok (.iload_n 1, 1) := by decide +kernel
theorem dX5_see_54 : decode cX5_see 54 = .ok (.iastore, 1) := by decide +kernel
theorem dX5_see_55 : decode cX5_see 55 = .ok (.aload_n 0, 1) := by decide +kernel
theorem dX5_see_56 : decode cX5_see 56 = .ok (.getfield 61, 3) := by decide +kernel
theorem dX5_see_59 : decode cX5_see 59 = .ok (.aload_n 0, 1) := by decide +kernel
theorem dX5_see_60 : decode cX5_see 60 = .ok (.getfield 108, 3) := by decide +kernel
theorem dX5_see_63 : decode cX5_see 63 = .ok (.iload_n 2, 1) := by decide +kernel
theorem dX5_see_64 : decode cX5_see 64 = .ok (.iastore, 1) := by decide +kernel
theorem dX5_see_65 : decode cX5_see 65 = .ok (.aload_n 0, 1) := by decide +kernel
theorem dX5_see_66 : decode cX5_see 66 = .ok (.getfield 64, 3) := by decide +kernel
theorem dX5_see_69 : decode cX5_see 69 = .ok (.aload_n 0, 1) := by decide +kernel
theorem dX5_see_70 : decode cX5_see 70 = .ok (.getfield 108, 3) := by decide +kernel
theorem dX5_see_73 : decode cX5_see 73 = .ok (.iload_n 3, 1) := by decide +kernel
theorem dX5_see_74 : decode cX5_see 74 = .ok (.iastore, 1) := by decide +kernel
theorem dX5_see_75 : decode cX5_see 75 = .ok (.aload_n 0, 1) := by decide +kernel
theorem dX5_see_76 : decode cX5_see 76 = .ok (.dup, 1) := by decide +kernel
theorem dX5_see_77 : decode cX5_see 77 = .ok (.getfield 108, 3) := by decide +kernel
theorem dX5_see_80 : decode cX5_see 80 = .ok (.iconst 1, 1) := by decide +kernel
theorem dX5_see_81 : decode cX5_see 81 = .ok (.iadd, 1) := by decide +kernel
theorem dX5_see_82 : decode cX5_see 82 = .ok (.putfield 108, 3) := by decide +kernel
theorem dX5_see_85 : decode cX5_see 85 = .ok (.aload_n 0, 1) := by decide +kernel
theorem dX5_see_86 : decode cX5_see 86 = .ok (.getfield 108, 3) := by decide +kernel
theorem dX5_see_89 : decode cX5_see 89 = .ok (.ireturn, 1) := by decide +kernel
theorem dX5_forget_0 : decode cX5_forget 0 = .ok (.iload_n 1, 1) := by decide +kernel
theorem dX5_forget_1 : decode cX5_forget 1 = .ok (.iconst 0, 1) := by decide +kernel
theorem dX5_forget_2 : decode cX5_forget 2 = .ok (.aload_n 0, 1) := by decide +kernel
theorem dX5_forget_3 : decode cX5_forget 3 = .ok (.getfield 108, 3) := by decide +kernel
theorem dX5_forget_6 : decode cX5_forget 6 = .ok (.invokestatic 79, 3) := by decide +kernel
theorem dX5_forget_9 : decode cX5_forget 9 = .ok (.ifCond .ne 5, 3) := by decide +kernel
theorem dX5_forget_12 : decode cX5_forget 12 = .ok (.iconst (-1), 1) := by decide +kernel
theorem dX5_forget_13 : decode cX5_forget 13 = .ok (.ireturn, 1) := by decide +kernel
theorem dX5_forget_14 : decode cX5_forget 14 = .ok (.aload_n 0, 1) := by decide +kernel
theorem dX5_forget_15 : decode cX5_forget 15 = .ok (.getfield 108, 3) := by decide +kernel
theorem dX5_forget_18 : decode cX5_forget 18 = .ok (.istore_n 2, 1) := by decide +kernel
theorem dX5_forget_19 : decode cX5_forget 19 = .ok (.aload_n 0, 1) := by decide +kernel
theorem dX5_forget_20 : decode cX5_forget 20 = .ok (.iload_n 1, 1) := by decide +kernel
theorem dX5_forget_21 : decode cX5_forget 21 = .ok (.putfield 108, 3) := by decide +kernel
theorem dX5_forget_24 : decode cX5_forget 24 = .ok (.iload_n 2, 1) := by decide +kernel
theorem dX5_forget_25 : decode cX5_forget 25 = .ok (.ireturn, 1) := by decide +kernel
theorem dX5_kinds_0 : decode cX5_kinds 0 = .ok (.aload_n 0, 1) := by decide +kernel
theorem dX5_kinds_1 : decode cX5_kinds 1 = .ok (.getfield 28, 3) := by decide +kernel
theorem dX5_kinds_4 : decode cX5_kinds 4 = .ok (.iload_n 1, 1) := by decide +kernel
theorem dX5_kinds_5 : decode cX5_kinds 5 = .ok (.invokevirtual 126, 3) := by decide +kernel
theorem dX5_kinds_8 : decode cX5_kinds 8 = .ok (.ifCond .eq 11, 3) := by decide +kernel
theorem dX5_kinds_11 : decode cX5_kinds 11 = .ok (.aload_n 0, 1) := by decide +kernel
theorem dX5_kinds_12 : decode cX5_kinds 12 = .ok (.iload_n 1, 1) := by decide +kernel
theorem dX5_kinds_13 : decode cX5_kinds 13 = .ok (.invokevirtual 251, 3) := by decide +kernel
theorem dX5_kinds_16 : decode cX5_kinds 16 = .ok (.goto 4, 3) := by decide +kernel
theorem dX5_kinds_19 : decode cX5_kinds 19 = .ok (.iconst (-1), 1) := by decide +kernel
theorem dX5_kinds_20 : decode cX5_kinds 20 = .ok (.ireturn, 1) := by decide +kernel
theorem dX5_sets_0 : decode cX5_sets 0 = .ok (.iload_n 1, 1) := by decide +kernel
theorem dX5_sets_1 : decode cX5_sets 1 = .ok (.iconst 0, 1) := by decide +kernel
theorem dX5_sets_2 : decode cX5_sets 2 = .ok (.bipush 9, 2) := by decide +kernel
theorem dX5_sets_4 : decode cX5_sets 4 = .ok (.invokestatic 79, 3) := by decide +kernel
theorem dX5_sets_7 : decode cX5_sets 7 = .ok (.ifCond .ne 5, 3) := by decide +kernel
theorem dX5_sets_10 : decode cX5_sets 10 = .ok (.iconst (-1), 1) := by decide +kernel
theorem dX5_sets_11 : decode cX5_sets 11 = .ok (.ireturn, 1) := by decide +kernel
theorem dX5_sets_12 : decode cX5_sets 12 = .ok (.aload_n 0, 1) := by decide +kernel
theorem dX5_sets_13 : decode cX5_sets 13 = .ok (.getfield 32, 3) := by decide +kernel
theorem dX5_sets_16 : decode cX5_sets 16 = .ok (.aload_n 0, 1) := by decide +kernel
theorem dX5_sets_17 : decode cX5_sets 17 = .ok (.getfield 28, 3) := by decide +kernel
theorem dX5_sets_20 : decode cX5_sets 20 = .ok (.invokevirtual 104, 3) := by decide +kernel
theorem dX5_sets_23 : decode cX5_sets 23 = .ok (.iconst 0, 1) := by decide +kernel
theorem dX5_sets_24 : decode cX5_sets 24 = .ok (.istore_n 2, 1) := by decide +kernel
theorem dX5_sets_25 : decode cX5_sets 25 = .ok (.iconst 0, 1) := by decide +kernel
theorem dX5_sets_26 : decode cX5_sets 26 = .ok (.istore_n 3, 1) := by decide +kernel
theorem dX5_sets_27 : decode cX5_sets 27 = .ok (.iload_n 3, 1) := by decide +kernel
theorem dX5_sets_28 : decode cX5_sets 28 = .ok (.iconst 5, 1) := by decide +kernel
theorem dX5_sets_29 : decode cX5_sets 29 = .ok (.if_icmp .ge 36, 3) := by decide +kernel
theorem dX5_sets_32 : decode cX5_sets 32 = .ok (.aload_n 0, 1) := by decide +kernel
theorem dX5_sets_33 : decode cX5_sets 33 = .ok (.getfield 32, 3) := by decide +kernel
theorem dX5_sets_36 : decode cX5_sets 36 = .ok (.getfield 142, 3) := by decide +kernel
theorem dX5_sets_39 : decode cX5_sets 39 = .ok (.iload_n 1, 1) := by decide +kernel
theorem dX5_sets_40 : decode cX5_sets 40 = .ok (.iload_n 3, 1) := by decide +kernel
theorem dX5_sets_41 : decode cX5_sets 41 = .ok (.iastore, 1) := by decide +kernel
theorem dX5_sets_42 : decode cX5_sets 42 = .ok (.aload_n 0, 1) := by decide +kernel
theorem dX5_sets_43 : decode cX5_sets 43 = .ok (.aload_n 0, 1) := by decide +kernel
theorem dX5_sets_44 : decode cX5_sets 44 = .ok (.getfield 32, 3) := by decide +kernel
theorem dX5_sets_47 : decode cX5_sets 47 = .ok (.invokevirtual 254, 3) := by decide +kernel
theorem dX5_sets_50 : decode cX5_sets 50 = .ok (.ifCond .eq 9, 3) := by decide +kernel
theorem dX5_sets_53 : decode cX5_sets 53 = .ok (.iload_n 2, 1) := by decide +kernel
theorem dX5_sets_54 : decode cX5_sets 54 = .ok (.iconst 1, 1) := by decide +kernel
theorem dX5_sets_55 : decode cX5_sets 55 = .ok (.iload_n 3, 1) := by decide +kernel
theorem dX5_sets_56 : decode cX5_sets 56 = .ok (.ishl, 1) := by decide +kernel
theorem dX5_sets_57 : decode cX5_sets 57 = .ok (.ior, 1) := by decide +kernel
theorem dX5_sets_58 : decode cX5_sets 58 = .ok (.istore_n 2, 1) := by decide +kernel
theorem dX5_sets_59 : decode cX5_sets 59 = .ok (.iinc 3 1, 3) := by decide +kernel
theorem dX5_sets_62 : decode cX5_sets 62 = .ok (.goto (-35), 3) := by decide +kernel
theorem dX5_sets_65 : decode cX5_sets 65 = .ok (.iload_n 2, 1) := by decide +kernel
theorem dX5_sets_66 : decode cX5_sets 66 = .ok (.ireturn, 1) := by decide +kernel
theorem dX5_look_0 : decode cX5_look 0 = .ok (.aload_n 0, 1) := by decide +kernel
theorem dX5_look_1 : decode cX5_look 1 = .ok (.getfield 28, 3) := by decide +kernel
theorem dX5_look_4 : decode cX5_look 4 = .ok (.iload_n 1, 1) := by decide +kernel
theorem dX5_look_5 : decode cX5_look 5 = .ok (.invokevirtual 126, 3) := by decide +kernel
theorem dX5_look_8 : decode cX5_look 8 = .ok (.ifCond .eq 12, 3) := by decide +kernel
theorem dX5_look_11 : decode cX5_look 11 = .ok (.iload_n 2, 1) := by decide +kernel
theorem dX5_look_12 : decode cX5_look 12 = .ok (.iconst 0, 1) := by decide +kernel
theorem dX5_look_13 : decode cX5_look 13 = .ok (.iconst 1, 1) := by decide +kernel
theorem dX5_look_14 : decode cX5_look 14 = .ok (.invokestatic 79, 3) := by decide +kernel
theorem dX5_look_17 : decode cX5_look 17 = .ok (.ifCond .ne 5, 3) := by decide +kernel
theorem dX5_look_20 : decode cX5_look 20 = .ok (.iconst (-1), 1) := by decide +kernel
theorem dX5_look_21 : decode cX5_look 21 = .ok (.ireturn, 1) := by decide +kernel
theorem dX5_look_22 : decode cX5_look 22 = .ok (.aload_n 0, 1) := by decide +kernel
theorem dX5_look_23 : decode cX5_look 23 = .ok (.iload_n 1, 1) := by decide +kernel
theorem dX5_look_24 : decode cX5_look 24 = .ok (.invokevirtual 251, 3) := by decide +kernel
theorem dX5_look_27 : decode cX5_look 27 = .ok (.istore_n 3, 1) := by decide +kernel
theorem dX5_look_28 : decode cX5_look 28 = .ok (.iload_n 3, 1) := by decide +kernel
theorem dX5_look_29 : decode cX5_look 29 = .ok (.invokestatic 258, 3) := by decide +kernel
theorem dX5_look_32 : decode cX5_look 32 = .ok (.istore 4, 2) := by decide +kernel
theorem dX5_look_34 : decode cX5_look 34 = .ok (.bipush (-4), 2) := by decide +kernel
theorem dX5_look_36 : decode cX5_look 36 = .ok (.istore 5, 2) := by decide +kernel
theorem dX5_look_38 : decode cX5_look 38 = .ok (.iconst 0, 1) := by decide +kernel
theorem dX5_look_39 : decode cX5_look 39 = .ok (.istore 6, 2) := by decide +kernel
theorem dX5_look_41 : decode cX5_look 41 = .ok (.iload 6, 2) := by decide +kernel
theorem dX5_look_43 : decode cX5_look 43 = .ok (.bipush 24, 2) := by decide +kernel
theorem dX5_look_45 : decode cX5_look 45 = .ok (.if_icmp .gt 34, 3) := by decide +kernel
theorem dX5_look_48 : decode cX5_look 48 = .ok (.aload_n 0, 1) := by decide +kernel
theorem dX5_look_49 : decode cX5_look 49 = .ok (.iload_n 1, 1) := by decide +kernel
theorem dX5_look_50 : decode cX5_look 50 = .ok (.iload_n 3, 1) := by decide +kernel
theorem dX5_look_51 : decode cX5_look 51 = .ok (.iload 6, 2) := by decide +kernel
theorem dX5_look_53 : decode cX5_look 53 = .ok (.invokevirtual 263, 3) := by decide +kernel
theorem dX5_look_56 : decode cX5_look 56 = .ok (.istore 7, 2) := by decide +kernel
theorem dX5_look_58 : decode cX5_look 58 = .ok (.iload 7, 2) := by decide +kernel
theorem dX5_look_60 : decode cX5_look 60 = .ok (.iload 4, 2) := by decide +kernel
theorem dX5_look_62 : decode cX5_look 62 = .ok (.if_icmp .ge 11, 3) := by decide +kernel
theorem dX5_look_65 : decode cX5_look 65 = .ok (.iload 7, 2) := by decide +kernel
theorem dX5_look_67 : decode cX5_look 67 = .ok (.istore 4, 2) := by decide +kernel
theorem dX5_look_69 : decode cX5_look 69 = .ok (.iload 6, 2) := by decide +kernel
theorem dX5_look_71 : decode cX5_look 71 = .ok (.istore 5, 2) := by decide +kernel
theorem dX5_look_73 : decode cX5_look 73 = .ok (.iinc 6 1, 3) := by decide +kernel
theorem dX5_look_76 : decode cX5_look 76 = .ok (.goto (-35), 3) := by decide +kernel
theorem dX5_look_79 : decode cX5_look 79 = .ok (.iload 5, 2) := by decide +kernel
theorem dX5_look_81 : decode cX5_look 81 = .ok (.bipush (-4), 2) := by decide +kernel
theorem dX5_look_83 : decode cX5_look 83 = .ok (.if_icmp .ne 6, 3) := by decide +kernel
theorem dX5_look_86 : decode cX5_look 86 = .ok (.bipush (-4), 2) := by decide +kernel
theorem dX5_look_88 : decode cX5_look 88 = .ok (.ireturn, 1) := by decide +kernel
theorem dX5_look_89 : decode cX5_look 89 = .ok (.iload_n 2, 1) := by decide +kernel
theorem dX5_look_90 : decode cX5_look 90 = .ok (.ifCond .ne 8, 3) := by decide +kernel
theorem dX5_look_93 : decode cX5_look 93 = .ok (.iload 5, 2) := by decide +kernel
theorem dX5_look_95 : decode cX5_look 95 = .ok (.goto 5, 3) := by decide +kernel
theorem dX5_look_98 : decode cX5_look 98 = .ok (.iload 4, 2) := by decide +kernel
theorem dX5_look_100 : decode cX5_look 100 = .ok (.ireturn, 1) := by decide +kernel
theorem dX5_drift_0 : decode cX5_drift 0 = .ok (.iload_n 2, 1) := by decide +kernel
theorem dX5_drift_1 : decode cX5_drift 1 = .ok (.iconst 1, 1) := by decide +kernel
theorem dX5_drift_2 : decode cX5_drift 2 = .ok (.bipush 60, 2) := by decide +kernel
theorem dX5_drift_4 : decode cX5_drift 4 = .ok (.invokestatic 79, 3) := by decide +kernel
theorem dX5_drift_7 : decode cX5_drift 7 = .ok (.ifCond .eq 12, 3) := by decide +kernel
theorem dX5_drift_10 : decode cX5_drift 10 = .ok (.iload_n 3, 1) := by decide +kernel
theorem dX5_drift_11 : decode cX5_drift 11 = .ok (.iconst 0, 1) := by decide +kernel
theorem dX5_drift_12 : decode cX5_drift 12 = .ok (.iconst 1, 1) := by decide +kernel
theorem dX5_drift_13 : decode cX5_drift 13 = .ok (.invokestatic 79, 3) := by decide +kernel
theorem dX5_drift_16 : decode cX5_drift 16 = .ok (.ifCond .ne 5, 3) := by decide +kernel
theorem dX5_drift_19 : decode cX5_drift 19 = .ok (.iconst (-1), 1) := by decide +kernel
theorem dX5_drift_20 : decode cX5_drift 20 = .ok (.ireturn, 1) := by decide +kernel
theorem dX5_drift_21 : decode cX5_drift 21 = .ok (.aload_n 0, 1) := by decide +kernel
theorem dX5_drift_22 : decode cX5_drift 22 = .ok (.getfield 28, 3) := by decide +kernel
theorem dX5_drift_25 : decode cX5_drift 25 = .ok (.getfield 111, 3) := by decide +kernel
theorem dX5_drift_28 : decode cX5_drift 28 = .ok (.istore 4, 2) := by decide +kernel
theorem dX5_drift_30 : decode cX5_drift 30 = .ok (.iload 4, 2) := by decide +kernel
theorem dX5_drift_32 : decode cX5_drift 32 = .ok (.iconst 1, 1) := by decide +kernel
theorem dX5_drift_33 : decode cX5_drift 33 = .ok (.if_icmp .ge 6, 3) := by decide +kernel
theorem dX5_drift_36 : decode cX5_drift 36 = .ok (.bipush (-2), 2) := by decide +kernel
theorem dX5_drift_38 : decode cX5_drift 38 = .ok (.ireturn, 1) := by decide +kernel
theorem dX5_drift_39 : decode cX5_drift 39 = .ok (.aload_n 0, 1) := by decide +kernel
theorem dX5_drift_40 : decode cX5_drift 40 = .ok (.getfield 32, 3) := by decide +kernel
theorem dX5_drift_43 : decode cX5_drift 43 = .ok (.aload_n 0, 1) := by decide +kernel
theorem dX5_drift_44 : decode cX5_drift 44 = .ok (.getfield 28, 3) := by decide +kernel
theorem dX5_drift_47 : decode cX5_drift 47 = .ok (.invokevirtual 104, 3) := by decide +kernel
theorem dX5_drift_50 : decode cX5_drift 50 = .ok (.aload_n 0, 1) := by decide +kernel
theorem dX5_drift_51 : decode cX5_drift 51 = .ok (.getfield 53, 3) := by decide +kernel
theorem dX5_drift_54 : decode cX5_drift 54 = .ok (.aload_n 0, 1) := by decide +kernel
theorem dX5_drift_55 : decode cX5_drift 55 = .ok (.getfield 32, 3) := by decide +kernel
theorem dX5_drift_58 : decode cX5_drift 58 = .ok (.invokevirtual 189, 3) := by decide +kernel
theorem dX5_drift_61 : decode cX5_drift 61 = .ok (.iload_n 1, 1) := by decide +kernel
theorem dX5_drift_62 : decode cX5_drift 62 = .ok (.istore 5, 2) := by decide +kernel
theorem dX5_drift_64 : decode cX5_drift 64 = .ok (.iconst 0, 1) := by decide +kernel
theorem dX5_drift_65 : decode cX5_drift 65 = .ok (.istore 6, 2) := by decide +kernel
theorem dX5_drift_67 : decode cX5_drift 67 = .ok (.iconst 0, 1) := by decide +kernel
theorem dX5_drift_68 : decode cX5_drift 68 = .ok (.istore 7, 2) := by decide +kernel
theorem dX5_drift_70 : decode cX5_drift 70 = .ok (.iload 7, 2) := by decide +kernel
theorem dX5_drift_72 : decode cX5_drift 72 = .ok (.iload_n 2, 1) := by decide +kernel
theorem dX5_drift_73 : decode cX5_drift 73 = .ok (.if_icmp .ge 98, 3) := by decide +kernel
theorem dX5_drift_76 : decode cX5_drift 76 = .ok (.iload 5, 2) := by decide +kernel
theorem dX5_drift_78 : decode cX5_drift 78 = .ok (.ldc_w 266, 3) := by decide +kernel
theorem dX5_drift_81 : decode cX5_drift 81 = .ok (.imul, 1) := by decide +kernel
theorem dX5_drift_82 : decode cX5_drift 82 = .ok (.sipush 12345, 3) := by decide +kernel
theorem dX5_drift_85 : decode cX5_drift 85 = .ok (.iadd, 1) := by decide +kernel
theorem dX5_drift_86 : decode cX5_drift 86 = .ok (.istore 5, 2) := by decide +kernel
theorem dX5_drift_88 : decode cX5_drift 88 = .ok (.iload 5, 2) := by decide +kernel
theorem dX5_drift_90 : decode cX5_drift 90 = .ok (.bipush 16, 2) := by decide +kernel
theorem dX5_drift_92 : decode cX5_drift 92 = .ok (.iushr, 1) := by decide +kernel
theorem dX5_drift_93 : decode cX5_drift 93 = .ok (.sipush 32767, 3) := by decide +kernel
theorem dX5_drift_96 : decode cX5_drift 96 = .ok (.iand, 1) := by decide +kernel
theorem dX5_drift_97 : decode cX5_drift 97 = .ok (.istore 8, 2) := by decide +kernel
theorem dX5_drift_99 : decode cX5_drift 99 = .ok (.iload 8, 2) := by decide +kernel
theorem dX5_drift_101 : decode cX5_drift 101 = .ok (.iload 4, 2) := by decide +kernel
theorem dX5_drift_103 : decode cX5_drift 103 = .ok (.irem, 1) := by decide +kernel
theorem dX5_drift_104 : decode cX5_drift 104 = .ok (.istore 9, 2) := by decide +kernel
theorem dX5_drift_106 : decode cX5_drift 106 = .ok (.aload_n 0, 1) := by decide +kernel
theorem dX5_drift_107 : decode cX5_drift 107 = .ok (.getfield 32, 3) := by decide +kernel
theorem dX5_drift_110 : decode cX5_drift 110 = .ok (.iload 9, 2) := by decide +kernel
theorem dX5_drift_112 : decode cX5_drift 112 = .ok (.iload 8, 2) := by decide +kernel
theorem dX5_drift_114 : decode cX5_drift 114 = .ok (.bipush 8, 2) := by decide +kernel
theorem dX5_drift_116 : decode cX5_drift 116 = .ok (.idiv, 1) := by decide +kernel
theorem dX5_drift_117 : decode cX5_drift 117 = .ok (.bipush 10, 2) := by decide +kernel
theorem dX5_drift_119 : decode cX5_drift 119 = .ok (.irem, 1) := by decide +kernel
theorem dX5_drift_120 : decode cX5_drift 120 = .ok (.iconst 1, 1) := by decide +kernel
theorem dX5_drift_121 : decode cX5_drift 121 = .ok (.iload 8, 2) := by decide +kernel
theorem dX5_drift_123 : decode cX5_drift 123 = .ok (.sipush 128, 3) := by decide +kernel
theorem dX5_drift_126 : decode cX5_drift 126 = .ok (.idiv, 1) := by decide +kernel
theorem dX5_drift_127 : decode cX5_drift 127 = .ok (.bipush 9, 2) := by decide +kernel
theorem dX5_drift_129 : decode cX5_drift 129 = .ok (.irem, 1) := by decide +kernel
theorem dX5_drift_130 : decode cX5_drift 130 = .ok (.iadd, 1) := by decide +kernel
theorem dX5_drift_131 : decode cX5_drift 131 = .ok (.invokevirtual 216, 3) := by decide +kernel
theorem dX5_drift_134 : decode cX5_drift 134 = .ok (.aload_n 0, 1) := by decide +kernel
theorem dX5_drift_135 : decode cX5_drift 135 = .ok (.getfield 53, 3) := by decide +kernel
theorem dX5_drift_138 : decode cX5_drift 138 = .ok (.aload_n 0, 1) := by decide +kernel
theorem dX5_drift_139 : decode cX5_drift 139 = .ok (.getfield 32, 3) := by decide +kernel
theorem dX5_drift_142 : decode cX5_drift 142 = .ok (.iload 9, 2) := by decide +kernel
theorem dX5_drift_144 : decode cX5_drift 144 = .ok (.bipush 24, 2) := by decide +kernel
theorem dX5_drift_146 : decode cX5_drift 146 = .ok (.invokevirtual 166, 3) := by decide +kernel
theorem dX5_drift_149 : decode cX5_drift 149 = .ok (.iload 6, 2) := by decide +kernel
theorem dX5_drift_151 : decode cX5_drift 151 = .ok (.aload_n 0, 1) := by decide +kernel
theorem dX5_drift_152 : decode cX5_drift 152 = .ok (.getfield 53, 3) := by decide +kernel
theorem dX5_drift_155 : decode cX5_drift 155 = .ok (.aload_n 0, 1) := by decide +kernel
theorem dX5_drift_156 : decode cX5_drift 156 = .ok (.getfield 32, 3) := by decide +kernel
theorem dX5_drift_159 : decode cX5_drift 159 = .ok (.invokevirtual 199, 3) := by decide +kernel
theorem dX5_drift_162 : decode cX5_drift 162 = .ok (.iadd, 1) := by decide +kernel
theorem dX5_drift_163 : decode cX5_drift 163 = .ok (.istore 6, 2) := by decide +kernel
theorem dX5_drift_165 : decode cX5_drift 165 = .ok (.iinc 7 1, 3) := by decide +kernel
theorem dX5_drift_168 : decode cX5_drift 168 = .ok (.goto (-98), 3) := by decide +kernel
theorem dX5_drift_171 : decode cX5_drift 171 = .ok (.iload_n 3, 1) := by decide +kernel
theorem dX5_drift_172 : decode cX5_drift 172 = .ok (.ifCond .ne 8, 3) := by decide +kernel
theorem dX5_drift_175 : decode cX5_drift 175 = .ok (.iload 6, 2) := by decide +kernel
theorem dX5_drift_177 : decode cX5_drift 177 = .ok (.goto 15, 3) := by decide +kernel
theorem dX5_drift_180 : decode cX5_drift 180 = .ok (.aload_n 0, 1) := by decide +kernel
theorem dX5_drift_181 : decode cX5_drift 181 = .ok (.getfield 53, 3) := by decide +kernel
theorem dX5_drift_184 : decode cX5_drift 184 = .ok (.aload_n 0, 1) := by decide +kernel
theorem dX5_drift_185 : decode cX5_drift 185 = .ok (.getfield 32, 3) := by decide +kernel
theorem dX5_drift_188 : decode cX5_drift 188 = .ok (.iconst 1, 1) := by decide +kernel
theorem dX5_drift_189 : decode cX5_drift 189 = .ok (.invokevirtual 203, 3) := by decide +kernel
theorem dX5_drift_192 : decode cX5_drift 192 = .ok (.ireturn, 1) := by decide +kernel
theorem dX5_keep_0 : decode cX5_keep 0 = .ok (.iload_n 1, 1) := by decide +kernel
theorem dX5_keep_1 : decode cX5_keep 1 = .ok (.iconst 0, 1) := by decide +kernel
theorem dX5_keep_2 : decode cX5_keep 2 = .ok (.iconst 1, 1) := by decide +kernel
theorem dX5_keep_3 : decode cX5_keep 3 = .ok (.invokestatic 79, 3) := by decide +kernel
theorem dX5_keep_6 : decode cX5_keep 6 = .ok (.ifCond .ne 5, 3) := by decide +kernel
theorem dX5_keep_9 : decode cX5_keep 9 = .ok (.iconst (-1), 1) := by decide +kernel
theorem dX5_keep_10 : decode cX5_keep 10 = .ok (.ireturn, 1) := by decide +kernel
theorem dX5_keep_11 : decode cX5_keep 11 = .ok (.aload_n 0, 1) := by decide +kernel
theorem dX5_keep_12 : decode cX5_keep 12 = .ok (.getfield 39, 3) := by decide +kernel
theorem dX5_keep_15 : decode cX5_keep 15 = .ok (.iload_n 1, 1) := by decide +kernel
theorem dX5_keep_16 : decode cX5_keep 16 = .ok (.baload, 1) := by decide +kernel
theorem dX5_keep_17 : decode cX5_keep 17 = .ok (.ifCond .eq 7, 3) := by decide +kernel
theorem dX5_keep_20 : decode cX5_keep 20 = .ok (.iconst 1, 1) := by decide +kernel
theorem dX5_keep_21 : decode cX5_keep 21 = .ok (.goto 4, 3) := by decide +kernel
theorem dX5_keep_24 : decode cX5_keep 24 = .ok (.iconst 0, 1) := by decide +kernel
theorem dX5_keep_25 : decode cX5_keep 25 = .ok (.istore_n 2, 1) := by decide +kernel
theorem dX5_keep_26 : decode cX5_keep 26 = .ok (.aload_n 0, 1) := by decide +kernel
theorem dX5_keep_27 : decode cX5_keep 27 = .ok (.getfield 35, 3) := by decide +kernel
theorem dX5_keep_30 : decode cX5_keep 30 = .ok (.iload_n 1, 1) := by decide +kernel
theorem dX5_keep_31 : decode cX5_keep 31 = .ok (.aaload, 1) := by decide +kernel
theorem dX5_keep_32 : decode cX5_keep 32 = .ok (.aload_n 0, 1) := by decide +kernel
theorem dX5_keep_33 : decode cX5_keep 33 = .ok (.getfield 28, 3) := by decide +kernel
theorem dX5_keep_36 : decode cX5_keep 36 = .ok (.invokevirtual 104, 3) := by decide +kernel
theorem dX5_keep_39 : decode cX5_keep 39 = .ok (.aload_n 0, 1) := by decide +kernel
theorem dX5_keep_40 : decode cX5_keep 40 = .ok (.getfield 39, 3) := by decide +kernel
theorem dX5_keep_43 : decode cX5_keep 43 = .ok (.iload_n 1, 1) := by decide +kernel
theorem dX5_keep_44 : decode cX5_keep 44 = .ok (.iconst 1, 1) := by decide +kernel
theorem dX5_keep_45 : decode cX5_keep 45 = .ok (.bastore, 1) := by decide +kernel
theorem dX5_keep_46 : decode cX5_keep 46 = .ok (.iload_n 2, 1) := by decide +kernel
theorem dX5_keep_47 : decode cX5_keep 47 = .ok (.ireturn, 1) := by decide +kernel
theorem dX5_back_0 : decode cX5_back 0 = .ok (.iload_n 1, 1) := by decide +kernel
theorem dX5_back_1 : decode cX5_back 1 = .ok (.iconst 0, 1) := by decide +kernel
theorem dX5_back_2 : decode cX5_back 2 = .ok (.iconst 1, 1) := by decide +kernel
theorem dX5_back_3 : decode cX5_back 3 = .ok (.invokestatic 79, 3) := by decide +kernel
theorem dX5_back_6 : decode cX5_back 6 = .ok (.ifCond .ne 5, 3) := by decide +kernel
theorem dX5_back_9 : decode cX5_back 9 = .ok (.iconst (-1), 1) := by decide +kernel
theorem dX5_back_10 : decode cX5_back 10 = .ok (.ireturn, 1) := by decide +kernel
theorem dX5_back_11 : decode cX5_back 11 = .ok (.aload_n 0, 1) := by decide +kernel
theorem dX5_back_12 : decode cX5_back 12 = .ok (.getfield 39, 3) := by decide +kernel
theorem dX5_back_15 : decode cX5_back 15 = .ok (.iload_n 1, 1) := by decide +kernel
theorem dX5_back_16 : decode cX5_back 16 = .ok (.baload, 1) := by decide +kernel
theorem dX5_back_17 : decode cX5_back 17 = .ok (.ifCond .ne 6, 3) := by decide +kernel
theorem dX5_back_20 : decode cX5_back 20 = .ok (.bipush (-2), 2) := by decide +kernel
theorem dX5_back_22 : decode cX5_back 22 = .ok (.ireturn, 1) := by decide +kernel
theorem dX5_back_23 : decode cX5_back 23 = .ok (.aload_n 0, 1) := by decide +kernel
theorem dX5_back_24 : decode cX5_back 24 = .ok (.getfield 28, 3) := by decide +kernel
theorem dX5_back_27 : decode cX5_back 27 = .ok (.aload_n 0, 1) := by decide +kernel
theorem dX5_back_28 : decode cX5_back 28 = .ok (.getfield 35, 3) := by decide +kernel
theorem dX5_back_31 : decode cX5_back 31 = .ok (.iload_n 1, 1) := by decide +kernel
theorem dX5_back_32 : decode cX5_back 32 = .ok (.aaload, 1) := by decide +kernel
theorem dX5_back_33 : decode cX5_back 33 = .ok (.invokevirtual 104, 3) := by decide +kernel
theorem dX5_back_36 : decode cX5_back 36 = .ok (.aload_n 0, 1) := by decide +kernel
theorem dX5_back_37 : decode cX5_back 37 = .ok (.getfield 28, 3) := by decide +kernel
theorem dX5_back_40 : decode cX5_back 40 = .ok (.invokevirtual 120, 3) := by decide +kernel
theorem dX5_back_43 : decode cX5_back 43 = .ok (.ireturn, 1) := by decide +kernel
theorem dX5_sheet_0 : decode cX5_sheet 0 = .ok (.iload_n 1, 1) := by decide +kernel
theorem dX5_sheet_1 : decode cX5_sheet 1 = .ok (.iconst 0, 1) := by decide +kernel
theorem dX5_sheet_2 : decode cX5_sheet 2 = .ok (.iconst 3, 1) := by decide +kernel
theorem dX5_sheet_3 : decode cX5_sheet 3 = .ok (.invokestatic 79, 3) := by decide +kernel
theorem dX5_sheet_6 : decode cX5_sheet 6 = .ok (.ifCond .eq 18, 3) := by decide +kernel
theorem dX5_sheet_9 : decode cX5_sheet 9 = .ok (.iload_n 2, 1) := by decide +kernel
theorem dX5_sheet_10 : decode cX5_sheet 10 = .ok (.iconst 0, 1) := by decide +kernel
theorem dX5_sheet_11 : decode cX5_sheet 11 = .ok (.iconst 2, 1) := by decide +kernel
theorem dX5_sheet_12 : decode cX5_sheet 12 = .ok (.invokestatic 79, 3) := by decide +kernel
theorem dX5_sheet_15 : decode cX5_sheet 15 = .ok (.ifCond .eq 9, 3) := by decide +kernel
theorem dX5_sheet_18 : decode cX5_sheet 18 = .ok (.iload_n 3, 1) := by decide +kernel
theorem dX5_sheet_19 : decode cX5_sheet 19 = .ok (.bipush 40, 2) := by decide +kernel
theorem dX5_sheet_21 : decode cX5_sheet 21 = .ok (.if_icmp .le 5, 3) := by decide +kernel
theorem dX5_sheet_24 : decode cX5_sheet 24 = .ok (.iconst (-1), 1) := by decide +kernel
theorem dX5_sheet_25 : decode cX5_sheet 25 = .ok (.ireturn, 1) := by decide +kernel
theorem dX5_sheet_26 : decode cX5_sheet 26 = .ok (.iload_n 3, 1) := by decide +kernel
theorem dX5_sheet_27 : decode cX5_sheet 27 = .ok (.ifCond .ge 6, 3) := by decide +kernel
theorem dX5_sheet_30 : decode cX5_sheet 30 = .ok (.bipush (-14), 2) := by decide +kernel
theorem dX5_sheet_32 : decode cX5_sheet 32 = .ok (.ireturn, 1) := by decide +kernel
theorem dX5_sheet_33 : decode cX5_sheet 33 = .ok (.aload_n 0, 1) := by decide +kernel
theorem dX5_sheet_34 : decode cX5_sheet 34 = .ok (.getfield 46, 3) := by decide +kernel
theorem dX5_sheet_37 : decode cX5_sheet 37 = .ok (.iload_n 1, 1) := by decide +kernel
theorem dX5_sheet_38 : decode cX5_sheet 38 = .ok (.aaload, 1) := by decide +kernel
theorem dX5_sheet_39 : decode cX5_sheet 39 = .ok (.iload_n 2, 1) := by decide +kernel
theorem dX5_sheet_40 : decode cX5_sheet 40 = .ok (.iload_n 3, 1) := by decide +kernel
theorem dX5_sheet_41 : decode cX5_sheet 41 = .ok (.invokevirtual 267, 3) := by decide +kernel
theorem dX5_sheet_44 : decode cX5_sheet 44 = .ok (.iconst 1, 1) := by decide +kernel
theorem dX5_sheet_45 : decode cX5_sheet 45 = .ok (.ireturn, 1) := by decide +kernel
theorem dX5_lay_0 : decode cX5_lay 0 = .ok (.iload_n 1, 1) := by decide +kernel
theorem dX5_lay_1 : decode cX5_lay 1 = .ok (.iconst 0, 1) := by decide +kernel
theorem dX5_lay_2 : decode cX5_lay 2 = .ok (.iconst 3, 1) := by decide +kernel
theorem dX5_lay_3 : decode cX5_lay 3 = .ok (.invokestatic 79, 3) := by decide +kernel
theorem dX5_lay_6 : decode cX5_lay 6 = .ok (.ifCond .ne 5, 3) := by decide +kernel
theorem dX5_lay_9 : decode cX5_lay 9 = .ok (.iconst (-1), 1) := by decide +kernel
theorem dX5_lay_10 : decode cX5_lay 10 = .ok (.ireturn, 1) := by decide +kernel
theorem dX5_lay_11 : decode cX5_lay 11 = .ok (.aload_n 0, 1) := by decide +kernel
theorem dX5_lay_12 : decode cX5_lay 12 = .ok (.getfield 46, 3) := by decide +kernel
theorem dX5_lay_15 : decode cX5_lay 15 = .ok (.iload_n 1, 1) := by decide +kernel
theorem dX5_lay_16 : decode cX5_lay 16 = .ok (.aaload, 1) := by decide +kernel
theorem dX5_lay_17 : decode cX5_lay 17 = .ok (.astore 4, 2) := by decide +kernel
theorem dX5_lay_19 : decode cX5_lay 19 = .ok (.aload 4, 2) := by decide +kernel
theorem dX5_lay_21 : decode cX5_lay 21 = .ok (.aload 4, 2) := by decide +kernel
theorem dX5_lay_23 : decode cX5_lay 23 = .ok (.getfield 270, 3) := by decide +kernel
theorem dX5_lay_26 : decode cX5_lay 26 = .ok (.iload_n 2, 1) := by decide +kernel
theorem dX5_lay_27 : decode cX5_lay 27 = .ok (.iconst 1, 1) := by decide +kernel
theorem dX5_lay_28 : decode cX5_lay 28 = .ok (.invokevirtual 273, 3) := by decide +kernel
theorem dX5_lay_31 : decode cX5_lay 31 = .ok (.istore 5, 2) := by decide +kernel
theorem dX5_lay_33 : decode cX5_lay 33 = .ok (.iload 5, 2) := by decide +kernel
theorem dX5_lay_35 : decode cX5_lay 35 = .ok (.ifCond .eq 9, 3) := by decide +kernel
theorem dX5_lay_38 : decode cX5_lay 38 = .ok (.bipush (-10), 2) := by decide +kernel
theorem dX5_lay_40 : decode cX5_lay 40 = .ok (.iload 5, 2) := by decide +kernel
theorem dX5_lay_42 : decode cX5_lay 42 = .ok (.isub, 1) := by decide +kernel
theorem dX5_lay_43 : decode cX5_lay 43 = .ok (.ireturn, 1) := by decide +kernel
theorem dX5_lay_44 : decode cX5_lay 44 = .ok (.aload 4, 2) := by decide +kernel
theorem dX5_lay_46 : decode cX5_lay 46 = .ok (.iload_n 2, 1) := by decide +kernel
theorem dX5_lay_47 : decode cX5_lay 47 = .ok (.iload_n 3, 1) := by decide +kernel
theorem dX5_lay_48 : decode cX5_lay 48 = .ok (.invokevirtual 276, 3) := by decide +kernel
theorem dX5_lay_51 : decode cX5_lay 51 = .ok (.iconst 1, 1) := by decide +kernel
theorem dX5_lay_52 : decode cX5_lay 52 = .ok (.ireturn, 1) := by decide +kernel
theorem dX5_read_0 : decode cX5_read 0 = .ok (.iload_n 1, 1) := by decide +kernel
theorem dX5_read_1 : decode cX5_read 1 = .ok (.iconst 0, 1) := by decide +kernel
theorem dX5_read_2 : decode cX5_read 2 = .ok (.iconst 3, 1) := by decide +kernel
theorem dX5_read_3 : decode cX5_read 3 = .ok (.invokestatic 79, 3) := by decide +kernel
theorem dX5_read_6 : decode cX5_read 6 = .ok (.ifCond .eq 23, 3) := by decide +kernel
theorem dX5_read_9 : decode cX5_read 9 = .ok (.iload_n 2, 1) := by decide +kernel
theorem dX5_read_10 : decode cX5_read 10 = .ok (.iconst 0, 1) := by decide +kernel
theorem dX5_read_11 : decode cX5_read 11 = .ok (.iconst 2, 1) := by decide +kernel
theorem dX5_read_12 : decode cX5_read 12 = .ok (.invokestatic 79, 3) := by decide +kernel
theorem dX5_read_15 : decode cX5_read 15 = .ok (.ifCond .eq 14, 3) := by decide +kernel
theorem dX5_read_18 : decode cX5_read 18 = .ok (.iload 4, 2) := by decide +kernel
theorem dX5_read_20 : decode cX5_read 20 = .ok (.iconst 0, 1) := by decide +kernel
theorem dX5_read_21 : decode cX5_read 21 = .ok (.bipush 13, 2) := by decide +kernel
theorem dX5_read_23 : decode cX5_read 23 = .ok (.invokestatic 79, 3) := by decide +kernel
theorem dX5_read_26 : decode cX5_read 26 = .ok (.ifCond .ne 5, 3) := by decide +kernel
theorem dX5_read_29 : decode cX5_read 29 = .ok (.iconst (-1), 1) := by decide +kernel
theorem dX5_read_30 : decode cX5_read 30 = .ok (.ireturn, 1) := by decide +kernel
theorem dX5_read_31 : decode cX5_read 31 = .ok (.aload_n 0, 1) := by decide +kernel
theorem dX5_read_32 : decode cX5_read 32 = .ok (.getfield 46, 3) := by decide +kernel
theorem dX5_read_35 : decode cX5_read 35 = .ok (.iload_n 1, 1) := by decide +kernel
theorem dX5_read_36 : decode cX5_read 36 = .ok (.aaload, 1) := by decide +kernel
theorem dX5_read_37 : decode cX5_read 37 = .ok (.astore 5, 2) := by decide +kernel
theorem dX5_read_39 : decode cX5_read 39 = .ok (.aload_n 0, 1) := by decide +kernel
theorem dX5_read_40 : decode cX5_read 40 = .ok (.getfield 28, 3) := by decide +kernel
theorem dX5_read_43 : decode cX5_read 43 = .ok (.getfield 111, 3) := by decide +kernel
theorem dX5_read_46 : decode cX5_read 46 = .ok (.istore 6, 2) := by decide +kernel
theorem dX5_read_48 : decode cX5_read 48 = .ok (.iconst 0, 1) := by decide +kernel
theorem dX5_read_49 : decode cX5_read 49 = .ok (.istore 7, 2) := by decide +kernel
theorem dX5_read_51 : decode cX5_read 51 = .ok (.iconst 0, 1) := by decide +kernel
theorem dX5_read_52 : decode cX5_read 52 = .ok (.istore 8, 2) := by decide +kernel
theorem dX5_read_54 : decode cX5_read 54 = .ok (.iload 7, 2) := by decide +kernel
theorem dX5_read_56 : decode cX5_read 56 = .ok (.iload 4, 2) := by decide +kernel
theorem dX5_read_58 : decode cX5_read 58 = .ok (.if_icmp .ge 86, 3) := by decide +kernel
theorem dX5_read_61 : decode cX5_read 61 = .ok (.iload_n 3, 1) := by decide +kernel
theorem dX5_read_62 : decode cX5_read 62 = .ok (.iconst 3, 1) := by decide +kernel
theorem dX5_read_63 : decode cX5_read 63 = .ok (.iload 7, 2) := by decide +kernel
theorem dX5_read_65 : decode cX5_read 65 = .ok (.imul, 1) := by decide +kernel
theorem dX5_read_66 : decode cX5_read 66 = .ok (.iadd, 1) := by decide +kernel
theorem dX5_read_67 : decode cX5_read 67 = .ok (.istore 9, 2) := by decide +kernel
theorem dX5_read_69 : decode cX5_read 69 = .ok (.aload 5, 2) := by decide +kernel
theorem dX5_read_71 : decode cX5_read 71 = .ok (.iload_n 2, 1) := by decide +kernel
theorem dX5_read_72 : decode cX5_read 72 = .ok (.iload 9, 2) := by decide +kernel
theorem dX5_read_74 : decode cX5_read 74 = .ok (.iconst 3, 1) := by decide +kernel
theorem dX5_read_75 : decode cX5_read 75 = .ok (.invokevirtual 273, 3) := by decide +kernel
theorem dX5_read_78 : decode cX5_read 78 = .ok (.istore 8, 2) := by decide +kernel
theorem dX5_read_80 : decode cX5_read 80 = .ok (.iload 8, 2) := by decide +kernel
theorem dX5_read_82 : decode cX5_read 82 = .ok (.ifCond .eq 6, 3) := by decide +kernel
theorem dX5_read_85 : decode cX5_read 85 = .ok (.goto 59, 3) := by decide +kernel
theorem dX5_read_88 : decode cX5_read 88 = .ok (.aload_n 0, 1) := by decide +kernel
theorem dX5_read_89 : decode cX5_read 89 = .ok (.aload 5, 2) := by decide +kernel
theorem dX5_read_91 : decode cX5_read 91 = .ok (.getfield 279, 3) := by decide +kernel
theorem dX5_read_94 : decode cX5_read 94 = .ok (.iload 9, 2) := by decide +kernel
theorem dX5_read_96 : decode cX5_read 96 = .ok (.iaload, 1) := by decide +kernel
theorem dX5_read_97 : decode cX5_read 97 = .ok (.aload 5, 2) := by decide +kernel
theorem dX5_read_99 : decode cX5_read 99 = .ok (.getfield 279, 3) := by decide +kernel
theorem dX5_read_102 : decode cX5_read 102 = .ok (.iload 9, 2) := by decide +kernel
theorem dX5_read_104 : decode cX5_read 104 = .ok (.iconst 1, 1) := by decide +kernel
theorem dX5_read_105 : decode cX5_read 105 = .ok (.iadd, 1) := by decide +kernel
theorem dX5_read_106 : decode cX5_read 106 = .ok (.iaload, 1) := by decide +kernel
theorem dX5_read_107 : decode cX5_read 107 = .ok (.aload 5, 2) := by decide +kernel
theorem dX5_read_109 : decode cX5_read 109 = .ok (.getfield 279, 3) := by decide +kernel
theorem dX5_read_112 : decode cX5_read 112 = .ok (.iload 9, 2) := by decide +kernel
theorem dX5_read_114 : decode cX5_read 114 = .ok (.iconst 2, 1) := by decide +kernel
theorem dX5_read_115 : decode cX5_read 115 = .ok (.iadd, 1) := by decide +kernel
theorem dX5_read_116 : decode cX5_read 116 = .ok (.iaload, 1) := by decide +kernel
theorem dX5_read_117 : decode cX5_read 117 = .ok (.invokevirtual 162, 3) := by decide +kernel
theorem dX5_read_120 : decode cX5_read 120 = .ok (.ifCond .ge 18, 3) := by decide +kernel
theorem dX5_read_123 : decode cX5_read 123 = .ok (.aload_n 0, 1) := by decide +kernel
theorem dX5_read_124 : decode cX5_read 124 = .ok (.getfield 28, 3) := by decide +kernel
theorem dX5_read_127 : decode cX5_read 127 = .ok (.iload 6, 2) := by decide +kernel
theorem dX5_read_129 : decode cX5_read 129 = .ok (.putfield 111, 3) := by decide +kernel
theorem dX5_read_132 : decode cX5_read 132 = .ok (.bipush (-20), 2) := by decide +kernel
theorem dX5_read_134 : decode cX5_read 134 = .ok (.iload 7, 2) := by decide +kernel
theorem dX5_read_136 : decode cX5_read 136 = .ok (.isub, 1) := by decide +kernel
theorem dX5_read_137 : decode cX5_read 137 = .ok (.ireturn, 1) := by decide +kernel
theorem dX5_read_138 : decode cX5_read 138 = .ok (.iinc 7 1, 3) := by decide +kernel
theorem dX5_read_141 : decode cX5_read 141 = .ok (.goto (-87), 3) := by decide +kernel
theorem dX5_read_144 : decode cX5_read 144 = .ok (.aload_n 0, 1) := by decide +kernel
theorem dX5_read_145 : decode cX5_read 145 = .ok (.iload 8, 2) := by decide +kernel
theorem dX5_read_147 : decode cX5_read 147 = .ok (.putfield 282, 3) := by decide +kernel
theorem dX5_read_150 : decode cX5_read 150 = .ok (.iload 7, 2) := by decide +kernel
theorem dX5_read_152 : decode cX5_read 152 = .ok (.ireturn, 1) := by decide +kernel
theorem dX5_torn_0 : decode cX5_torn 0 = .ok (.aload_n 0, 1) := by decide +kernel
theorem dX5_torn_1 : decode cX5_torn 1 = .ok (.getfield 282, 3) := by decide +kernel
theorem dX5_torn_4 : decode cX5_torn 4 = .ok (.ireturn, 1) := by decide +kernel
theorem dX5_count_0 : decode cX5_count 0 = .ok (.iload_n 1, 1) := by decide +kernel
theorem dX5_count_1 : decode cX5_count 1 = .ok (.tableswitch 127 0 5 #[39, 44, 74, 82, 111, 119], 39) := by decide +kernel
theorem dX5_count_40 : decode cX5_count 40 = .ok (.aload_n 0, 1) := by decide +kernel
theorem dX5_count_41 : decode cX5_count 41 = .ok (.getfield 108, 3) := by decide +kernel
theorem dX5_count_44 : decode cX5_count 44 = .ok (.ireturn, 1) := by decide +kernel
theorem dX5_count_45 : decode cX5_count 45 = .ok (.aload_n 0, 1) := by decide +kernel
theorem dX5_count_46 : decode cX5_count 46 = .ok (.getfield 39, 3) := by decide +kernel
theorem dX5_count_49 : decode cX5_count 49 = .ok (.iconst 0, 1) := by decide +kernel
theorem dX5_count_50 : decode cX5_count 50 = .ok (.baload, 1) := by decide +kernel
theorem dX5_count_51 : decode cX5_count 51 = .ok (.ifCond .eq 7, 3) := by decide +kernel
theorem dX5_count_54 : decode cX5_count 54 = .ok (.iconst 1, 1) := by decide +kernel
theorem dX5_count_55 : decode cX5_count 55 = .ok (.goto 4, 3) := by decide +kernel
theorem dX5_count_58 : decode cX5_count 58 = .ok (.iconst 0, 1) := by decide +kernel
theorem dX5_count_59 : decode cX5_count 59 = .ok (.aload_n 0, 1) := by decide +kernel
theorem dX5_count_60 : decode cX5_count 60 = .ok (.getfield 39, 3) := by decide +kernel
theorem dX5_count_63 : decode cX5_count 63 = .ok (.iconst 1, 1) := by decide +kernel
theorem dX5_count_64 : decode cX5_count 64 = .ok (.baload, 1) := by decide +kernel
theorem dX5_count_65 : decode cX5_count 65 = .ok (.ifCond .eq 7, 3) := by decide +kernel
theorem dX5_count_68 : decode cX5_count 68 = .ok (.iconst 1, 1) := by decide +kernel
theorem dX5_count_69 : decode cX5_count 69 = .ok (.goto 4, 3) := by decide +kernel
theorem dX5_count_72 : decode cX5_count 72 = .ok (.iconst 0, 1) := by decide +kernel
theorem dX5_count_73 : decode cX5_count 73 = .ok (.iadd, 1) := by decide +kernel
theorem dX5_count_74 : decode cX5_count 74 = .ok (.ireturn, 1) := by decide +kernel
theorem dX5_count_75 : decode cX5_count 75 = .ok (.aload_n 0, 1) := by decide +kernel
theorem dX5_count_76 : decode cX5_count 76 = .ok (.getfield 10, 3) := by decide +kernel
theorem dX5_count_79 : decode cX5_count 79 = .ok (.getfield 87, 3) := by decide +kernel
theorem dX5_count_82 : decode cX5_count 82 = .ok (.ireturn, 1) := by decide +kernel
theorem dX5_count_83 : decode cX5_count 83 = .ok (.aload_n 0, 1) := by decide +kernel
theorem dX5_count_84 : decode cX5_count 84 = .ok (.getfield 46, 3) := by decide +kernel
theorem dX5_count_87 : decode cX5_count 87 = .ok (.iconst 0, 1) := by decide +kernel
theorem dX5_count_88 : decode cX5_count 88 = .ok (.aaload, 1) := by decide +kernel
theorem dX5_count_89 : decode cX5_count 89 = .ok (.getfield 270, 3) := by decide +kernel
theorem dX5_count_92 : decode cX5_count 92 = .ok (.bipush (-4), 2) := by decide +kernel
theorem dX5_count_94 : decode cX5_count 94 = .ok (.if_icmp .ne 8, 3) := by decide +kernel
theorem dX5_count_97 : decode cX5_count 97 = .ok (.bipush (-4), 2) := by decide +kernel
theorem dX5_count_99 : decode cX5_count 99 = .ok (.goto 12, 3) := by decide +kernel
theorem dX5_count_102 : decode cX5_count 102 = .ok (.aload_n 0, 1) := by decide +kernel
theorem dX5_count_103 : decode cX5_count 103 = .ok (.getfield 46, 3) := by decide +kernel
theorem dX5_count_106 : decode cX5_count 106 = .ok (.iconst 0, 1) := by decide +kernel
theorem dX5_count_107 : decode cX5_count 107 = .ok (.aaload, 1) := by decide +kernel
theorem dX5_count_108 : decode cX5_count 108 = .ok (.getfield 285, 3) := by decide +kernel
theorem dX5_count_111 : decode cX5_count 111 = .ok (.ireturn, 1) := by decide +kernel
theorem dX5_count_112 : decode cX5_count 112 = .ok (.aload_n 0, 1) := by decide +kernel
theorem dX5_count_113 : decode cX5_count 113 = .ok (.getfield 28, 3) := by decide +kernel
theorem dX5_count_116 : decode cX5_count 116 = .ok (.invokevirtual 288, 3) := by decide +kernel
theorem dX5_count_119 : decode cX5_count 119 = .ok (.ireturn, 1) := by decide +kernel
theorem dX5_count_120 : decode cX5_count 120 = .ok (.aload_n 0, 1) := by decide +kernel
theorem dX5_count_121 : decode cX5_count 121 = .ok (.getfield 28, 3) := by decide +kernel
theorem dX5_count_124 : decode cX5_count 124 = .ok (.invokevirtual 291, 3) := by decide +kernel
theorem dX5_count_127 : decode cX5_count 127 = .ok (.ireturn, 1) := by decide +kernel
theorem dX5_count_128 : decode cX5_count 128 = .ok (.iconst (-1), 1) := by decide +kernel
theorem dX5_count_129 : decode cX5_count 129 = .ok (.ireturn, 1) := by decide +kernel
theorem dX5_within_0 : decode cX5_within 0 = .ok (.iload_n 0, 1) := by decide +kernel
theorem dX5_within_1 : decode cX5_within 1 = .ok (.iload_n 1, 1) := by decide +kernel
theorem dX5_within_2 : decode cX5_within 2 = .ok (.if_icmp .lt 12, 3) := by decide +kernel
theorem dX5_within_5 : decode cX5_within 5 = .ok (.iload_n 0, 1) := by decide +kernel
theorem dX5_within_6 : decode cX5_within 6 = .ok (.iload_n 2, 1) := by decide +kernel
theorem dX5_within_7 : decode cX5_within 7 = .ok (.if_icmp .gt 7, 3) := by decide +kernel
theorem dX5_within_10 : decode cX5_within 10 = .ok (.iconst 1, 1) := by decide +kernel
theorem dX5_within_11 : decode cX5_within 11 = .ok (.goto 4, 3) := by decide +kernel
theorem dX5_within_14 : decode cX5_within 14 = .ok (.iconst 0, 1) := by decide +kernel
theorem dX5_within_15 : decode cX5_within 15 = .ok (.ireturn, 1) := by decide +kernel
theorem dX5_fitsTub_0 : decode cX5_fitsTub 0 = .ok (.iload_n 0, 1) := by decide +kernel
theorem dX5_fitsTub_1 : decode cX5_fitsTub 1 = .ok (.iconst 0, 1) := by decide +kernel
theorem dX5_fitsTub_2 : decode cX5_fitsTub 2 = .ok (.iconst 4, 1) := by decide +kernel
theorem dX5_fitsTub_3 : decode cX5_fitsTub 3 = .ok (.invokestatic 79, 3) := by decide +kernel
theorem dX5_fitsTub_6 : decode cX5_fitsTub 6 = .ok (.ifCond .eq 24, 3) := by decide +kernel
theorem dX5_fitsTub_9 : decode cX5_fitsTub 9 = .ok (.iload_n 1, 1) := by decide +kernel
theorem dX5_fitsTub_10 : decode cX5_fitsTub 10 = .ok (.getstatic 210, 3) := by decide +kernel
theorem dX5_fitsTub_13 : decode cX5_fitsTub 13 = .ok (.iload_n 0, 1) := by decide +kernel
theorem dX5_fitsTub_14 : decode cX5_fitsTub 14 = .ok (.iaload, 1) := by decide +kernel
theorem dX5_fitsTub_15 : decode cX5_fitsTub 15 = .ok (.getstatic 213, 3) := by decide +kernel
theorem dX5_fitsTub_18 : decode cX5_fitsTub 18 = .ok (.iload_n 0, 1) := by decide +kernel
theorem dX5_fitsTub_19 : decode cX5_fitsTub 19 = .ok (.iaload, 1) := by decide +kernel
theorem dX5_fitsTub_20 : decode cX5_fitsTub 20 = .ok (.invokestatic 79, 3) := by decide +kernel
theorem dX5_fitsTub_23 : decode cX5_fitsTub 23 = .ok (.ifCond .eq 7, 3) := by decide +kernel
theorem dX5_fitsTub_26 : decode cX5_fitsTub 26 = .ok (.iconst 1, 1) := by decide +kernel
theorem dX5_fitsTub_27 : decode cX5_fitsTub 27 = .ok (.goto 4, 3) := by decide +kernel
theorem dX5_fitsTub_30 : decode cX5_fitsTub 30 = .ok (.iconst 0, 1) := by decide +kernel
theorem dX5_fitsTub_31 : decode cX5_fitsTub 31 = .ok (.ireturn, 1) := by decide +kernel
theorem dX5_fitsHeir_0 : decode cX5_fitsHeir 0 = .ok (.iload_n 0, 1) := by decide +kernel
theorem dX5_fitsHeir_1 : decode cX5_fitsHeir 1 = .ok (.iconst 0, 1) := by decide +kernel
theorem dX5_fitsHeir_2 : decode cX5_fitsHeir 2 = .ok (.iconst 3, 1) := by decide +kernel
theorem dX5_fitsHeir_3 : decode cX5_fitsHeir 3 = .ok (.invokestatic 79, 3) := by decide +kernel
theorem dX5_fitsHeir_6 : decode cX5_fitsHeir 6 = .ok (.ifCond .eq 20, 3) := by decide +kernel
theorem dX5_fitsHeir_9 : decode cX5_fitsHeir 9 = .ok (.iload_n 1, 1) := by decide +kernel
theorem dX5_fitsHeir_10 : decode cX5_fitsHeir 10 = .ok (.iconst 0, 1) := by decide +kernel
theorem dX5_fitsHeir_11 : decode cX5_fitsHeir 11 = .ok (.getstatic 225, 3) := by decide +kernel
theorem dX5_fitsHeir_14 : decode cX5_fitsHeir 14 = .ok (.iload_n 0, 1) := by decide +kernel
theorem dX5_fitsHeir_15 : decode cX5_fitsHeir 15 = .ok (.iaload, 1) := by decide +kernel
theorem dX5_fitsHeir_16 : decode cX5_fitsHeir 16 = .ok (.invokestatic 79, 3) := by decide +kernel
theorem dX5_fitsHeir_19 : decode cX5_fitsHeir 19 = .ok (.ifCond .eq 7, 3) := by decide +kernel
theorem dX5_fitsHeir_22 : decode cX5_fitsHeir 22 = .ok (.iconst 1, 1) := by decide +kernel
theorem dX5_fitsHeir_23 : decode cX5_fitsHeir 23 = .ok (.goto 4, 3) := by decide +kernel
theorem dX5_fitsHeir_26 : decode cX5_fitsHeir 26 = .ok (.iconst 0, 1) := by decide +kernel
theorem dX5_fitsHeir_27 : decode cX5_fitsHeir 27 = .ok (.ireturn, 1) := by decide +kernel
theorem dX5_putIn_0 : decode cX5_putIn 0 = .ok (.iconst 1, 1) := by decide +kernel
theorem dX5_putIn_1 : decode cX5_putIn 1 = .ok (.iload_n 1, 1) := by decide +kernel
theorem dX5_putIn_2 : decode cX5_putIn 2 = .ok (.invokestatic 148, 3) := by decide +kernel
theorem dX5_putIn_5 : decode cX5_putIn 5 = .ok (.ifCond .eq 19, 3) := by decide +kernel
theorem dX5_putIn_8 : decode cX5_putIn 8 = .ok (.iconst 2, 1) := by decide +kernel
theorem dX5_putIn_9 : decode cX5_putIn 9 = .ok (.iload_n 2, 1) := by decide +kernel
theorem dX5_putIn_10 : decode cX5_putIn 10 = .ok (.invokestatic 148, 3) := by decide +kernel
theorem dX5_putIn_13 : decode cX5_putIn 13 = .ok (.ifCond .eq 11, 3) := by decide +kernel
theorem dX5_putIn_16 : decode cX5_putIn 16 = .ok (.iconst 3, 1) := by decide +kernel
theorem dX5_putIn_17 : decode cX5_putIn 17 = .ok (.iload_n 3, 1) := by decide +kernel
theorem dX5_putIn_18 : decode cX5_putIn 18 = .ok (.invokestatic 148, 3) := by decide +kernel
theorem dX5_putIn_21 : decode cX5_putIn 21 = .ok (.ifCond .ne 5, 3) := by decide +kernel
theorem dX5_putIn_24 : decode cX5_putIn 24 = .ok (.iconst (-1), 1) := by decide +kernel
theorem dX5_putIn_25 : decode cX5_putIn 25 = .ok (.ireturn, 1) := by decide +kernel
theorem dX5_putIn_26 : decode cX5_putIn 26 = .ok (.aload_n 0, 1) := by decide +kernel
theorem dX5_putIn_27 : decode cX5_putIn 27 = .ok (.getfield 28, 3) := by decide +kernel
theorem dX5_putIn_30 : decode cX5_putIn 30 = .ok (.getfield 111, 3) := by decide +kernel
theorem dX5_putIn_33 : decode cX5_putIn 33 = .ok (.iconst 4, 1) := by decide +kernel
theorem dX5_putIn_34 : decode cX5_putIn 34 = .ok (.if_icmp .lt 6, 3) := by decide +kernel
theorem dX5_putIn_37 : decode cX5_putIn 37 = .ok (.bipush (-3), 2) := by decide +kernel
theorem dX5_putIn_39 : decode cX5_putIn 39 = .ok (.ireturn, 1) := by decide +kernel
theorem dX5_putIn_40 : decode cX5_putIn 40 = .ok (.aload_n 0, 1) := by decide +kernel
theorem dX5_putIn_41 : decode cX5_putIn 41 = .ok (.getfield 28, 3) := by decide +kernel
theorem dX5_putIn_44 : decode cX5_putIn 44 = .ok (.getfield 111, 3) := by decide +kernel
theorem dX5_putIn_47 : decode cX5_putIn 47 = .ok (.istore 4, 2) := by decide +kernel
theorem dX5_putIn_49 : decode cX5_putIn 49 = .ok (.aload_n 0, 1) := by decide +kernel
theorem dX5_putIn_50 : decode cX5_putIn 50 = .ok (.getfield 28, 3) := by decide +kernel
theorem dX5_putIn_53 : decode cX5_putIn 53 = .ok (.dup, 1) := by decide +kernel
theorem dX5_putIn_54 : decode cX5_putIn 54 = .ok (.getfield 111, 3) := by decide +kernel
theorem dX5_putIn_57 : decode cX5_putIn 57 = .ok (.iconst 1, 1) := by decide +kernel
theorem dX5_putIn_58 : decode cX5_putIn 58 = .ok (.iadd, 1) := by decide +kernel
theorem dX5_putIn_59 : decode cX5_putIn 59 = .ok (.putfield 111, 3) := by decide +kernel
theorem dX5_putIn_62 : decode cX5_putIn 62 = .ok (.aload_n 0, 1) := by decide +kernel
theorem dX5_putIn_63 : decode cX5_putIn 63 = .ok (.getfield 28, 3) := by decide +kernel
theorem dX5_putIn_66 : decode cX5_putIn 66 = .ok (.iload 4, 2) := by decide +kernel
theorem dX5_putIn_68 : decode cX5_putIn 68 = .ok (.iconst 0, 1) := by decide +kernel
theorem dX5_putIn_69 : decode cX5_putIn 69 = .ok (.iconst 0, 1) := by decide +kernel
theorem dX5_putIn_70 : decode cX5_putIn 70 = .ok (.invokevirtual 152, 3) := by decide +kernel
theorem dX5_putIn_73 : decode cX5_putIn 73 = .ok (.aload_n 0, 1) := by decide +kernel
theorem dX5_putIn_74 : decode cX5_putIn 74 = .ok (.getfield 28, 3) := by decide +kernel
theorem dX5_putIn_77 : decode cX5_putIn 77 = .ok (.iload 4, 2) := by decide +kernel
theorem dX5_putIn_79 : decode cX5_putIn 79 = .ok (.iload_n 1, 1) := by decide +kernel
theorem dX5_putIn_80 : decode cX5_putIn 80 = .ok (.iload_n 2, 1) := by decide +kernel
theorem dX5_putIn_81 : decode cX5_putIn 81 = .ok (.invokevirtual 216, 3) := by decide +kernel
theorem dX5_putIn_84 : decode cX5_putIn 84 = .ok (.aload_n 0, 1) := by decide +kernel
theorem dX5_putIn_85 : decode cX5_putIn 85 = .ok (.getfield 28, 3) := by decide +kernel
theorem dX5_putIn_88 : decode cX5_putIn 88 = .ok (.iload 4, 2) := by decide +kernel
theorem dX5_putIn_90 : decode cX5_putIn 90 = .ok (.iconst 3, 1) := by decide +kernel
theorem dX5_putIn_91 : decode cX5_putIn 91 = .ok (.iload_n 3, 1) := by decide +kernel
theorem dX5_putIn_92 : decode cX5_putIn 92 = .ok (.invokevirtual 152, 3) := by decide +kernel
theorem dX5_putIn_95 : decode cX5_putIn 95 = .ok (.aload_n 0, 1) := by decide +kernel
theorem dX5_putIn_96 : decode cX5_putIn 96 = .ok (.getfield 28, 3) := by decide +kernel
theorem dX5_putIn_99 : decode cX5_putIn 99 = .ok (.iload 4, 2) := by decide +kernel
theorem dX5_putIn_101 : decode cX5_putIn 101 = .ok (.iconst 4, 1) := by decide +kernel
theorem dX5_putIn_102 : decode cX5_putIn 102 = .ok (.iconst 1, 1) := by decide +kernel
theorem dX5_putIn_103 : decode cX5_putIn 103 = .ok (.invokevirtual 152, 3) := by decide +kernel
theorem dX5_putIn_106 : decode cX5_putIn 106 = .ok (.aload_n 0, 1) := by decide +kernel
theorem dX5_putIn_107 : decode cX5_putIn 107 = .ok (.getfield 28, 3) := by decide +kernel
theorem dX5_putIn_110 : decode cX5_putIn 110 = .ok (.getfield 111, 3) := by decide +kernel
theorem dX5_putIn_113 : decode cX5_putIn 113 = .ok (.ireturn, 1) := by decide +kernel
theorem dX5_listWindyHours_0 : decode cX5_listWindyHours 0 = .ok (.iconst 0, 1) := by decide +kernel
theorem dX5_listWindyHours_1 : decode cX5_listWindyHours 1 = .ok (.istore_n 1, 1) := by decide +kernel
theorem dX5_listWindyHours_2 : decode cX5_listWindyHours 2 = .ok (.iconst 0, 1) := by decide +kernel
theorem dX5_listWindyHours_3 : decode cX5_listWindyHours 3 = .ok (.istore_n 2, 1) := by decide +kernel
theorem dX5_listWindyHours_4 : decode cX5_listWindyHours 4 = .ok (.iload_n 2, 1) := by decide +kernel
theorem dX5_listWindyHours_5 : decode cX5_listWindyHours 5 = .ok (.bipush 24, 2) := by decide +kernel
theorem dX5_listWindyHours_7 : decode cX5_listWindyHours 7 = .ok (.if_icmp .ge 34, 3) := by decide +kernel
theorem dX5_listWindyHours_10 : decode cX5_listWindyHours 10 = .ok (.aload_n 0, 1) := by decide +kernel
theorem dX5_listWindyHours_11 : decode cX5_listWindyHours 11 = .ok (.getfield 28, 3) := by decide +kernel
theorem dX5_listWindyHours_14 : decode cX5_listWindyHours 14 = .ok (.getfield 145, 3) := by decide +kernel
theorem dX5_listWindyHours_17 : decode cX5_listWindyHours 17 = .ok (.iload_n 2, 1) := by decide +kernel
theorem dX5_listWindyHours_18 : decode cX5_listWindyHours 18 = .ok (.iaload, 1) := by decide +kernel
theorem dX5_listWindyHours_19 : decode cX5_listWindyHours 19 = .ok (.ifCond .ne 6, 3) := by decide +kernel
theorem dX5_listWindyHours_22 : decode cX5_listWindyHours 22 = .ok (.goto 13, 3) := by decide +kernel
theorem dX5_listWindyHours_25 : decode cX5_listWindyHours 25 = .ok (.aload_n 0, 1) := by decide +kernel
theorem dX5_listWindyHours_26 : decode cX5_listWindyHours 26 = .ok (.getfield 67, 3) := by decide +kernel
theorem dX5_listWindyHours_29 : decode cX5_listWindyHours 29 = .ok (.iload_n 1, 1) := by decide +kernel
theorem dX5_listWindyHours_30 : decode cX5_listWindyHours 30 = .ok (.iload_n 2, 1) := by decide +kernel
theorem dX5_listWindyHours_31 : decode cX5_listWindyHours 31 = .ok (.iastore, 1) := by decide +kernel
theorem dX5_listWindyHours_32 : decode cX5_listWindyHours 32 = .ok (.iinc 1 1, 3) := by decide +kernel
theorem dX5_listWindyHours_35 : decode cX5_listWindyHours 35 = .ok (.iinc 2 1, 3) := by decide +kernel
theorem dX5_listWindyHours_38 : decode cX5_listWindyHours 38 = .ok (.goto (-34), 3) := by decide +kernel
theorem dX5_listWindyHours_41 : decode cX5_listWindyHours 41 = .ok (.iload_n 1, 1) := by decide +kernel
theorem dX5_listWindyHours_42 : decode cX5_listWindyHours 42 = .ok (.ireturn, 1) := by decide +kernel
theorem dX5_dropWinds_0 : decode cX5_dropWinds 0 = .ok (.lconst 1, 1) := by decide +kernel
theorem dX5_dropWinds_1 : decode cX5_dropWinds 1 = .ok (.lstore 4, 2) := by decide +kernel
theorem dX5_dropWinds_3 : decode cX5_dropWinds 3 = .ok (.iconst 0, 1) := by decide +kernel
theorem dX5_dropWinds_4 : decode cX5_dropWinds 4 = .ok (.istore 6, 2) := by decide +kernel
theorem dX5_dropWinds_6 : decode cX5_dropWinds 6 = .ok (.iload 6, 2) := by decide +kernel
theorem dX5_dropWinds_8 : decode cX5_dropWinds 8 = .ok (.iload_n 2, 1) := by decide +kernel
theorem dX5_dropWinds_9 : decode cX5_dropWinds 9 = .ok (.if_icmp .ge 84, 3) := by decide +kernel
theorem dX5_dropWinds_12 : decode cX5_dropWinds 12 = .ok (.aload_n 0, 1) := by decide +kernel
theorem dX5_dropWinds_13 : decode cX5_dropWinds 13 = .ok (.getfield 67, 3) := by decide +kernel
theorem dX5_dropWinds_16 : decode cX5_dropWinds 16 = .ok (.iload 6, 2) := by decide +kernel
theorem dX5_dropWinds_18 : decode cX5_dropWinds 18 = .ok (.iaload, 1) := by decide +kernel
theorem dX5_dropWinds_19 : decode cX5_dropWinds 19 = .ok (.istore 7, 2) := by decide +kernel
theorem dX5_dropWinds_21 : decode cX5_dropWinds 21 = .ok (.iload_n 1, 1) := by decide +kernel
theorem dX5_dropWinds_22 : decode cX5_dropWinds 22 = .ok (.iload 6, 2) := by decide +kernel
theorem dX5_dropWinds_24 : decode cX5_dropWinds 24 = .ok (.ishr, 1) := by decide +kernel
theorem dX5_dropWinds_25 : decode cX5_dropWinds 25 = .ok (.iconst 1, 1) := by decide +kernel
theorem dX5_dropWinds_26 : decode cX5_dropWinds 26 = .ok (.iand, 1) := by decide +kernel
theorem dX5_dropWinds_27 : decode cX5_dropWinds 27 = .ok (.iconst 1, 1) := by decide +kernel
theorem dX5_dropWinds_28 : decode cX5_dropWinds 28 = .ok (.if_icmp .ne 7, 3) := by decide +kernel
theorem dX5_dropWinds_31 : decode cX5_dropWinds 31 = .ok (.iconst 1, 1) := by decide +kernel
theorem dX5_dropWinds_32 : decode cX5_dropWinds 32 = .ok (.goto 4, 3) := by decide +kernel
theorem dX5_dropWinds_35 : decode cX5_dropWinds 35 = .ok (.iconst 0, 1) := by decide +kernel
theorem dX5_dropWinds_36 : decode cX5_dropWinds 36 = .ok (.istore 8, 2) := by decide +kernel
theorem dX5_dropWinds_38 : decode cX5_dropWinds 38 = .ok (.aload_n 0, 1) := by decide +kernel
theorem dX5_dropWinds_39 : decode cX5_dropWinds 39 = .ok (.getfield 32, 3) := by decide +kernel
theorem dX5_dropWinds_42 : decode cX5_dropWinds 42 = .ok (.getfield 145, 3) := by decide +kernel
theorem dX5_dropWinds_45 : decode cX5_dropWinds 45 = .ok (.iload 7, 2) := by decide +kernel
theorem dX5_dropWinds_47 : decode cX5_dropWinds 47 = .ok (.iload 8, 2) := by decide +kernel
theorem dX5_dropWinds_49 : decode cX5_dropWinds 49 = .ok (.ifCond .eq 7, 3) := by decide +kernel
theorem dX5_dropWinds_52 : decode cX5_dropWinds 52 = .ok (.iconst 0, 1) := by decide +kernel
theorem dX5_dropWinds_53 : decode cX5_dropWinds 53 = .ok (.goto 13, 3) := by decide +kernel
theorem dX5_dropWinds_56 : decode cX5_dropWinds 56 = .ok (.aload_n 0, 1) := by decide +kernel
theorem dX5_dropWinds_57 : decode cX5_dropWinds 57 = .ok (.getfield 28, 3) := by decide +kernel
theorem dX5_dropWinds_60 : decode cX5_dropWinds 60 = .ok (.getfield 145, 3) := by decide +kernel
theorem dX5_dropWinds_63 : decode cX5_dropWinds 63 = .ok (.iload 7, 2) := by decide +kernel
theorem dX5_dropWinds_65 : decode cX5_dropWinds 65 = .ok (.iaload, 1) := by decide +kernel
theorem dX5_dropWinds_66 : decode cX5_dropWinds 66 = .ok (.iastore, 1) := by decide +kernel
theorem dX5_dropWinds_67 : decode cX5_dropWinds 67 = .ok (.lload 4, 2) := by decide +kernel
theorem dX5_dropWinds_69 : decode cX5_dropWinds 69 = .ok (.iload 8, 2) := by decide +kernel
theorem dX5_dropWinds_71 : decode cX5_dropWinds 71 = .ok (.ifCond .eq 8, 3) := by decide +kernel
theorem dX5_dropWinds_74 : decode cX5_dropWinds 74 = .ok (.iload_n 3, 1) := by decide +kernel
theorem dX5_dropWinds_75 : decode cX5_dropWinds 75 = .ok (.i2l, 1) := by decide +kernel
theorem dX5_dropWinds_76 : decode cX5_dropWinds 76 = .ok (.goto 8, 3) := by decide +kernel
theorem dX5_dropWinds_79 : decode cX5_dropWinds 79 = .ok (.bipush 10, 2) := by decide +kernel
theorem dX5_dropWinds_81 : decode cX5_dropWinds 81 = .ok (.iload_n 3, 1) := by decide +kernel
theorem dX5_dropWinds_82 : decode cX5_dropWinds 82 = .ok (.isub, 1) := by decide +kernel
theorem dX5_dropWinds_83 : decode cX5_dropWinds 83 = .ok (.i2l, 1) := by decide +kernel
theorem dX5_dropWinds_84 : decode cX5_dropWinds 84 = .ok (.lmul, 1) := by decide +kernel
theorem dX5_dropWinds_85 : decode cX5_dropWinds 85 = .ok (.lstore 4, 2) := by decide +kernel
theorem dX5_dropWinds_87 : decode cX5_dropWinds 87 = .ok (.iinc 6 1, 3) := by decide +kernel
theorem dX5_dropWinds_90 : decode cX5_dropWinds 90 = .ok (.goto (-84), 3) := by decide +kernel
theorem dX5_dropWinds_93 : decode cX5_dropWinds 93 = .ok (.lload 4, 2) := by decide +kernel
theorem dX5_dropWinds_95 : decode cX5_dropWinds 95 = .ok (.lreturn, 1) := by decide +kernel
theorem dX5_allOdds_0 : decode cX5_allOdds 0 = .ok (.lconst 1, 1) := by decide +kernel
theorem dX5_allOdds_1 : decode cX5_allOdds 1 = .ok (.lstore_n 1, 1) := by decide +kernel
theorem dX5_allOdds_2 : decode cX5_allOdds 2 = .ok (.iconst 0, 1) := by decide +kernel
theorem dX5_allOdds_3 : decode cX5_allOdds 3 = .ok (.istore_n 3, 1) := by decide +kernel
theorem dX5_allOdds_4 : decode cX5_allOdds 4 = .ok (.iload_n 3, 1) := by decide +kernel
theorem dX5_allOdds_5 : decode cX5_allOdds 5 = .ok (.iload_n 0, 1) := by decide +kernel
theorem dX5_allOdds_6 : decode cX5_allOdds 6 = .ok (.if_icmp .ge 15, 3) := by decide +kernel
theorem dX5_allOdds_9 : decode cX5_allOdds 9 = .ok (.lload_n 1, 1) := by decide +kernel
theorem dX5_allOdds_10 : decode cX5_allOdds 10 = .ok (.ldc2_w 294, 3) := by decide +kernel
theorem dX5_allOdds_13 : decode cX5_allOdds 13 = .ok (.lmul, 1) := by decide +kernel
theorem dX5_allOdds_14 : decode cX5_allOdds 14 = .ok (.lstore_n 1, 1) := by decide +kernel
theorem dX5_allOdds_15 : decode cX5_allOdds 15 = .ok (.iinc 3 1, 3) := by decide +kernel
theorem dX5_allOdds_18 : decode cX5_allOdds 18 = .ok (.goto (-14), 3) := by decide +kernel
theorem dX5_allOdds_21 : decode cX5_allOdds 21 = .ok (.lload_n 1, 1) := by decide +kernel
theorem dX5_allOdds_22 : decode cX5_allOdds 22 = .ok (.lreturn, 1) := by decide +kernel
theorem dX5_partOfFraction_0 : decode cX5_partOfFraction 0 = .ok (.lload_n 0, 1) := by decide +kernel
theorem dX5_partOfFraction_1 : decode cX5_partOfFraction 1 = .ok (.lload_n 2, 1) := by decide +kernel
theorem dX5_partOfFraction_2 : decode cX5_partOfFraction 2 = .ok (.invokestatic 296, 3) := by decide +kernel
theorem dX5_partOfFraction_5 : decode cX5_partOfFraction 5 = .ok (.lstore 5, 2) := by decide +kernel
theorem dX5_partOfFraction_7 : decode cX5_partOfFraction 7 = .ok (.iload 4, 2) := by decide +kernel
theorem dX5_partOfFraction_9 : decode cX5_partOfFraction 9 = .ok (.ifCond .ne 7, 3) := by decide +kernel
theorem dX5_partOfFraction_12 : decode cX5_partOfFraction 12 = .ok (.lload_n 0, 1) := by decide +kernel
theorem dX5_partOfFraction_13 : decode cX5_partOfFraction 13 = .ok (.goto 4, 3) := by decide +kernel
theorem dX5_partOfFraction_16 : decode cX5_partOfFraction 16 = .ok (.lload_n 2, 1) := by decide +kernel
theorem dX5_partOfFraction_17 : decode cX5_partOfFraction 17 = .ok (.lstore 7, 2) := by decide +kernel
theorem dX5_partOfFraction_19 : decode cX5_partOfFraction 19 = .ok (.lload 5, 2) := by decide +kernel
theorem dX5_partOfFraction_21 : decode cX5_partOfFraction 21 = .ok (.lconst 1, 1) := by decide +kernel
theorem dX5_partOfFraction_22 : decode cX5_partOfFraction 22 = .ok (.lcmp, 1) := by decide +kernel
theorem dX5_partOfFraction_23 : decode cX5_partOfFraction 23 = .ok (.ifCond .le 11, 3) := by decide +kernel
theorem dX5_partOfFraction_26 : decode cX5_partOfFraction 26 = .ok (.lload 7, 2) := by decide +kernel
theorem dX5_partOfFraction_28 : decode cX5_partOfFraction 28 = .ok (.lload 5, 2) := by decide +kernel
theorem dX5_partOfFraction_30 : decode cX5_partOfFraction 30 = .ok (.ldiv, 1) := by decide +kernel
theorem dX5_partOfFraction_31 : decode cX5_partOfFraction 31 = .ok (.goto 5, 3) := by decide +kernel
theorem dX5_partOfFraction_34 : decode cX5_partOfFraction 34 = .ok (.lload 7, 2) := by decide +kernel
theorem dX5_partOfFraction_36 : decode cX5_partOfFraction 36 = .ok (.lreturn, 1) := by decide +kernel
theorem dX5_commonDivisor_0 : decode cX5_commonDivisor 0 = .ok (.lload_n 0, 1) := by decide +kernel
theorem dX5_commonDivisor_1 : decode cX5_commonDivisor 1 = .ok (.lstore 4, 2) := by decide +kernel
theorem dX5_commonDivisor_3 : decode cX5_commonDivisor 3 = .ok (.lload_n 2, 1) := by decide +kernel
theorem dX5_commonDivisor_4 : decode cX5_commonDivisor 4 = .ok (.lstore 6, 2) := by decide +kernel
theorem dX5_commonDivisor_6 : decode cX5_commonDivisor 6 = .ok (.iconst 0, 1) := by decide +kernel
theorem dX5_commonDivisor_7 : decode cX5_commonDivisor 7 = .ok (.istore 8, 2) := by decide +kernel
theorem dX5_commonDivisor_9 : decode cX5_commonDivisor 9 = .ok (.iload 8, 2) := by decide +kernel
theorem dX5_commonDivisor_11 : decode cX5_commonDivisor 11 = .ok (.bipush 100, 2) := by decide +kernel
theorem dX5_commonDivisor_13 : decode cX5_commonDivisor 13 = .ok (.if_icmp .ge 31, 3) := by decide +kernel
theorem dX5_commonDivisor_16 : decode cX5_commonDivisor 16 = .ok (.lload 6, 2) := by decide +kernel
theorem dX5_commonDivisor_18 : decode cX5_commonDivisor 18 = .ok (.lconst 0, 1) := by decide +kernel
theorem dX5_commonDivisor_19 : decode cX5_commonDivisor 19 = .ok (.lcmp, 1) := by decide +kernel
theorem dX5_commonDivisor_20 : decode cX5_commonDivisor 20 = .ok (.ifCond .eq 24, 3) := by decide +kernel
theorem dX5_commonDivisor_23 : decode cX5_commonDivisor 23 = .ok (.lload 4, 2) := by decide +kernel
theorem dX5_commonDivisor_25 : decode cX5_commonDivisor 25 = .ok (.lload 6, 2) := by decide +kernel
theorem dX5_commonDivisor_27 : decode cX5_commonDivisor 27 = .ok (.lrem, 1) := by decide +kernel
theorem dX5_commonDivisor_28 : decode cX5_commonDivisor 28 = .ok (.lstore 9, 2) := by decide +kernel
theorem dX5_commonDivisor_30 : decode cX5_commonDivisor 30 = .ok (.lload 6, 2) := by decide +kernel
theorem dX5_commonDivisor_32 : decode cX5_commonDivisor 32 = .ok (.lstore 4, 2) := by decide +kernel
theorem dX5_commonDivisor_34 : decode cX5_commonDivisor 34 = .ok (.lload 9, 2) := by decide +kernel
theorem dX5_commonDivisor_36 : decode cX5_commonDivisor 36 = .ok (.lstore 6, 2) := by decide +kernel
theorem dX5_commonDivisor_38 : decode cX5_commonDivisor 38 = .ok (.iinc 8 1, 3) := by decide +kernel
theorem dX5_commonDivisor_41 : decode cX5_commonDivisor 41 = .ok (.goto (-32), 3) := by decide +kernel
theorem dX5_commonDivisor_44 : decode cX5_commonDivisor 44 = .ok (.lload 4, 2) := by decide +kernel
theorem dX5_commonDivisor_46 : decode cX5_commonDivisor 46 = .ok (.lreturn, 1) := by decide +kernel
theorem dX5_weighPairs_0 : decode cX5_weighPairs 0 = .ok (.aload_n 0, 1) := by decide +kernel
theorem dX5_weighPairs_1 : decode cX5_weighPairs 1 = .ok (.getfield 32, 3) := by decide +kernel
theorem dX5_weighPairs_4 : decode cX5_weighPairs 4 = .ok (.aload_n 0, 1) := by decide +kernel
theorem dX5_weighPairs_5 : decode cX5_weighPairs 5 = .ok (.getfield 28, 3) := by decide +kernel
theorem dX5_weighPairs_8 : decode cX5_weighPairs 8 = .ok (.invokevirtual 104, 3) := by decide +kernel
theorem dX5_weighPairs_11 : decode cX5_weighPairs 11 = .ok (.aload_n 0, 1) := by decide +kernel
theorem dX5_weighPairs_12 : decode cX5_weighPairs 12 = .ok (.getfield 53, 3) := by decide +kernel
theorem dX5_weighPairs_15 : decode cX5_weighPairs 15 = .ok (.aload_n 0, 1) := by decide +kernel
theorem dX5_weighPairs_16 : decode cX5_weighPairs 16 = .ok (.getfield 32, 3) := by decide +kernel
theorem dX5_weighPairs_19 : decode cX5_weighPairs 19 = .ok (.invokevirtual 219, 3) := by decide +kernel
theorem dX5_weighPairs_22 : decode cX5_weighPairs 22 = .ok (.iconst 0, 1) := by decide +kernel
theorem dX5_weighPairs_23 : decode cX5_weighPairs 23 = .ok (.istore_n 3, 1) := by decide +kernel
theorem dX5_weighPairs_24 : decode cX5_weighPairs 24 = .ok (.iload_n 3, 1) := by decide +kernel
theorem dX5_weighPairs_25 : decode cX5_weighPairs 25 = .ok (.bipush 10, 2) := by decide +kernel
theorem dX5_weighPairs_27 : decode cX5_weighPairs 27 = .ok (.if_icmp .ge 105, 3) := by decide +kernel
theorem dX5_weighPairs_30 : decode cX5_weighPairs 30 = .ok (.aload_n 0, 1) := by decide +kernel
theorem dX5_weighPairs_31 : decode cX5_weighPairs 31 = .ok (.getfield 32, 3) := by decide +kernel
theorem dX5_weighPairs_34 : decode cX5_weighPairs 34 = .ok (.iload_n 1, 1) := by decide +kernel
theorem dX5_weighPairs_35 : decode cX5_weighPairs 35 = .ok (.iconst 0, 1) := by decide +kernel
theorem dX5_weighPairs_36 : decode cX5_weighPairs 36 = .ok (.iload_n 3, 1) := by decide +kernel
theorem dX5_weighPairs_37 : decode cX5_weighPairs 37 = .ok (.invokevirtual 159, 3) := by decide +kernel
theorem dX5_weighPairs_40 : decode cX5_weighPairs 40 = .ok (.iconst 0, 1) := by decide +kernel
theorem dX5_weighPairs_41 : decode cX5_weighPairs 41 = .ok (.istore 4, 2) := by decide +kernel
theorem dX5_weighPairs_43 : decode cX5_weighPairs 43 = .ok (.iload 4, 2) := by decide +kernel
theorem dX5_weighPairs_45 : decode cX5_weighPairs 45 = .ok (.bipush 10, 2) := by decide +kernel
theorem dX5_weighPairs_47 : decode cX5_weighPairs 47 = .ok (.if_icmp .ge 79, 3) := by decide +kernel
theorem dX5_weighPairs_50 : decode cX5_weighPairs 50 = .ok (.aload_n 0, 1) := by decide +kernel
theorem dX5_weighPairs_51 : decode cX5_weighPairs 51 = .ok (.getfield 32, 3) := by decide +kernel
theorem dX5_weighPairs_54 : decode cX5_weighPairs 54 = .ok (.iload_n 2, 1) := by decide +kernel
theorem dX5_weighPairs_55 : decode cX5_weighPairs 55 = .ok (.iconst 0, 1) := by decide +kernel
theorem dX5_weighPairs_56 : decode cX5_weighPairs 56 = .ok (.iload 4, 2) := by decide +kernel
theorem dX5_weighPairs_58 : decode cX5_weighPairs 58 = .ok (.invokevirtual 159, 3) := by decide +kernel
theorem dX5_weighPairs_61 : decode cX5_weighPairs 61 = .ok (.aload_n 0, 1) := by decide +kernel
theorem dX5_weighPairs_62 : decode cX5_weighPairs 62 = .ok (.getfield 53, 3) := by decide +kernel
theorem dX5_weighPairs_65 : decode cX5_weighPairs 65 = .ok (.aload_n 0, 1) := by decide +kernel
theorem dX5_weighPairs_66 : decode cX5_weighPairs 66 = .ok (.getfield 32, 3) := by decide +kernel
theorem dX5_weighPairs_69 : decode cX5_weighPairs 69 = .ok (.invokevirtual 222, 3) := by decide +kernel
theorem dX5_weighPairs_72 : decode cX5_weighPairs 72 = .ok (.aload_n 0, 1) := by decide +kernel
theorem dX5_weighPairs_73 : decode cX5_weighPairs 73 = .ok (.getfield 73, 3) := by decide +kernel
theorem dX5_weighPairs_76 : decode cX5_weighPairs 76 = .ok (.bipush 10, 2) := by decide +kernel
theorem dX5_weighPairs_78 : decode cX5_weighPairs 78 = .ok (.iload_n 3, 1) := by decide +kernel
theorem dX5_weighPairs_79 : decode cX5_weighPairs 79 = .ok (.imul, 1) := by decide +kernel
theorem dX5_weighPairs_80 : decode cX5_weighPairs 80 = .ok (.iload 4, 2) := by decide +kernel
theorem dX5_weighPairs_82 : decode cX5_weighPairs 82 = .ok (.iadd, 1) := by decide +kernel
theorem dX5_weighPairs_83 : decode cX5_weighPairs 83 = .ok (.aload_n 0, 1) := by decide +kernel
theorem dX5_weighPairs_84 : decode cX5_weighPairs 84 = .ok (.getfield 53, 3) := by decide +kernel
theorem dX5_weighPairs_87 : decode cX5_weighPairs 87 = .ok (.aload_n 0, 1) := by decide +kernel
theorem dX5_weighPairs_88 : decode cX5_weighPairs 88 = .ok (.getfield 32, 3) := by decide +kernel
theorem dX5_weighPairs_91 : decode cX5_weighPairs 91 = .ok (.iload_n 1, 1) := by decide +kernel
theorem dX5_weighPairs_92 : decode cX5_weighPairs 92 = .ok (.invokevirtual 192, 3) := by decide +kernel
theorem dX5_weighPairs_95 : decode cX5_weighPairs 95 = .ok (.iastore, 1) := by decide +kernel
theorem dX5_weighPairs_96 : decode cX5_weighPairs 96 = .ok (.aload_n 0, 1) := by decide +kernel
theorem dX5_weighPairs_97 : decode cX5_weighPairs 97 = .ok (.getfield 76, 3) := by decide +kernel
theorem dX5_weighPairs_100 : decode cX5_weighPairs 100 = .ok (.bipush 10, 2) := by decide +kernel
theorem dX5_weighPairs_102 : decode cX5_weighPairs 102 = .ok (.iload_n 3, 1) := by decide +kernel
theorem dX5_weighPairs_103 : decode cX5_weighPairs 103 = .ok (.imul, 1) := by decide +kernel
theorem dX5_weighPairs_104 : decode cX5_weighPairs 104 = .ok (.iload 4, 2) := by decide +kernel
theorem dX5_weighPairs_106 : decode cX5_weighPairs 106 = .ok (.iadd, 1) := by decide +kernel
theorem dX5_weighPairs_107 : decode cX5_weighPairs 107 = .ok (.aload_n 0, 1) := by decide +kernel
theorem dX5_weighPairs_108 : decode cX5_weighPairs 108 = .ok (.getfield 53, 3) := by decide +kernel
theorem dX5_weighPairs_111 : decode cX5_weighPairs 111 = .ok (.aload_n 0, 1) := by decide +kernel
theorem dX5_weighPairs_112 : decode cX5_weighPairs 112 = .ok (.getfield 32, 3) := by decide +kernel
theorem dX5_weighPairs_115 : decode cX5_weighPairs 115 = .ok (.iload_n 2, 1) := by decide +kernel
theorem dX5_weighPairs_116 : decode cX5_weighPairs 116 = .ok (.invokevirtual 192, 3) := by decide +kernel
theorem dX5_weighPairs_119 : decode cX5_weighPairs 119 = .ok (.iastore, 1) := by decide +kernel
theorem dX5_weighPairs_120 : decode cX5_weighPairs 120 = .ok (.iinc 4 1, 3) := by decide +kernel
theorem dX5_weighPairs_123 : decode cX5_weighPairs 123 = .ok (.goto (-80), 3) := by decide +kernel
theorem dX5_weighPairs_126 : decode cX5_weighPairs 126 = .ok (.iinc 3 1, 3) := by decide +kernel
theorem dX5_weighPairs_129 : decode cX5_weighPairs 129 = .ok (.goto (-105), 3) := by decide +kernel
theorem dX5_weighPairs_132 : decode cX5_weighPairs 132 = .ok (.return_, 1) := by decide +kernel
theorem dX5_neitherWouldGo_0 : decode cX5_neitherWouldGo 0 = .ok (.bipush 10, 2) := by decide +kernel
theorem dX5_neitherWouldGo_2 : decode cX5_neitherWouldGo 2 = .ok (.iload_n 1, 1) := by decide +kernel
theorem dX5_neitherWouldGo_3 : decode cX5_neitherWouldGo 3 = .ok (.imul, 1) := by decide +kernel
theorem dX5_neitherWouldGo_4 : decode cX5_neitherWouldGo 4 = .ok (.iload_n 2, 1) := by decide +kernel
theorem dX5_neitherWouldGo_5 : decode cX5_neitherWouldGo 5 = .ok (.iadd, 1) := by decide +kernel
theorem dX5_neitherWouldGo_6 : decode cX5_neitherWouldGo 6 = .ok (.istore_n 3, 1) := by decide +kernel
theorem dX5_neitherWouldGo_7 : decode cX5_neitherWouldGo 7 = .ok (.iconst 0, 1) := by decide +kernel
theorem dX5_neitherWouldGo_8 : decode cX5_neitherWouldGo 8 = .ok (.istore 4, 2) := by decide +kernel
theorem dX5_neitherWouldGo_10 : decode cX5_neitherWouldGo 10 = .ok (.iload 4, 2) := by decide +kernel
theorem dX5_neitherWouldGo_12 : decode cX5_neitherWouldGo 12 = .ok (.bipush 10, 2) := by decide +kernel
theorem dX5_neitherWouldGo_14 : decode cX5_neitherWouldGo 14 = .ok (.if_icmp .ge 55, 3) := by decide +kernel
theorem dX5_neitherWouldGo_17 : decode cX5_neitherWouldGo 17 = .ok (.aload_n 0, 1) := by decide +kernel
theorem dX5_neitherWouldGo_18 : decode cX5_neitherWouldGo 18 = .ok (.getfield 73, 3) := by decide +kernel
theorem dX5_neitherWouldGo_21 : decode cX5_neitherWouldGo 21 = .ok (.bipush 10, 2) := by decide +kernel
theorem dX5_neitherWouldGo_23 : decode cX5_neitherWouldGo 23 = .ok (.iload 4, 2) := by decide +kernel
theorem dX5_neitherWouldGo_25 : decode cX5_neitherWouldGo 25 = .ok (.imul, 1) := by decide +kernel
theorem dX5_neitherWouldGo_26 : decode cX5_neitherWouldGo 26 = .ok (.iload_n 2, 1) := by decide +kernel
theorem dX5_neitherWouldGo_27 : decode cX5_neitherWouldGo 27 = .ok (.iadd, 1) := by decide +kernel
theorem dX5_neitherWouldGo_28 : decode cX5_neitherWouldGo 28 = .ok (.iaload, 1) := by decide +kernel
theorem dX5_neitherWouldGo_29 : decode cX5_neitherWouldGo 29 = .ok (.aload_n 0, 1) := by decide +kernel
theorem dX5_neitherWouldGo_30 : decode cX5_neitherWouldGo 30 = .ok (.getfield 73, 3) := by decide +kernel
theorem dX5_neitherWouldGo_33 : decode cX5_neitherWouldGo 33 = .ok (.iload_n 3, 1) := by decide +kernel
theorem dX5_neitherWouldGo_34 : decode cX5_neitherWouldGo 34 = .ok (.iaload, 1) := by decide +kernel
theorem dX5_neitherWouldGo_35 : decode cX5_neitherWouldGo 35 = .ok (.if_icmp .le 5, 3) := by decide +kernel
theorem dX5_neitherWouldGo_38 : decode cX5_neitherWouldGo 38 = .ok (.iconst 0, 1) := by decide +kernel
theorem dX5_neitherWouldGo_39 : decode cX5_neitherWouldGo 39 = .ok (.ireturn, 1) := by decide +kernel
theorem dX5_neitherWouldGo_40 : decode cX5_neitherWouldGo 40 = .ok (.aload_n 0, 1) := by decide +kernel
theorem dX5_neitherWouldGo_41 : decode cX5_neitherWouldGo 41 = .ok (.getfield 76, 3) := by decide +kernel
theorem dX5_neitherWouldGo_44 : decode cX5_neitherWouldGo 44 = .ok (.bipush 10, 2) := by decide +kernel
theorem dX5_neitherWouldGo_46 : decode cX5_neitherWouldGo 46 = .ok (.iload_n 1, 1) := by decide +kernel
theorem dX5_neitherWouldGo_47 : decode cX5_neitherWouldGo 47 = .ok (.imul, 1) := by decide +kernel
theorem dX5_neitherWouldGo_48 : decode cX5_neitherWouldGo 48 = .ok (.iload 4, 2) := by decide +kernel
theorem dX5_neitherWouldGo_50 : decode cX5_neitherWouldGo 50 = .ok (.iadd, 1) := by decide +kernel
theorem dX5_neitherWouldGo_51 : decode cX5_neitherWouldGo 51 = .ok (.iaload, 1) := by decide +kernel
theorem dX5_neitherWouldGo_52 : decode cX5_neitherWouldGo 52 = .ok (.aload_n 0, 1) := by decide +kernel
theorem dX5_neitherWouldGo_53 : decode cX5_neitherWouldGo 53 = .ok (.getfield 76, 3) := by decide +kernel
theorem dX5_neitherWouldGo_56 : decode cX5_neitherWouldGo 56 = .ok (.iload_n 3, 1) := by decide +kernel
theorem dX5_neitherWouldGo_57 : decode cX5_neitherWouldGo 57 = .ok (.iaload, 1) := by decide +kernel
theorem dX5_neitherWouldGo_58 : decode cX5_neitherWouldGo 58 = .ok (.if_icmp .le 5, 3) := by decide +kernel
theorem dX5_neitherWouldGo_61 : decode cX5_neitherWouldGo 61 = .ok (.iconst 0, 1) := by decide +kernel
theorem dX5_neitherWouldGo_62 : decode cX5_neitherWouldGo 62 = .ok (.ireturn, 1) := by decide +kernel
theorem dX5_neitherWouldGo_63 : decode cX5_neitherWouldGo 63 = .ok (.iinc 4 1, 3) := by decide +kernel
theorem dX5_neitherWouldGo_66 : decode cX5_neitherWouldGo 66 = .ok (.goto (-56), 3) := by decide +kernel
theorem dX5_neitherWouldGo_69 : decode cX5_neitherWouldGo 69 = .ok (.iconst 1, 1) := by decide +kernel
theorem dX5_neitherWouldGo_70 : decode cX5_neitherWouldGo 70 = .ok (.ireturn, 1) := by decide +kernel
theorem dX5_isAsSeen_0 : decode cX5_isAsSeen 0 = .ok (.iconst 0, 1) := by decide +kernel
theorem dX5_isAsSeen_1 : decode cX5_isAsSeen 1 = .ok (.istore_n 2, 1) := by decide +kernel
theorem dX5_isAsSeen_2 : decode cX5_isAsSeen 2 = .ok (.iload_n 2, 1) := by decide +kernel
theorem dX5_isAsSeen_3 : decode cX5_isAsSeen 3 = .ok (.aload_n 0, 1) := by decide +kernel
theorem dX5_isAsSeen_4 : decode cX5_isAsSeen 4 = .ok (.getfield 108, 3) := by decide +kernel
theorem dX5_isAsSeen_7 : decode cX5_isAsSeen 7 = .ok (.if_icmp .ge 60, 3) := by decide +kernel
theorem dX5_isAsSeen_10 : decode cX5_isAsSeen 10 = .ok (.aload_n 0, 1) := by decide +kernel
theorem dX5_isAsSeen_11 : decode cX5_isAsSeen 11 = .ok (.getfield 57, 3) := by decide +kernel
theorem dX5_isAsSeen_14 : decode cX5_isAsSeen 14 = .ok (.iload_n 2, 1) := by decide +kernel
theorem dX5_isAsSeen_15 : decode cX5_isAsSeen 15 = .ok (.iaload, 1) := by decide +kernel
theorem dX5_isAsSeen_16 : decode cX5_isAsSeen 16 = .ok (.istore_n 3, 1) := by decide +kernel
theorem dX5_isAsSeen_17 : decode cX5_isAsSeen 17 = .ok (.aload_n 1, 1) := by decide +kernel
theorem dX5_isAsSeen_18 : decode cX5_isAsSeen 18 = .ok (.iload_n 3, 1) := by decide +kernel
theorem dX5_isAsSeen_19 : decode cX5_isAsSeen 19 = .ok (.invokevirtual 126, 3) := by decide +kernel
theorem dX5_isAsSeen_22 : decode cX5_isAsSeen 22 = .ok (.ifCond .ne 5, 3) := by decide +kernel
theorem dX5_isAsSeen_25 : decode cX5_isAsSeen 25 = .ok (.iconst 0, 1) := by decide +kernel
theorem dX5_isAsSeen_26 : decode cX5_isAsSeen 26 = .ok (.ireturn, 1) := by decide +kernel
theorem dX5_isAsSeen_27 : decode cX5_isAsSeen 27 = .ok (.aload_n 0, 1) := by decide +kernel
theorem dX5_isAsSeen_28 : decode cX5_isAsSeen 28 = .ok (.getfield 53, 3) := by decide +kernel
theorem dX5_isAsSeen_31 : decode cX5_isAsSeen 31 = .ok (.aload_n 1, 1) := by decide +kernel
theorem dX5_isAsSeen_32 : decode cX5_isAsSeen 32 = .ok (.iload_n 3, 1) := by decide +kernel
theorem dX5_isAsSeen_33 : decode cX5_isAsSeen 33 = .ok (.aload_n 0, 1) := by decide +kernel
theorem dX5_isAsSeen_34 : decode cX5_isAsSeen 34 = .ok (.getfield 61, 3) := by decide +kernel
theorem dX5_isAsSeen_37 : decode cX5_isAsSeen 37 = .ok (.iload_n 2, 1) := by decide +kernel
theorem dX5_isAsSeen_38 : decode cX5_isAsSeen 38 = .ok (.iaload, 1) := by decide +kernel
theorem dX5_isAsSeen_39 : decode cX5_isAsSeen 39 = .ok (.invokevirtual 300, 3) := by decide +kernel
theorem dX5_isAsSeen_42 : decode cX5_isAsSeen 42 = .ok (.aload_n 0, 1) := by decide +kernel
theorem dX5_isAsSeen_43 : decode cX5_isAsSeen 43 = .ok (.getfield 53, 3) := by decide +kernel
theorem dX5_isAsSeen_46 : decode cX5_isAsSeen 46 = .ok (.iload_n 3, 1) := by decide +kernel
theorem dX5_isAsSeen_47 : decode cX5_isAsSeen 47 = .ok (.invokevirtual 183, 3) := by decide +kernel
theorem dX5_isAsSeen_50 : decode cX5_isAsSeen 50 = .ok (.aload_n 0, 1) := by decide +kernel
theorem dX5_isAsSeen_51 : decode cX5_isAsSeen 51 = .ok (.getfield 64, 3) := by decide +kernel
theorem dX5_isAsSeen_54 : decode cX5_isAsSeen 54 = .ok (.iload_n 2, 1) := by decide +kernel
theorem dX5_isAsSeen_55 : decode cX5_isAsSeen 55 = .ok (.iaload, 1) := by decide +kernel
theorem dX5_isAsSeen_56 : decode cX5_isAsSeen 56 = .ok (.if_icmp .eq 5, 3) := by decide +kernel
theorem dX5_isAsSeen_59 : decode cX5_isAsSeen 59 = .ok (.iconst 0, 1) := by decide +kernel
theorem dX5_isAsSeen_60 : decode cX5_isAsSeen 60 = .ok (.ireturn, 1) := by decide +kernel
theorem dX5_isAsSeen_61 : decode cX5_isAsSeen 61 = .ok (.iinc 2 1, 3) := by decide +kernel
theorem dX5_isAsSeen_64 : decode cX5_isAsSeen 64 = .ok (.goto (-62), 3) := by decide +kernel
theorem dX5_isAsSeen_67 : decode cX5_isAsSeen 67 = .ok (.iconst 1, 1) := by decide +kernel
theorem dX5_isAsSeen_68 : decode cX5_isAsSeen 68 = .ok (.ireturn, 1) := by decide +kernel
theorem dX5_kindsAsSeen_0 : decode cX5_kindsAsSeen 0 = .ok (.aload_n 0, 1) := by decide +kernel
theorem dX5_kindsAsSeen_1 : decode cX5_kindsAsSeen 1 = .ok (.getfield 32, 3) := by decide +kernel
theorem dX5_kindsAsSeen_4 : decode cX5_kindsAsSeen 4 = .ok (.aload_n 0, 1) := by decide +kernel
theorem dX5_kindsAsSeen_5 : decode cX5_kindsAsSeen 5 = .ok (.getfield 28, 3) := by decide +kernel
theorem dX5_kindsAsSeen_8 : decode cX5_kindsAsSeen 8 = .ok (.invokevirtual 104, 3) := by decide +kernel
theorem dX5_kindsAsSeen_11 : decode cX5_kindsAsSeen 11 = .ok (.iconst 0, 1) := by decide +kernel
theorem dX5_kindsAsSeen_12 : decode cX5_kindsAsSeen 12 = .ok (.istore_n 2, 1) := by decide +kernel
theorem dX5_kindsAsSeen_13 : decode cX5_kindsAsSeen 13 = .ok (.iconst 0, 1) := by decide +kernel
theorem dX5_kindsAsSeen_14 : decode cX5_kindsAsSeen 14 = .ok (.istore_n 3, 1) := by decide +kernel
theorem dX5_kindsAsSeen_15 : decode cX5_kindsAsSeen 15 = .ok (.iload_n 3, 1) := by decide +kernel
theorem dX5_kindsAsSeen_16 : decode cX5_kindsAsSeen 16 = .ok (.iconst 4, 1) := by decide +kernel
theorem dX5_kindsAsSeen_17 : decode cX5_kindsAsSeen 17 = .ok (.if_icmp .ge 36, 3) := by decide +kernel
theorem dX5_kindsAsSeen_20 : decode cX5_kindsAsSeen 20 = .ok (.aload_n 0, 1) := by decide +kernel
theorem dX5_kindsAsSeen_21 : decode cX5_kindsAsSeen 21 = .ok (.getfield 32, 3) := by decide +kernel
theorem dX5_kindsAsSeen_24 : decode cX5_kindsAsSeen 24 = .ok (.iload_n 1, 1) := by decide +kernel
theorem dX5_kindsAsSeen_25 : decode cX5_kindsAsSeen 25 = .ok (.iconst 0, 1) := by decide +kernel
theorem dX5_kindsAsSeen_26 : decode cX5_kindsAsSeen 26 = .ok (.iload_n 3, 1) := by decide +kernel
theorem dX5_kindsAsSeen_27 : decode cX5_kindsAsSeen 27 = .ok (.invokevirtual 152, 3) := by decide +kernel
theorem dX5_kindsAsSeen_30 : decode cX5_kindsAsSeen 30 = .ok (.aload_n 0, 1) := by decide +kernel
theorem dX5_kindsAsSeen_31 : decode cX5_kindsAsSeen 31 = .ok (.aload_n 0, 1) := by decide +kernel
theorem dX5_kindsAsSeen_32 : decode cX5_kindsAsSeen 32 = .ok (.getfield 32, 3) := by decide +kernel
theorem dX5_kindsAsSeen_35 : decode cX5_kindsAsSeen 35 = .ok (.invokevirtual 254, 3) := by decide +kernel
theorem dX5_kindsAsSeen_38 : decode cX5_kindsAsSeen 38 = .ok (.ifCond .eq 9, 3) := by decide +kernel
theorem dX5_kindsAsSeen_41 : decode cX5_kindsAsSeen 41 = .ok (.iload_n 2, 1) := by decide +kernel
theorem dX5_kindsAsSeen_42 : decode cX5_kindsAsSeen 42 = .ok (.iconst 1, 1) := by decide +kernel
theorem dX5_kindsAsSeen_43 : decode cX5_kindsAsSeen 43 = .ok (.iload_n 3, 1) := by decide +kernel
theorem dX5_kindsAsSeen_44 : decode cX5_kindsAsSeen 44 = .ok (.ishl, 1) := by decide +kernel
theorem dX5_kindsAsSeen_45 : decode cX5_kindsAsSeen 45 = .ok (.ior, 1) := by decide +kernel
theorem dX5_kindsAsSeen_46 : decode cX5_kindsAsSeen 46 = .ok (.istore_n 2, 1) := by decide +kernel
theorem dX5_kindsAsSeen_47 : decode cX5_kindsAsSeen 47 = .ok (.iinc 3 1, 3) := by decide +kernel
theorem dX5_kindsAsSeen_50 : decode cX5_kindsAsSeen 50 = .ok (.goto (-35), 3) := by decide +kernel
theorem dX5_kindsAsSeen_53 : decode cX5_kindsAsSeen 53 = .ok (.iload_n 2, 1) := by decide +kernel
theorem dX5_kindsAsSeen_54 : decode cX5_kindsAsSeen 54 = .ok (.ireturn, 1) := by decide +kernel
theorem dX5_leftAtWorst_0 : decode cX5_leftAtWorst 0 = .ok (.aload_n 0, 1) := by decide +kernel
theorem dX5_leftAtWorst_1 : decode cX5_leftAtWorst 1 = .ok (.getfield 32, 3) := by decide +kernel
theorem dX5_leftAtWorst_4 : decode cX5_leftAtWorst 4 = .ok (.aload_n 0, 1) := by decide +kernel
theorem dX5_leftAtWorst_5 : decode cX5_leftAtWorst 5 = .ok (.getfield 28, 3) := by decide +kernel
theorem dX5_leftAtWorst_8 : decode cX5_leftAtWorst 8 = .ok (.invokevirtual 104, 3) := by decide +kernel
theorem dX5_leftAtWorst_11 : decode cX5_leftAtWorst 11 = .ok (.iconst 0, 1) := by decide +kernel
theorem dX5_leftAtWorst_12 : decode cX5_leftAtWorst 12 = .ok (.istore 4, 2) := by decide +kernel
theorem dX5_leftAtWorst_14 : decode cX5_leftAtWorst 14 = .ok (.iload 4, 2) := by decide +kernel
theorem dX5_leftAtWorst_16 : decode cX5_leftAtWorst 16 = .ok (.iconst 4, 1) := by decide +kernel
theorem dX5_leftAtWorst_17 : decode cX5_leftAtWorst 17 = .ok (.if_icmp .ge 48, 3) := by decide +kernel
theorem dX5_leftAtWorst_20 : decode cX5_leftAtWorst 20 = .ok (.aload_n 0, 1) := by decide +kernel
theorem dX5_leftAtWorst_21 : decode cX5_leftAtWorst 21 = .ok (.getfield 32, 3) := by decide +kernel
theorem dX5_leftAtWorst_24 : decode cX5_leftAtWorst 24 = .ok (.iload_n 1, 1) := by decide +kernel
theorem dX5_leftAtWorst_25 : decode cX5_leftAtWorst 25 = .ok (.iconst 0, 1) := by decide +kernel
theorem dX5_leftAtWorst_26 : decode cX5_leftAtWorst 26 = .ok (.iload 4, 2) := by decide +kernel
theorem dX5_leftAtWorst_28 : decode cX5_leftAtWorst 28 = .ok (.invokevirtual 152, 3) := by decide +kernel
theorem dX5_leftAtWorst_31 : decode cX5_leftAtWorst 31 = .ok (.aload_n 0, 1) := by decide +kernel
theorem dX5_leftAtWorst_32 : decode cX5_leftAtWorst 32 = .ok (.getfield 53, 3) := by decide +kernel
theorem dX5_leftAtWorst_35 : decode cX5_leftAtWorst 35 = .ok (.aload_n 0, 1) := by decide +kernel
theorem dX5_leftAtWorst_36 : decode cX5_leftAtWorst 36 = .ok (.getfield 32, 3) := by decide +kernel
theorem dX5_leftAtWorst_39 : decode cX5_leftAtWorst 39 = .ok (.iload_n 1, 1) := by decide +kernel
theorem dX5_leftAtWorst_40 : decode cX5_leftAtWorst 40 = .ok (.iload_n 3, 1) := by decide +kernel
theorem dX5_leftAtWorst_41 : decode cX5_leftAtWorst 41 = .ok (.invokevirtual 300, 3) := by decide +kernel
theorem dX5_leftAtWorst_44 : decode cX5_leftAtWorst 44 = .ok (.aload_n 0, 1) := by decide +kernel
theorem dX5_leftAtWorst_45 : decode cX5_leftAtWorst 45 = .ok (.getfield 70, 3) := by decide +kernel
theorem dX5_leftAtWorst_48 : decode cX5_leftAtWorst 48 = .ok (.iload 4, 2) := by decide +kernel
theorem dX5_leftAtWorst_50 : decode cX5_leftAtWorst 50 = .ok (.aload_n 0, 1) := by decide +kernel
theorem dX5_leftAtWorst_51 : decode cX5_leftAtWorst 51 = .ok (.getfield 53, 3) := by decide +kernel
theorem dX5_leftAtWorst_54 : decode cX5_leftAtWorst 54 = .ok (.iload_n 1, 1) := by decide +kernel
theorem dX5_leftAtWorst_55 : decode cX5_leftAtWorst 55 = .ok (.invokevirtual 183, 3) := by decide +kernel
theorem dX5_leftAtWorst_58 : decode cX5_leftAtWorst 58 = .ok (.iastore, 1) := by decide +kernel
theorem dX5_leftAtWorst_59 : decode cX5_leftAtWorst 59 = .ok (.iinc 4 1, 3) := by decide +kernel
theorem dX5_leftAtWorst_62 : decode cX5_leftAtWorst 62 = .ok (.goto (-48), 3) := by decide +kernel
theorem dX5_leftAtWorst_65 : decode cX5_leftAtWorst 65 = .ok (.iconst 0, 1) := by decide +kernel
theorem dX5_leftAtWorst_66 : decode cX5_leftAtWorst 66 = .ok (.istore 4, 2) := by decide +kernel
theorem dX5_leftAtWorst_68 : decode cX5_leftAtWorst 68 = .ok (.iconst 0, 1) := by decide +kernel
theorem dX5_leftAtWorst_69 : decode cX5_leftAtWorst 69 = .ok (.istore 5, 2) := by decide +kernel
theorem dX5_leftAtWorst_71 : decode cX5_leftAtWorst 71 = .ok (.iload 5, 2) := by decide +kernel
theorem dX5_leftAtWorst_73 : decode cX5_leftAtWorst 73 = .ok (.iconst 4, 1) := by decide +kernel
theorem dX5_leftAtWorst_74 : decode cX5_leftAtWorst 74 = .ok (.if_icmp .ge 78, 3) := by decide +kernel
theorem dX5_leftAtWorst_77 : decode cX5_leftAtWorst 77 = .ok (.iconst 0, 1) := by decide +kernel
theorem dX5_leftAtWorst_78 : decode cX5_leftAtWorst 78 = .ok (.istore 6, 2) := by decide +kernel
theorem dX5_leftAtWorst_80 : decode cX5_leftAtWorst 80 = .ok (.iconst 0, 1) := by decide +kernel
theorem dX5_leftAtWorst_81 : decode cX5_leftAtWorst 81 = .ok (.istore 7, 2) := by decide +kernel
theorem dX5_leftAtWorst_83 : decode cX5_leftAtWorst 83 = .ok (.iload 7, 2) := by decide +kernel
theorem dX5_leftAtWorst_85 : decode cX5_leftAtWorst 85 = .ok (.iconst 4, 1) := by decide +kernel
theorem dX5_leftAtWorst_86 : decode cX5_leftAtWorst 86 = .ok (.if_icmp .ge 51, 3) := by decide +kernel
theorem dX5_leftAtWorst_89 : decode cX5_leftAtWorst 89 = .ok (.iload_n 2, 1) := by decide +kernel
theorem dX5_leftAtWorst_90 : decode cX5_leftAtWorst 90 = .ok (.iload 7, 2) := by decide +kernel
theorem dX5_leftAtWorst_92 : decode cX5_leftAtWorst 92 = .ok (.ishr, 1) := by decide +kernel
theorem dX5_leftAtWorst_93 : decode cX5_leftAtWorst 93 = .ok (.iconst 1, 1) := by decide +kernel
theorem dX5_leftAtWorst_94 : decode cX5_leftAtWorst 94 = .ok (.iand, 1) := by decide +kernel
theorem dX5_leftAtWorst_95 : decode cX5_leftAtWorst 95 = .ok (.iconst 1, 1) := by decide +kernel
theorem dX5_leftAtWorst_96 : decode cX5_leftAtWorst 96 = .ok (.if_icmp .ne 7, 3) := by decide +kernel
theorem dX5_leftAtWorst_99 : decode cX5_leftAtWorst 99 = .ok (.iconst 1, 1) := by decide +kernel
theorem dX5_leftAtWorst_100 : decode cX5_leftAtWorst 100 = .ok (.goto 4, 3) := by decide +kernel
theorem dX5_leftAtWorst_103 : decode cX5_leftAtWorst 103 = .ok (.iconst 0, 1) := by decide +kernel
theorem dX5_leftAtWorst_104 : decode cX5_leftAtWorst 104 = .ok (.istore 8, 2) := by decide +kernel
theorem dX5_leftAtWorst_106 : decode cX5_leftAtWorst 106 = .ok (.iload 8, 2) := by decide +kernel
theorem dX5_leftAtWorst_108 : decode cX5_leftAtWorst 108 = .ok (.ifCond .eq 23, 3) := by decide +kernel
theorem dX5_leftAtWorst_111 : decode cX5_leftAtWorst 111 = .ok (.aload_n 0, 1) := by decide +kernel
theorem dX5_leftAtWorst_112 : decode cX5_leftAtWorst 112 = .ok (.getfield 70, 3) := by decide +kernel
theorem dX5_leftAtWorst_115 : decode cX5_leftAtWorst 115 = .ok (.iload 7, 2) := by decide +kernel
theorem dX5_leftAtWorst_117 : decode cX5_leftAtWorst 117 = .ok (.iaload, 1) := by decide +kernel
theorem dX5_leftAtWorst_118 : decode cX5_leftAtWorst 118 = .ok (.aload_n 0, 1) := by decide +kernel
theorem dX5_leftAtWorst_119 : decode cX5_leftAtWorst 119 = .ok (.getfield 70, 3) := by decide +kernel
theorem dX5_leftAtWorst_122 : decode cX5_leftAtWorst 122 = .ok (.iload 5, 2) := by decide +kernel
theorem dX5_leftAtWorst_124 : decode cX5_leftAtWorst 124 = .ok (.iaload, 1) := by decide +kernel
theorem dX5_leftAtWorst_125 : decode cX5_leftAtWorst 125 = .ok (.if_icmp .ne 6, 3) := by decide +kernel
theorem dX5_leftAtWorst_128 : decode cX5_leftAtWorst 128 = .ok (.iinc 6 1, 3) := by decide +kernel
theorem dX5_leftAtWorst_131 : decode cX5_leftAtWorst 131 = .ok (.iinc 7 1, 3) := by decide +kernel
theorem dX5_leftAtWorst_134 : decode cX5_leftAtWorst 134 = .ok (.goto (-51), 3) := by decide +kernel
theorem dX5_leftAtWorst_137 : decode cX5_leftAtWorst 137 = .ok (.iload 4, 2) := by decide +kernel
theorem dX5_leftAtWorst_139 : decode cX5_leftAtWorst 139 = .ok (.iload 6, 2) := by decide +kernel
theorem dX5_leftAtWorst_141 : decode cX5_leftAtWorst 141 = .ok (.invokestatic 303, 3) := by decide +kernel
theorem dX5_leftAtWorst_144 : decode cX5_leftAtWorst 144 = .ok (.istore 4, 2) := by decide +kernel
theorem dX5_leftAtWorst_146 : decode cX5_leftAtWorst 146 = .ok (.iinc 5 1, 3) := by decide +kernel
theorem dX5_leftAtWorst_149 : decode cX5_leftAtWorst 149 = .ok (.goto (-78), 3) := by decide +kernel
theorem dX5_leftAtWorst_152 : decode cX5_leftAtWorst 152 = .ok (.iload 4, 2) := by decide +kernel
theorem dX5_leftAtWorst_154 : decode cX5_leftAtWorst 154 = .ok (.ireturn, 1) := by decide +kernel
end
section
theorem dX6_init_0 : decode cX6_init 0 = .ok (.aload_n 0, 1) := by decide +kernel
theorem dX6_init_1 : decode cX6_init 1 = .ok (.invokespecial 1, 3) := by decide +kernel
theorem dX6_init_4 : decode cX6_init 4 = .ok (.aload_n 0, 1) := by decide +kernel
theorem dX6_init_5 : decode cX6_init 5 = .ok (.sipush 360, 3) := by decide +kernel
theorem dX6_init_8 : decode cX6_init 8 = .ok (.newarray .int, 2) := by decide +kernel
theorem dX6_init_10 : decode cX6_init 10 = .ok (.putfield 7, 3) := by decide +kernel
theorem dX6_init_13 : decode cX6_init 13 = .ok (.aload_n 0, 1) := by decide +kernel
theorem dX6_init_14 : decode cX6_init 14 = .ok (.iconst 4, 1) := by decide +kernel
theorem dX6_init_15 : decode cX6_init 15 = .ok (.newarray .int, 2) := by decide +kernel
theorem dX6_init_17 : decode cX6_init 17 = .ok (.dup, 1) := by decide +kernel
theorem dX6_init_18 : decode cX6_init 18 = .ok (.iconst 0, 1) := by decide +kernel
theorem dX6_init_19 : decode cX6_init 19 = .ok (.iconst 1, 1) := by decide +kernel
theorem dX6_init_20 : decode cX6_init 20 = .ok (.iastore, 1) := by decide +kernel
theorem dX6_init_21 : decode cX6_init 21 = .ok (.dup, 1) := by decide +kernel
theorem dX6_init_22 : decode cX6_init 22 = .ok (.iconst 1, 1) := by decide +kernel
theorem dX6_init_23 : decode cX6_init 23 = .ok (.iconst 0, 1) := by decide +kernel
theorem dX6_init_24 : decode cX6_init 24 = .ok (.iastore, 1) := by decide +kernel
theorem dX6_init_25 : decode cX6_init 25 = .ok (.dup, 1) := by decide +kernel
theorem dX6_init_26 : decode cX6_init 26 = .ok (.iconst 2, 1) := by decide +kernel
theorem dX6_init_27 : decode cX6_init 27 = .ok (.iconst 2, 1) := by decide +kernel
theorem dX6_init_28 : decode cX6_init 28 = .ok (.iastore, 1) := by decide +kernel
theorem dX6_init_29 : decode cX6_init 29 = .ok (.dup, 1) := by decide +kernel
theorem dX6_init_30 : decode cX6_init 30 = .ok (.iconst 3, 1) := by decide +kernel
theorem dX6_init_31 : decode cX6_init 31 = .ok (.iconst 3, 1) := by decide +kernel
theorem dX6_init_32 : decode cX6_init 32 = .ok (.iastore, 1) := by decide +kernel
theorem dX6_init_33 : decode cX6_init 33 = .ok (.putfield 13, 3) := by decide +kernel
theorem dX6_init_36 : decode cX6_init 36 = .ok (.aload_n 0, 1) := by decide +kernel
theorem dX6_init_37 : decode cX6_init 37 = .ok (.bipush 72, 2) := by decide +kernel
theorem dX6_init_39 : decode cX6_init 39 = .ok (.newarray .int, 2) := by decide +kernel
theorem dX6_init_41 : decode cX6_init 41 = .ok (.putfield 16, 3) := by decide +kernel
theorem dX6_init_44 : decode cX6_init 44 = .ok (.aload_n 0, 1) := by decide +kernel
theorem dX6_init_45 : decode cX6_init 45 = .ok (.sipush 160, 3) := by decide +kernel
theorem dX6_init_48 : decode cX6_init 48 = .ok (.newarray .int, 2) := by decide +kernel
theorem dX6_init_50 : decode cX6_init 50 = .ok (.putfield 19, 3) := by decide +kernel
theorem dX6_init_53 : decode cX6_init 53 = .ok (.aload_n 0, 1) := by decide +kernel
theorem dX6_init_54 : decode cX6_init 54 = .ok (.bipush 9, 2) := by decide +kernel
theorem dX6_init_56 : decode cX6_init 56 = .ok (.newarray .int, 2) := by decide +kernel
theorem dX6_init_58 : decode cX6_init 58 = .ok (.dup, 1) := by decide +kernel
theorem dX6_init_59 : decode cX6_init 59 = .ok (.iconst 0, 1) := by decide +kernel
theorem dX6_init_60 : decode cX6_init 60 = .ok (.iconst 0, 1) := by decide +kernel
theorem dX6_init_61 : decode cX6_init 61 = .ok (.iastore, 1) := by decide +kernel
theorem dX6_init_62 : decode cX6_init 62 = .ok (.dup, 1) := by decide +kernel
theorem dX6_init_63 : decode cX6_init 63 = .ok (.iconst 1, 1) := by decide +kernel
theorem dX6_init_64 : decode cX6_init 64 = .ok (.iconst 3, 1) := by decide +kernel
theorem dX6_init_65 : decode cX6_init 65 = .ok (.iastore, 1) := by decide +kernel
theorem dX6_init_66 : decode cX6_init 66 = .ok (.dup, 1) := by decide +kernel
theorem dX6_init_67 : decode cX6_init 67 = .ok (.iconst 2, 1) := by decide +kernel
theorem dX6_init_68 : decode cX6_init 68 = .ok (.bipush 9, 2) := by decide +kernel
theorem dX6_init_70 : decode cX6_init 70 = .ok (.iastore, 1) := by decide +kernel
theorem dX6_init_71 : decode cX6_init 71 = .ok (.dup, 1) := by decide +kernel
theorem dX6_init_72 : decode cX6_init 72 = .ok (.iconst 3, 1) := by decide +kernel
theorem dX6_init_73 : decode cX6_init 73 = .ok (.bipush 14, 2) := by decide +kernel
theorem dX6_init_75 : decode cX6_init 75 = .ok (.iastore, 1) := by decide +kernel
theorem dX6_init_76 : decode cX6_init 76 = .ok (.dup, 1) := by decide +kernel
theorem dX6_init_77 : decode cX6_init 77 = .ok (.iconst 4, 1) := by decide +kernel
theorem dX6_init_78 : decode cX6_init 78 = .ok (.bipush 18, 2) := by decide +kernel
theorem dX6_init_80 : decode cX6_init 80 = .ok (.iastore, 1) := by decide +kernel
theorem dX6_init_81 : decode cX6_init 81 = .ok (.dup, 1) := by decide +kernel
theorem dX6_init_82 : decode cX6_init 82 = .ok (.iconst 5, 1) := by decide +kernel
theorem dX6_init_83 : decode cX6_init 83 = .ok (.bipush 22, 2) := by decide +kernel
theorem dX6_init_85 : decode cX6_init 85 = .ok (.iastore, 1) := by decide +kernel
theorem dX6_init_86 : decode cX6_init 86 = .ok (.dup, 1) := by decide +kernel
theorem dX6_init_87 : decode cX6_init 87 = .ok (.bipush 6, 2) := by decide +kernel
theorem dX6_init_89 : decode cX6_init 89 = .ok (.bipush 29, 2) := by decide +kernel
theorem dX6_init_91 : decode cX6_init 91 = .ok (.iastore, 1) := by decide +kernel
theorem dX6_init_92 : decode cX6_init 92 = .ok (.dup, 1) := by decide +kernel
theorem dX6_init_93 : decode cX6_init 93 = .ok (.bipush 7, 2) := by decide +kernel
theorem dX6_init_95 : decode cX6_init 95 = .ok (.bipush 33, 2) := by decide +kernel
theorem dX6_init_97 : decode cX6_init 97 = .ok (.iastore, 1) := by decide +kernel
theorem dX6_init_98 : decode cX6_init 98 = .ok (.dup, 1) := by decide +kernel
theorem dX6_init_99 : decode cX6_init 99 = .ok (.bipush 8, 2) := by decide +kernel
theorem dX6_init_101 : decode cX6_init 101 = .ok (.bipush 38, 2) := by decide +kernel
theorem dX6_init_103 : decode cX6_init 103 = .ok (.iastore, 1) := by decide +kernel
theorem dX6_init_104 : decode cX6_init 104 = .ok (.putfield 22, 3) := by decide +kernel
theorem dX6_init_107 : decode cX6_init 107 = .ok (.aload_n 0, 1) := by decide +kernel
theorem dX6_init_108 : decode cX6_init 108 = .ok (.bipush 38, 2) := by decide +kernel
theorem dX6_init_110 : decode cX6_init 110 = .ok (.newarray .int, 2) := by decide +kernel
theorem dX6_init_112 : decode cX6_init 112 = .ok (.dup, 1) := by decide +kernel
theorem dX6_init_113 : decode cX6_init 113 = .ok (.iconst 0, 1) := by decide +kernel
theorem dX6_init_114 : decode cX6_init 114 = .ok (.bipush 116, 2) := by decide +kernel
theorem dX6_init_116 : decode cX6_init 116 = .ok (.iastore, 1) := by decide +kernel
theorem dX6_init_117 : decode cX6_init 117 = .ok (.dup, 1) := by decide +kernel
theorem dX6_init_118 : decode cX6_init 118 = .ok (.iconst 1, 1) := by decide +kernel
theorem dX6_init_119 : decode cX6_init 119 = .ok (.bipush 117, 2) := by decide +kernel
theorem dX6_init_121 : decode cX6_init 121 = .ok (.iastore, 1) := by decide +kernel
theorem dX6_init_122 : decode cX6_init 122 = .ok (.dup, 1) := by decide +kernel
theorem dX6_init_123 : decode cX6_init 123 = .ok (.iconst 2, 1) := by decide +kernel
theorem dX6_init_124 : decode cX6_init 124 = .ok (.bipush 98, 2) := by decide +kernel
theorem dX6_init_126 : decode cX6_init 126 = .ok (.iastore, 1) := by decide +kernel
theorem dX6_init_127 : decode cX6_init 127 = .ok (.dup, 1) := by decide +kernel
theorem dX6_init_128 : decode cX6_init 128 = .ok (.iconst 3, 1) := by decide +kernel
theorem dX6_init_129 : decode cX6_init 129 = .ok (.bipush 98, 2) := by decide +kernel
theorem dX6_init_131 : decode cX6_init 131 = .ok (.iastore, 1) := by decide +kernel
theorem dX6_init_132 : decode cX6_init 132 = .ok (.dup, 1) := by decide +kernel
theorem dX6_init_133 : decode cX6_init 133 = .ok (.iconst 4, 1) := by decide +kernel
theorem dX6_init_134 : decode cX6_init 134 = .ok (.bipush 111, 2) := by decide +kernel
theorem dX6_init_136 : decode cX6_init 136 = .ok (.iastore, 1) := by decide +kernel
theorem dX6_init_137 : decode cX6_init 137 = .ok (.dup, 1) := by decide +kernel
theorem dX6_init_138 : decode cX6_init 138 = .ok (.iconst 5, 1) := by decide +kernel
theorem dX6_init_139 : decode cX6_init 139 = .ok (.bipush 116, 2) := by decide +kernel
theorem dX6_init_141 : decode cX6_init 141 = .ok (.iastore, 1) := by decide +kernel
theorem dX6_init_142 : decode cX6_init 142 = .ok (.dup, 1) := by decide +kernel
theorem dX6_init_143 : decode cX6_init 143 = .ok (.bipush 6, 2) := by decide +kernel
theorem dX6_init_145 : decode cX6_init 145 = .ok (.bipush 116, 2) := by decide +kernel
theorem dX6_init_147 : decode cX6_init 147 = .ok (.iastore, 1) := by decide +kernel
theorem dX6_init_148 : decode cX6_init 148 = .ok (.dup, 1) := by decide +kernel
theorem dX6_init_149 : decode cX6_init 149 = .ok (.bipush 7, 2) := by decide +kernel
theorem dX6_init_151 : decode cX6_init 151 = .ok (.bipush 108, 2) := by decide +kernel
theorem dX6_init_153 : decode cX6_init 153 = .ok (.iastore, 1) := by decide +kernel
theorem dX6_init_154 : decode cX6_init 154 = .ok (.dup, 1) := by decide +kernel
theorem dX6_init_155 : decode cX6_init 155 = .ok (.bipush 8, 2) := by decide +kernel
theorem dX6_init_157 : decode cX6_init 157 = .ok (.bipush 101, 2) := by decide +kernel
theorem dX6_init_159 : decode cX6_init 159 = .ok (.iastore, 1) := by decide +kernel
theorem dX6_init_160 : decode cX6_init 160 = .ok (.dup, 1) := by decide +kernel
theorem dX6_init_161 : decode cX6_init 161 = .ok (.bipush 9, 2) := by decide +kernel
theorem dX6_init_163 : decode cX6_init 163 = .ok (.bipush 112, 2) := by decide +kernel
theorem dX6_init_165 : decode cX6_init 165 = .ok (.iastore, 1) := by decide +kernel
theorem dX6_init_166 : decode cX6_init 166 = .ok (.dup, 1) := by decide +kernel
theorem dX6_init_167 : decode cX6_init 167 = .ok (.bipush 10, 2) := by decide +kernel
theorem dX6_init_169 : decode cX6_init 169 = .ok (.bipush 105, 2) := by decide +kernel
theorem dX6_init_171 : decode cX6_init 171 = .ok (.iastore, 1) := by decide +kernel
theorem dX6_init_172 : decode cX6_init 172 = .ok (.dup, 1) := by decide +kernel
theorem dX6_init_173 : decode cX6_init 173 = .ok (.bipush 11, 2) := by decide +kernel
theorem dX6_init_175 : decode cX6_init 175 = .ok (.bipush 97, 2) := by decide +kernel
theorem dX6_init_177 : decode cX6_init 177 = .ok (.iastore, 1) := by decide +kernel
theorem dX6_init_178 : decode cX6_init 178 = .ok (.dup, 1) := by decide +kernel
theorem dX6_init_179 : decode cX6_init 179 = .ok (.bipush 12, 2) := by decide +kernel
theorem dX6_init_181 : decode cX6_init 181 = .ok (.bipush 110, 2) := by decide +kernel
theorem dX6_init_183 : decode cX6_init 183 = .ok (.iastore, 1) := by decide +kernel
theorem dX6_init_184 : decode cX6_init 184 = .ok (.dup, 1) := by decide +kernel
theorem dX6_init_185 : decode cX6_init 185 = .ok (.bipush 13, 2) := by decide +kernel
theorem dX6_init_187 : decode cX6_init 187 = .ok (.bipush 111, 2) := by decide +kernel
theorem dX6_init_189 : decode cX6_init 189 = .ok (.iastore, 1) := by decide +kernel
theorem dX6_init_190 : decode cX6_init 190 = .ok (.dup, 1) := by decide +kernel
theorem dX6_init_191 : decode cX6_init 191 = .ok (.bipush 14, 2) := by decide +kernel
theorem dX6_init_193 : decode cX6_init 193 = .ok (.bipush 99, 2) := by decide +kernel
theorem dX6_init_195 : decode cX6_init 195 = .ok (.iastore, 1) := by decide +kernel
theorem dX6_init_196 : decode cX6_init 196 = .ok (.dup, 1) := by decide +kernel
theorem dX6_init_197 : decode cX6_init 197 = .ok (.bipush 15, 2) := by decide +kernel
theorem dX6_init_199 : decode cX6_init 199 = .ok (.bipush 111, 2) := by decide +kernel
theorem dX6_init_201 : decode cX6_init 201 = .ok (.iastore, 1) := by decide +kernel
theorem dX6_init_202 : decode cX6_init 202 = .ok (.dup, 1) := by decide +kernel
theorem dX6_init_203 : decode cX6_init 203 = .ok (.bipush 16, 2) := by decide +kernel
theorem dX6_init_205 : decode cX6_init 205 = .ok (.bipush 111, 2) := by decide +kernel
theorem dX6_init_207 : decode cX6_init 207 = .ok (.iastore, 1) := by decide +kernel
theorem dX6_init_208 : decode cX6_init 208 = .ok (.dup, 1) := by decide +kernel
theorem dX6_init_209 : decode cX6_init 209 = .ok (.bipush 17, 2) := by decide +kernel
theorem dX6_init_211 : decode cX6_init 211 = .ok (.bipush 112, 2) := by decide +kernel
theorem dX6_init_213 : decode cX6_init 213 = .ok (.iastore, 1) := by decide +kernel
theorem dX6_init_214 : decode cX6_init 214 = .ok (.dup, 1) := by decide +kernel
theorem dX6_init_215 : decode cX6_init 215 = .ok (.bipush 18, 2) := by decide +kernel
theorem dX6_init_217 : decode cX6_init 217 = .ok (.bipush 104, 2) := by decide +kernel
theorem dX6_init_219 : decode cX6_init 219 = .ok (.iastore, 1) := by decide +kernel
theorem dX6_init_220 : decode cX6_init 220 = .ok (.dup, 1) := by decide +kernel
theorem dX6_init_221 : decode cX6_init 221 = .ok (.bipush 19, 2) := by decide +kernel
theorem dX6_init_223 : decode cX6_init 223 = .ok (.bipush 101, 2) := by decide +kernel
theorem dX6_init_225 : decode cX6_init 225 = .ok (.iastore, 1) := by decide +kernel
theorem dX6_init_226 : decode cX6_init 226 = .ok (.dup, 1) := by decide +kernel
theorem dX6_init_227 : decode cX6_init 227 = .ok (.bipush 20, 2) := by decide +kernel
theorem dX6_init_229 : decode cX6_init 229 = .ok (.bipush 105, 2) := by decide +kernel
theorem dX6_init_231 : decode cX6_init 231 = .ok (.iastore, 1) := by decide +kernel
theorem dX6_init_232 : decode cX6_init 232 = .ok (.dup, 1) := by decide +kernel
theorem dX6_init_233 : decode cX6_init 233 = .ok (.bipush 21, 2) := by decide +kernel
theorem dX6_init_235 : decode cX6_init 235 = .ok (.bipush 114, 2) := by decide +kernel
theorem dX6_init_237 : decode cX6_init 237 = .ok (.iastore, 1) := by decide +kernel
theorem dX6_init_238 : decode cX6_init 238 = .ok (.dup, 1) := by decide +kernel
theorem dX6_init_239 : decode cX6_init 239 = .ok (.bipush 22, 2) := by decide +kernel
theorem dX6_init_241 : decode cX6_init 241 = .ok (.bipush 99, 2) := by decide +kernel
theorem dX6_init_243 : decode cX6_init 243 = .ok (.iastore, 1) := by decide +kernel
theorem dX6_init_244 : decode cX6_init 244 = .ok (.dup, 1) := by decide +kernel
theorem dX6_init_245 : decode cX6_init 245 = .ok (.bipush 23, 2) := by decide +kernel
theorem dX6_init_247 : decode cX6_init 247 = .ok (.bipush 117, 2) := by decide +kernel
theorem dX6_init_249 : decode cX6_init 249 = .ok (.iastore, 1) := by decide +kernel
theorem dX6_init_250 : decode cX6_init 250 = .ok (.dup, 1) := by decide +kernel
theorem dX6_init_251 : decode cX6_init 251 = .ok (.bipush 24, 2) := by decide +kernel
theorem dX6_init_253 : decode cX6_init 253 = .ok (.bipush 114, 2) := by decide +kernel
theorem dX6_init_255 : decode cX6_init 255 = .ok (.iastore, 1) := by decide +kernel
theorem dX6_init_256 : decode cX6_init 256 = .ok (.dup, 1) := by decide +kernel
theorem dX6_init_257 : decode cX6_init 257 = .ok (.bipush 25, 2) := by decide +kernel
theorem dX6_init_259 : decode cX6_init 259 = .ok (.bipush 114, 2) := by decide +kernel
theorem dX6_init_261 : decode cX6_init 261 = .ok (.iastore, 1) := by decide +kernel
theorem dX6_init_262 : decode cX6_init 262 = .ok (.dup, 1) := by decide +kernel
theorem dX6_init_263 : decode cX6_init 263 = .ok (.bipush 26, 2) := by decide +kernel
theorem dX6_init_265 : decode cX6_init 265 = .ok (.bipush 101, 2) := by decide +kernel
theorem dX6_init_267 : decode cX6_init 267 = .ok (.iastore, 1) := by decide +kernel
theorem dX6_init_268 : decode cX6_init 268 = .ok (.dup, 1) := by decide +kernel
theorem dX6_init_269 : decode cX6_init 269 = .ok (.bipush 27, 2) := by decide +kernel
theorem dX6_init_271 : decode cX6_init 271 = .ok (.bipush 110, 2) := by decide +kernel
theorem dX6_init_273 : decode cX6_init 273 = .ok (.iastore, 1) := by decide +kernel
theorem dX6_init_274 : decode cX6_init 274 = .ok (.dup, 1) := by decide +kernel
theorem dX6_init_275 : decode cX6_init 275 = .ok (.bipush 28, 2) := by decide +kernel
theorem dX6_init_277 : decode cX6_init 277 = .ok (.bipush 116, 2) := by decide +kernel
theorem dX6_init_279 : decode cX6_init 279 = .ok (.iastore, 1) := by decide +kernel
theorem dX6_init_280 : decode cX6_init 280 = .ok (.dup, 1) := by decide +kernel
theorem dX6_init_281 : decode cX6_init 281 = .ok (.bipush 29, 2) := by decide +kernel
theorem dX6_init_283 : decode cX6_init 283 = .ok (.bipush 119, 2) := by decide +kernel
theorem dX6_init_285 : decode cX6_init 285 = .ok (.iastore, 1) := by decide +kernel
theorem dX6_init_286 : decode cX6_init 286 = .ok (.dup, 1) := by decide +kernel
theorem dX6_init_287 : decode cX6_init 287 = .ok (.bipush 30, 2) := by decide +kernel
theorem dX6_init_289 : decode cX6_init 289 = .ok (.bipush 105, 2) := by decide +kernel
theorem dX6_init_291 : decode cX6_init 291 = .ok (.iastore, 1) := by decide +kernel
theorem dX6_init_292 : decode cX6_init 292 = .ok (.dup, 1) := by decide +kernel
theorem dX6_init_293 : decode cX6_init 293 = .ok (.bipush 31, 2) := by decide +kernel
theorem dX6_init_295 : decode cX6_init 295 = .ok (.bipush 110, 2) := by decide +kernel
theorem dX6_init_297 : decode cX6_init 297 = .ok (.iastore, 1) := by decide +kernel
theorem dX6_init_298 : decode cX6_init 298 = .ok (.dup, 1) := by decide +kernel
theorem dX6_init_299 : decode cX6_init 299 = .ok (.bipush 32, 2) := by decide +kernel
theorem dX6_init_301 : decode cX6_init 301 = .ok (.bipush 100, 2) := by decide +kernel
theorem dX6_init_303 : decode cX6_init 303 = .ok (.iastore, 1) := by decide +kernel
theorem dX6_init_304 : decode cX6_init 304 = .ok (.dup, 1) := by decide +kernel
theorem dX6_init_305 : decode cX6_init 305 = .ok (.bipush 33, 2) := by decide +kernel
theorem dX6_init_307 : decode cX6_init 307 = .ok (.bipush 112, 2) := by decide +kernel
theorem dX6_init_309 : decode cX6_init 309 = .ok (.iastore, 1) := by decide +kernel
theorem dX6_init_310 : decode cX6_init 310 = .ok (.dup, 1) := by decide +kernel
theorem dX6_init_311 : decode cX6_init 311 = .ok (.bipush 34, 2) := by decide +kernel
theorem dX6_init_313 : decode cX6_init 313 = .ok (.bipush 104, 2) := by decide +kernel
theorem dX6_init_315 : decode cX6_init 315 = .ok (.iastore, 1) := by decide +kernel
theorem dX6_init_316 : decode cX6_init 316 = .ok (.dup, 1) := by decide +kernel
theorem dX6_init_317 : decode cX6_init 317 = .ok (.bipush 35, 2) := by decide +kernel
theorem dX6_init_319 : decode cX6_init 319 = .ok (.bipush 97, 2) := by decide +kernel
theorem dX6_init_321 : decode cX6_init 321 = .ok (.iastore, 1) := by decide +kernel
theorem dX6_init_322 : decode cX6_init 322 = .ok (.dup, 1) := by decide +kernel
theorem dX6_init_323 : decode cX6_init 323 = .ok (.bipush 36, 2) := by decide +kernel
theorem dX6_init_325 : decode cX6_init 325 = .ok (.bipush 115, 2) := by decide +kernel
theorem dX6_init_327 : decode cX6_init 327 = .ok (.iastore, 1) := by decide +kernel
theorem dX6_init_328 : decode cX6_init 328 = .ok (.dup, 1) := by decide +kernel
theorem dX6_init_329 : decode cX6_init 329 = .ok (.bipush 37, 2) := by decide +kernel
theorem dX6_init_331 : decode cX6_init 331 = .ok (.bipush 101, 2) := by decide +kernel
theorem dX6_init_333 : decode cX6_init 333 = .ok (.iastore, 1) := by decide +kernel
theorem dX6_init_334 : decode cX6_init 334 = .ok (.putfield 25, 3) := by decide +kernel
theorem dX6_init_337 : decode cX6_init 337 = .ok (.aload_n 0, 1) := by decide +kernel
theorem dX6_init_338 : decode cX6_init 338 = .ok (.iconst 4, 1) := by decide +kernel
theorem dX6_init_339 : decode cX6_init 339 = .ok (.newarray .int, 2) := by decide +kernel
theorem dX6_init_341 : decode cX6_init 341 = .ok (.putfield 28, 3) := by decide +kernel
theorem dX6_init_344 : decode cX6_init 344 = .ok (.aload_n 0, 1) := by decide +kernel
theorem dX6_init_345 : decode cX6_init 345 = .ok (.iconst 4, 1) := by decide +kernel
theorem dX6_init_346 : decode cX6_init 346 = .ok (.newarray .int, 2) := by decide +kernel
theorem dX6_init_348 : decode cX6_init 348 = .ok (.putfield 31, 3) := by decide +kernel
theorem dX6_init_351 : decode cX6_init 351 = .ok (.aload_n 0, 1) := by decide +kernel
theorem dX6_init_352 : decode cX6_init 352 = .ok (.iconst 4, 1) := by decide +kernel
theorem dX6_init_353 : decode cX6_init 353 = .ok (.newarray .int, 2) := by decide +kernel
theorem dX6_init_355 : decode cX6_init 355 = .ok (.putfield 34, 3) := by decide +kernel
theorem dX6_init_358 : decode cX6_init 358 = .ok (.aload_n 0, 1) := by decide +kernel
theorem dX6_init_359 : decode cX6_init 359 = .ok (.iconst 4, 1) := by decide +kernel
theorem dX6_init_360 : decode cX6_init 360 = .ok (.newarray .int, 2) := by decide +kernel
theorem dX6_init_362 : decode cX6_init 362 = .ok (.putfield 37, 3) := by decide +kernel
theorem dX6_init_365 : decode cX6_init 365 = .ok (.aload_n 0, 1) := by decide +kernel
theorem dX6_init_366 : decode cX6_init 366 = .ok (.iconst 4, 1) := by decide +kernel
theorem dX6_init_367 : decode cX6_init 367 = .ok (.newarray .int, 2) := by decide +kernel
theorem dX6_init_369 : decode cX6_init 369 = .ok (.putfield 40, 3) := by decide +kernel
theorem dX6_init_372 : decode cX6_init 372 = .ok (.aload_n 0, 1) := by decide +kernel
theorem dX6_init_373 : decode cX6_init 373 = .ok (.iconst 4, 1) := by decide +kernel
theorem dX6_init_374 : decode cX6_init 374 = .ok (.newarray .int, 2) := by decide +kernel
theorem dX6_init_376 : decode cX6_init 376 = .ok (.putfield 43, 3) := by decide +kernel
theorem dX6_init_379 : decode cX6_init 379 = .ok (.aload_n 0, 1) := by decide +kernel
theorem dX6_init_380 : decode cX6_init 380 = .ok (.bipush 100, 2) := by decide +kernel
theorem dX6_init_382 : decode cX6_init 382 = .ok (.newarray .int, 2) := by decide +kernel
theorem dX6_init_384 : decode cX6_init 384 = .ok (.putfield 46, 3) := by decide +kernel
theorem dX6_init_387 : decode cX6_init 387 = .ok (.aload_n 0, 1) := by decide +kernel
theorem dX6_init_388 : decode cX6_init 388 = .ok (.bipush 100, 2) := by decide +kernel
theorem dX6_init_390 : decode cX6_init 390 = .ok (.newarray .int, 2) := by decide +kernel
theorem dX6_init_392 : decode cX6_init 392 = .ok (.putfield 49, 3) := by decide +kernel
theorem dX6_init_395 : decode cX6_init 395 = .ok (.aload_n 0, 1) := by decide +kernel
theorem dX6_init_396 : decode cX6_init 396 = .ok (.bipush 18, 2) := by decide +kernel
theorem dX6_init_398 : decode cX6_init 398 = .ok (.newarray .int, 2) := by decide +kernel
theorem dX6_init_400 : decode cX6_init 400 = .ok (.putfield 52, 3) := by decide +kernel
theorem dX6_init_403 : decode cX6_init 403 = .ok (.aload_n 0, 1) := by decide +kernel
theorem dX6_init_404 : decode cX6_init 404 = .ok (.bipush 100, 2) := by decide +kernel
theorem dX6_init_406 : decode cX6_init 406 = .ok (.newarray .int, 2) := by decide +kernel
theorem dX6_init_408 : decode cX6_init 408 = .ok (.putfield 55, 3) := by decide +kernel
theorem dX6_init_411 : decode cX6_init 411 = .ok (.aload_n 0, 1) := by decide +kernel
theorem dX6_init_412 : decode cX6_init 412 = .ok (.iconst 2, 1) := by decide +kernel
theorem dX6_init_413 : decode cX6_init 413 = .ok (.newarray .boolean, 2) := by decide +kernel
theorem dX6_init_415 : decode cX6_init 415 = .ok (.putfield 58, 3) := by decide +kernel
theorem dX6_init_418 : decode cX6_init 418 = .ok (.aload_n 0, 1) := by decide +kernel
theorem dX6_init_419 : decode cX6_init 419 = .ok (.iconst 4, 1) := by decide +kernel
theorem dX6_init_420 : decode cX6_init 420 = .ok (.newarray .int, 2) := by decide +kernel
theorem dX6_init_422 : decode cX6_init 422 = .ok (.dup, 1) := by decide +kernel
theorem dX6_init_423 : decode cX6_init 423 = .ok (.iconst 0, 1) := by decide +kernel
theorem dX6_init_424 : decode cX6_init 424 = .ok (.bipush (-4), 2) := by decide +kernel
theorem dX6_init_426 : decode cX6_init 426 = .ok (.iastore, 1) := by decide +kernel
theorem dX6_init_427 : decode cX6_init 427 = .ok (.dup, 1) := by decide +kernel
theorem dX6_init_428 : decode cX6_init 428 = .ok (.iconst 1, 1) := by decide +kernel
theorem dX6_init_429 : decode cX6_init 429 = .ok (.bipush (-4), 2) := by decide +kernel
theorem dX6_init_431 : decode cX6_init 431 = .ok (.iastore, 1) := by decide +kernel
theorem dX6_init_432 : decode cX6_init 432 = .ok (.dup, 1) := by decide +kernel
theorem dX6_init_433 : decode cX6_init 433 = .ok (.iconst 2, 1) := by decide +kernel
theorem dX6_init_434 : decode cX6_init 434 = .ok (.bipush (-4), 2) := by decide +kernel
theorem dX6_init_436 : decode cX6_init 436 = .ok (.iastore, 1) := by decide +kernel
theorem dX6_init_437 : decode cX6_init 437 = .ok (.dup, 1) := by decide +kernel
theorem dX6_init_438 : decode cX6_init 438 = .ok (.iconst 3, 1) := by decide +kernel
theorem dX6_init_439 : decode cX6_init 439 = .ok (.bipush (-4), 2) := by decide +kernel
theorem dX6_init_441 : decode cX6_init 441 = .ok (.iastore, 1) := by decide +kernel
theorem dX6_init_442 : decode cX6_init 442 = .ok (.putfield 62, 3) := by decide +kernel
theorem dX6_init_445 : decode cX6_init 445 = .ok (.aload_n 0, 1) := by decide +kernel
theorem dX6_init_446 : decode cX6_init 446 = .ok (.iconst 4, 1) := by decide +kernel
theorem dX6_init_447 : decode cX6_init 447 = .ok (.newarray .int, 2) := by decide +kernel
theorem dX6_init_449 : decode cX6_init 449 = .ok (.putfield 65, 3) := by decide +kernel
theorem dX6_init_452 : decode cX6_init 452 = .ok (.aload_n 0, 1) := by decide +kernel
theorem dX6_init_453 : decode cX6_init 453 = .ok (.sipush 160, 3) := by decide +kernel
theorem dX6_init_456 : decode cX6_init 456 = .ok (.newarray .int, 2) := by decide +kernel
theorem dX6_init_458 : decode cX6_init 458 = .ok (.putfield 68, 3) := by decide +kernel
theorem dX6_init_461 : decode cX6_init 461 = .ok (.return_, 1) := by decide +kernel
theorem dX6_in_0 : decode cX6_in 0 = .ok (.lload_n 0, 1) := by decide +kernel
theorem dX6_in_1 : decode cX6_in 1 = .ok (.lload_n 2, 1) := by decide +kernel
theorem dX6_in_2 : decode cX6_in 2 = .ok (.lcmp, 1) := by decide +kernel
theorem dX6_in_3 : decode cX6_in 3 = .ok (.ifCond .lt 14, 3) := by decide +kernel
theorem dX6_in_6 : decode cX6_in 6 = .ok (.lload_n 0, 1) := by decide +kernel
theorem dX6_in_7 : decode cX6_in 7 = .ok (.lload 4, 2) := by decide +kernel
theorem dX6_in_9 : decode cX6_in 9 = .ok (.lcmp, 1) := by decide +kernel
theorem dX6_in_10 : decode cX6_in 10 = .ok (.ifCond .gt 7, 3) := by decide +kernel
theorem dX6_in_13 : decode cX6_in 13 = .ok (.iconst 1, 1) := by decide +kernel
theorem dX6_in_14 : decode cX6_in 14 = .ok (.goto 4, 3) := by decide +kernel
theorem dX6_in_17 : decode cX6_in 17 = .ok (.iconst 0, 1) := by decide +kernel
theorem dX6_in_18 : decode cX6_in 18 = .ok (.ireturn, 1) := by decide +kernel
theorem dX6_feed_0 : decode cX6_feed 0 = .ok (.iload_n 1, 1) := by decide +kernel
theorem dX6_feed_1 : decode cX6_feed 1 = .ok (.i2l, 1) := by decide +kernel
theorem dX6_feed_2 : decode cX6_feed 2 = .ok (.lconst 0, 1) := by decide +kernel
theorem dX6_feed_3 : decode cX6_feed 3 = .ok (.ldc2_w 71, 3) := by decide +kernel
theorem dX6_feed_6 : decode cX6_feed 6 = .ok (.invokestatic 73, 3) := by decide +kernel
theorem dX6_feed_9 : decode cX6_feed 9 = .ok (.ifCond .ne 5, 3) := by decide +kernel
theorem dX6_feed_12 : decode cX6_feed 12 = .ok (.iconst (-1), 1) := by decide +kernel
theorem dX6_feed_13 : decode cX6_feed 13 = .ok (.ireturn, 1) := by decide +kernel
theorem dX6_feed_14 : decode cX6_feed 14 = .ok (.aload_n 0, 1) := by decide +kernel
theorem dX6_feed_15 : decode cX6_feed 15 = .ok (.getfield 77, 3) := by decide +kernel
theorem dX6_feed_18 : decode cX6_feed 18 = .ok (.sipush 160, 3) := by decide +kernel
theorem dX6_feed_21 : decode cX6_feed 21 = .ok (.if_icmp .ne 6, 3) := by decide +kernel
theorem dX6_feed_24 : decode cX6_feed 24 = .ok (.bipush (-3), 2) := by decide +kernel
theorem dX6_feed_26 : decode cX6_feed 26 = .ok (.ireturn, 1) := by decide +kernel
theorem dX6_feed_27 : decode cX6_feed 27 = .ok (.aload_n 0, 1) := by decide +kernel
theorem dX6_feed_28 : decode cX6_feed 28 = .ok (.getfield 19, 3) := by decide +kernel
theorem dX6_feed_31 : decode cX6_feed 31 = .ok (.aload_n 0, 1) := by decide +kernel
theorem dX6_feed_32 : decode cX6_feed 32 = .ok (.getfield 77, 3) := by decide +kernel
theorem dX6_feed_35 : decode cX6_feed 35 = .ok (.iload_n 1, 1) := by decide +kernel
theorem dX6_feed_36 : decode cX6_feed 36 = .ok (.iastore, 1) := by decide +kernel
theorem dX6_feed_37 : decode cX6_feed 37 = .ok (.aload_n 0, 1) := by decide +kernel
theorem dX6_feed_38 : decode cX6_feed 38 = .ok (.dup, 1) := by decide +kernel
theorem dX6_feed_39 : decode cX6_feed 39 = .ok (.getfield 77, 3) := by decide +kernel
theorem dX6_feed_42 : decode cX6_feed 42 = .ok (.iconst 1, 1) := by decide +kernel
theorem dX6_feed_43 : decode cX6_feed 43 = .ok (.iadd, 1) := by decide +kernel
theorem dX6_feed_44 : decode cX6_feed 44 = .ok (.putfield 77, 3) := by decide +kernel
theorem dX6_feed_47 : decode cX6_feed 47 = .ok (.aload_n 0, 1) := by decide +kernel
theorem dX6_feed_48 : decode cX6_feed 48 = .ok (.getfield 77, 3) := by decide +kernel
theorem dX6_feed_51 : decode cX6_feed 51 = .ok (.ireturn, 1) := by decide +kernel
theorem dX6_end_0 : decode cX6_end 0 = .ok (.iload_n 1, 1) := by decide +kernel
theorem dX6_end_1 : decode cX6_end 1 = .ok (.i2l, 1) := by decide +kernel
theorem dX6_end_2 : decode cX6_end 2 = .ok (.lconst 0, 1) := by decide +kernel
theorem dX6_end_3 : decode cX6_end 3 = .ok (.aload_n 0, 1) := by decide +kernel
theorem dX6_end_4 : decode cX6_end 4 = .ok (.getfield 77, 3) := by decide +kernel
theorem dX6_end_7 : decode cX6_end 7 = .ok (.i2l, 1) := by decide +kernel
theorem dX6_end_8 : decode cX6_end 8 = .ok (.invokestatic 73, 3) := by decide +kernel
theorem dX6_end_11 : decode cX6_end 11 = .ok (.ifCond .ne 5, 3) := by decide +kernel
theorem dX6_end_14 : decode cX6_end 14 = .ok (.iconst (-1), 1) := by decide +kernel
theorem dX6_end_15 : decode cX6_end 15 = .ok (.ireturn, 1) := by decide +kernel
theorem dX6_end_16 : decode cX6_end 16 = .ok (.aload_n 0, 1) := by decide +kernel
theorem dX6_end_17 : decode cX6_end 17 = .ok (.getfield 77, 3) := by decide +kernel
theorem dX6_end_20 : decode cX6_end 20 = .ok (.istore_n 2, 1) := by decide +kernel
theorem dX6_end_21 : decode cX6_end 21 = .ok (.aload_n 0, 1) := by decide +kernel
theorem dX6_end_22 : decode cX6_end 22 = .ok (.iload_n 1, 1) := by decide +kernel
theorem dX6_end_23 : decode cX6_end 23 = .ok (.putfield 77, 3) := by decide +kernel
theorem dX6_end_26 : decode cX6_end 26 = .ok (.iload_n 2, 1) := by decide +kernel
theorem dX6_end_27 : decode cX6_end 27 = .ok (.ireturn, 1) := by decide +kernel
theorem dX6_byteAt_0 : decode cX6_byteAt 0 = .ok (.iload_n 1, 1) := by decide +kernel
theorem dX6_byteAt_1 : decode cX6_byteAt 1 = .ok (.aload_n 0, 1) := by decide +kernel
theorem dX6_byteAt_2 : decode cX6_byteAt 2 = .ok (.getfield 77, 3) := by decide +kernel
theorem dX6_byteAt_5 : decode cX6_byteAt 5 = .ok (.if_icmp .ge 12, 3) := by decide +kernel
theorem dX6_byteAt_8 : decode cX6_byteAt 8 = .ok (.aload_n 0, 1) := by decide +kernel
theorem dX6_byteAt_9 : decode cX6_byteAt 9 = .ok (.getfield 19, 3) := by decide +kernel
theorem dX6_byteAt_12 : decode cX6_byteAt 12 = .ok (.iload_n 1, 1) := by decide +kernel
theorem dX6_byteAt_13 : decode cX6_byteAt 13 = .ok (.iaload, 1) := by decide +kernel
theorem dX6_byteAt_14 : decode cX6_byteAt 14 = .ok (.goto 5, 3) := by decide +kernel
theorem dX6_byteAt_17 : decode cX6_byteAt 17 = .ok (.bipush (-4), 2) := by decide +kernel
theorem dX6_byteAt_19 : decode cX6_byteAt 19 = .ok (.ireturn, 1) := by decide +kernel
theorem dX6_fails_0 : decode cX6_fails 0 = .ok (.aload_n 0, 1) := by decide +kernel
theorem dX6_fails_1 : decode cX6_fails 1 = .ok (.getfield 81, 3) := by decide +kernel
theorem dX6_fails_4 : decode cX6_fails 4 = .ok (.ifCond .ne 16, 3) := by decide +kernel
theorem dX6_fails_7 : decode cX6_fails 7 = .ok (.aload_n 0, 1) := by decide +kernel
theorem dX6_fails_8 : decode cX6_fails 8 = .ok (.iload_n 1, 1) := by decide +kernel
theorem dX6_fails_9 : decode cX6_fails 9 = .ok (.putfield 81, 3) := by decide +kernel
theorem dX6_fails_12 : decode cX6_fails 12 = .ok (.aload_n 0, 1) := by decide +kernel
theorem dX6_fails_13 : decode cX6_fails 13 = .ok (.aload_n 0, 1) := by decide +kernel
theorem dX6_fails_14 : decode cX6_fails 14 = .ok (.getfield 84, 3) := by decide +kernel
theorem dX6_fails_17 : decode cX6_fails 17 = .ok (.putfield 87, 3) := by decide +kernel
theorem dX6_fails_20 : decode cX6_fails 20 = .ok (.return_, 1) := by decide +kernel
theorem dX6_nameHere_0 : decode cX6_nameHere 0 = .ok (.iconst 0, 1) := by decide +kernel
theorem dX6_nameHere_1 : decode cX6_nameHere 1 = .ok (.istore_n 1, 1) := by decide +kernel
theorem dX6_nameHere_2 : decode cX6_nameHere 2 = .ok (.iload_n 1, 1) := by decide +kernel
theorem dX6_nameHere_3 : decode cX6_nameHere 3 = .ok (.bipush 8, 2) := by decide +kernel
theorem dX6_nameHere_5 : decode cX6_nameHere 5 = .ok (.if_icmp .ge 113, 3) := by decide +kernel
theorem dX6_nameHere_8 : decode cX6_nameHere 8 = .ok (.aload_n 0, 1) := by decide +kernel
theorem dX6_nameHere_9 : decode cX6_nameHere 9 = .ok (.getfield 90, 3) := by decide +kernel
theorem dX6_nameHere_12 : decode cX6_nameHere 12 = .ok (.iconst 1, 1) := by decide +kernel
theorem dX6_nameHere_13 : decode cX6_nameHere 13 = .ok (.if_icmp .ne 105, 3) := by decide +kernel
theorem dX6_nameHere_16 : decode cX6_nameHere 16 = .ok (.aload_n 0, 1) := by decide +kernel
theorem dX6_nameHere_17 : decode cX6_nameHere 17 = .ok (.getfield 93, 3) := by decide +kernel
theorem dX6_nameHere_20 : decode cX6_nameHere 20 = .ok (.aload_n 0, 1) := by decide +kernel
theorem dX6_nameHere_21 : decode cX6_nameHere 21 = .ok (.getfield 84, 3) := by decide +kernel
theorem dX6_nameHere_24 : decode cX6_nameHere 24 = .ok (.isub, 1) := by decide +kernel
theorem dX6_nameHere_25 : decode cX6_nameHere 25 = .ok (.aload_n 0, 1) := by decide +kernel
theorem dX6_nameHere_26 : decode cX6_nameHere 26 = .ok (.getfield 22, 3) := by decide +kernel
theorem dX6_nameHere_29 : decode cX6_nameHere 29 = .ok (.iload_n 1, 1) := by decide +kernel
theorem dX6_nameHere_30 : decode cX6_nameHere 30 = .ok (.iconst 1, 1) := by decide +kernel
theorem dX6_nameHere_31 : decode cX6_nameHere 31 = .ok (.iadd, 1) := by decide +kernel
theorem dX6_nameHere_32 : decode cX6_nameHere 32 = .ok (.iaload, 1) := by decide +kernel
theorem dX6_nameHere_33 : decode cX6_nameHere 33 = .ok (.aload_n 0, 1) := by decide +kernel
theorem dX6_nameHere_34 : decode cX6_nameHere 34 = .ok (.getfield 22, 3) := by decide +kernel
theorem dX6_nameHere_37 : decode cX6_nameHere 37 = .ok (.iload_n 1, 1) := by decide +kernel
theorem dX6_nameHere_38 : decode cX6_nameHere 38 = .ok (.iaload, 1) := by decide +kernel
theorem dX6_nameHere_39 : decode cX6_nameHere 39 = .ok (.isub, 1) := by decide +kernel
theorem dX6_nameHere_40 : decode cX6_nameHere 40 = .ok (.if_icmp .ne 7, 3) := by decide +kernel
theorem dX6_nameHere_43 : decode cX6_nameHere 43 = .ok (.iconst 1, 1) := by decide +kernel
theorem dX6_nameHere_44 : decode cX6_nameHere 44 = .ok (.goto 4, 3) := by decide +kernel
theorem dX6_nameHere_47 : decode cX6_nameHere 47 = .ok (.iconst 0, 1) := by decide +kernel
theorem dX6_nameHere_48 : decode cX6_nameHere 48 = .ok (.istore_n 2, 1) := by decide +kernel
theorem dX6_nameHere_49 : decode cX6_nameHere 49 = .ok (.iconst 0, 1) := by decide +kernel
theorem dX6_nameHere_50 : decode cX6_nameHere 50 = .ok (.istore_n 3, 1) := by decide +kernel
theorem dX6_nameHere_51 : decode cX6_nameHere 51 = .ok (.iload_n 2, 1) := by decide +kernel
theorem dX6_nameHere_52 : decode cX6_nameHere 52 = .ok (.ifCond .eq 54, 3) := by decide +kernel
theorem dX6_nameHere_55 : decode cX6_nameHere 55 = .ok (.iload_n 3, 1) := by decide +kernel
theorem dX6_nameHere_56 : decode cX6_nameHere 56 = .ok (.aload_n 0, 1) := by decide +kernel
theorem dX6_nameHere_57 : decode cX6_nameHere 57 = .ok (.getfield 93, 3) := by decide +kernel
theorem dX6_nameHere_60 : decode cX6_nameHere 60 = .ok (.aload_n 0, 1) := by decide +kernel
theorem dX6_nameHere_61 : decode cX6_nameHere 61 = .ok (.getfield 84, 3) := by decide +kernel
theorem dX6_nameHere_64 : decode cX6_nameHere 64 = .ok (.isub, 1) := by decide +kernel
theorem dX6_nameHere_65 : decode cX6_nameHere 65 = .ok (.if_icmp .ge 41, 3) := by decide +kernel
theorem dX6_nameHere_68 : decode cX6_nameHere 68 = .ok (.aload_n 0, 1) := by decide +kernel
theorem dX6_nameHere_69 : decode cX6_nameHere 69 = .ok (.aload_n 0, 1) := by decide +kernel
theorem dX6_nameHere_70 : decode cX6_nameHere 70 = .ok (.getfield 84, 3) := by decide +kernel
theorem dX6_nameHere_73 : decode cX6_nameHere 73 = .ok (.iload_n 3, 1) := by decide +kernel
theorem dX6_nameHere_74 : decode cX6_nameHere 74 = .ok (.iadd, 1) := by decide +kernel
theorem dX6_nameHere_75 : decode cX6_nameHere 75 = .ok (.invokevirtual 96, 3) := by decide +kernel
theorem dX6_nameHere_78 : decode cX6_nameHere 78 = .ok (.aload_n 0, 1) := by decide +kernel
theorem dX6_nameHere_79 : decode cX6_nameHere 79 = .ok (.getfield 25, 3) := by decide +kernel
theorem dX6_nameHere_82 : decode cX6_nameHere 82 = .ok (.aload_n 0, 1) := by decide +kernel
theorem dX6_nameHere_83 : decode cX6_nameHere 83 = .ok (.getfield 22, 3) := by decide +kernel
theorem dX6_nameHere_86 : decode cX6_nameHere 86 = .ok (.iload_n 1, 1) := by decide +kernel
theorem dX6_nameHere_87 : decode cX6_nameHere 87 = .ok (.iaload, 1) := by decide +kernel
theorem dX6_nameHere_88 : decode cX6_nameHere 88 = .ok (.iload_n 3, 1) := by decide +kernel
theorem dX6_nameHere_89 : decode cX6_nameHere 89 = .ok (.iadd, 1) := by decide +kernel
theorem dX6_nameHere_90 : decode cX6_nameHere 90 = .ok (.iaload, 1) := by decide +kernel
theorem dX6_nameHere_91 : decode cX6_nameHere 91 = .ok (.if_icmp .ne 7, 3) := by decide +kernel
theorem dX6_nameHere_94 : decode cX6_nameHere 94 = .ok (.iconst 1, 1) := by decide +kernel
theorem dX6_nameHere_95 : decode cX6_nameHere 95 = .ok (.goto 4, 3) := by decide +kernel
theorem dX6_nameHere_98 : decode cX6_nameHere 98 = .ok (.iconst 0, 1) := by decide +kernel
theorem dX6_nameHere_99 : decode cX6_nameHere 99 = .ok (.istore_n 2, 1) := by decide +kernel
theorem dX6_nameHere_100 : decode cX6_nameHere 100 = .ok (.iinc 3 1, 3) := by decide +kernel
theorem dX6_nameHere_103 : decode cX6_nameHere 103 = .ok (.goto (-52), 3) := by decide +kernel
theorem dX6_nameHere_106 : decode cX6_nameHere 106 = .ok (.iload_n 2, 1) := by decide +kernel
theorem dX6_nameHere_107 : decode cX6_nameHere 107 = .ok (.ifCond .eq 5, 3) := by decide +kernel
theorem dX6_nameHere_110 : decode cX6_nameHere 110 = .ok (.iload_n 1, 1) := by decide +kernel
theorem dX6_nameHere_111 : decode cX6_nameHere 111 = .ok (.ireturn, 1) := by decide +kernel
theorem dX6_nameHere_112 : decode cX6_nameHere 112 = .ok (.iinc 1 1, 3) := by decide +kernel
theorem dX6_nameHere_115 : decode cX6_nameHere 115 = .ok (.goto (-113), 3) := by decide +kernel
theorem dX6_nameHere_118 : decode cX6_nameHere 118 = .ok (.bipush (-4), 2) := by decide +kernel
theorem dX6_nameHere_120 : decode cX6_nameHere 120 = .ok (.ireturn, 1) := by decide +kernel
theorem dX6_step_0 : decode cX6_step 0 = .ok (.aload_n 0, 1) := by decide +kernel
theorem dX6_step_1 : decode cX6_step 1 = .ok (.getfield 81, 3) := by decide +kernel
theorem dX6_step_4 : decode cX6_step 4 = .ok (.ifCond .le 4, 3) := by decide +kernel
theorem dX6_step_7 : decode cX6_step 7 = .ok (.return_, 1) := by decide +kernel
theorem dX6_step_8 : decode cX6_step 8 = .ok (.aload_n 0, 1) := by decide +kernel
theorem dX6_step_9 : decode cX6_step 9 = .ok (.aload_n 0, 1) := by decide +kernel
theorem dX6_step_10 : decode cX6_step 10 = .ok (.getfield 93, 3) := by decide +kernel
theorem dX6_step_13 : decode cX6_step 13 = .ok (.invokevirtual 96, 3) := by decide +kernel
theorem dX6_step_16 : decode cX6_step 16 = .ok (.bipush 32, 2) := by decide +kernel
theorem dX6_step_18 : decode cX6_step 18 = .ok (.if_icmp .ne 16, 3) := by decide +kernel
theorem dX6_step_21 : decode cX6_step 21 = .ok (.aload_n 0, 1) := by decide +kernel
theorem dX6_step_22 : decode cX6_step 22 = .ok (.dup, 1) := by decide +kernel
theorem dX6_step_23 : decode cX6_step 23 = .ok (.getfield 93, 3) := by decide +kernel
theorem dX6_step_26 : decode cX6_step 26 = .ok (.iconst 1, 1) := by decide +kernel
theorem dX6_step_27 : decode cX6_step 27 = .ok (.iadd, 1) := by decide +kernel
theorem dX6_step_28 : decode cX6_step 28 = .ok (.putfield 93, 3) := by decide +kernel
theorem dX6_step_31 : decode cX6_step 31 = .ok (.goto (-23), 3) := by decide +kernel
theorem dX6_step_34 : decode cX6_step 34 = .ok (.aload_n 0, 1) := by decide +kernel
theorem dX6_step_35 : decode cX6_step 35 = .ok (.aload_n 0, 1) := by decide +kernel
theorem dX6_step_36 : decode cX6_step 36 = .ok (.getfield 93, 3) := by decide +kernel
theorem dX6_step_39 : decode cX6_step 39 = .ok (.putfield 84, 3) := by decide +kernel
theorem dX6_step_42 : decode cX6_step 42 = .ok (.aload_n 0, 1) := by decide +kernel
theorem dX6_step_43 : decode cX6_step 43 = .ok (.aload_n 0, 1) := by decide +kernel
theorem dX6_step_44 : decode cX6_step 44 = .ok (.getfield 93, 3) := by decide +kernel
theorem dX6_step_47 : decode cX6_step 47 = .ok (.invokevirtual 96, 3) := by decide +kernel
theorem dX6_step_50 : decode cX6_step 50 = .ok (.istore_n 1, 1) := by decide +kernel
theorem dX6_step_51 : decode cX6_step 51 = .ok (.aload_n 0, 1) := by decide +kernel
theorem dX6_step_52 : decode cX6_step 52 = .ok (.iconst 0, 1) := by decide +kernel
theorem dX6_step_53 : decode cX6_step 53 = .ok (.putfield 100, 3) := by decide +kernel
theorem dX6_step_56 : decode cX6_step 56 = .ok (.iload_n 1, 1) := by decide +kernel
theorem dX6_step_57 : decode cX6_step 57 = .ok (.bipush (-4), 2) := by decide +kernel
theorem dX6_step_59 : decode cX6_step 59 = .ok (.if_icmp .ne 11, 3) := by decide +kernel
theorem dX6_step_62 : decode cX6_step 62 = .ok (.aload_n 0, 1) := by decide +kernel
theorem dX6_step_63 : decode cX6_step 63 = .ok (.iconst 0, 1) := by decide +kernel
theorem dX6_step_64 : decode cX6_step 64 = .ok (.putfield 90, 3) := by decide +kernel
theorem dX6_step_67 : decode cX6_step 67 = .ok (.goto 202, 3) := by decide +kernel
theorem dX6_step_70 : decode cX6_step 70 = .ok (.iload_n 1, 1) := by decide +kernel
theorem dX6_step_71 : decode cX6_step 71 = .ok (.i2l, 1) := by decide +kernel
theorem dX6_step_72 : decode cX6_step 72 = .ok (.ldc2_w 103, 3) := by decide +kernel
theorem dX6_step_75 : decode cX6_step 75 = .ok (.ldc2_w 105, 3) := by decide +kernel
theorem dX6_step_78 : decode cX6_step 78 = .ok (.invokestatic 73, 3) := by decide +kernel
theorem dX6_step_81 : decode cX6_step 81 = .ok (.ifCond .eq 45, 3) := by decide +kernel
theorem dX6_step_84 : decode cX6_step 84 = .ok (.aload_n 0, 1) := by decide +kernel
theorem dX6_step_85 : decode cX6_step 85 = .ok (.aload_n 0, 1) := by decide +kernel
theorem dX6_step_86 : decode cX6_step 86 = .ok (.getfield 93, 3) := by decide +kernel
theorem dX6_step_89 : decode cX6_step 89 = .ok (.invokevirtual 96, 3) := by decide +kernel
theorem dX6_step_92 : decode cX6_step 92 = .ok (.i2l, 1) := by decide +kernel
theorem dX6_step_93 : decode cX6_step 93 = .ok (.ldc2_w 103, 3) := by decide +kernel
theorem dX6_step_96 : decode cX6_step 96 = .ok (.ldc2_w 105, 3) := by decide +kernel
theorem dX6_step_99 : decode cX6_step 99 = .ok (.invokestatic 73, 3) := by decide +kernel
theorem dX6_step_102 : decode cX6_step 102 = .ok (.ifCond .eq 16, 3) := by decide +kernel
theorem dX6_step_105 : decode cX6_step 105 = .ok (.aload_n 0, 1) := by decide +kernel
theorem dX6_step_106 : decode cX6_step 106 = .ok (.dup, 1) := by decide +kernel
theorem dX6_step_107 : decode cX6_step 107 = .ok (.getfield 93, 3) := by decide +kernel
theorem dX6_step_110 : decode cX6_step 110 = .ok (.iconst 1, 1) := by decide +kernel
theorem dX6_step_111 : decode cX6_step 111 = .ok (.iadd, 1) := by decide +kernel
theorem dX6_step_112 : decode cX6_step 112 = .ok (.putfield 93, 3) := by decide +kernel
theorem dX6_step_115 : decode cX6_step 115 = .ok (.goto (-31), 3) := by decide +kernel
theorem dX6_step_118 : decode cX6_step 118 = .ok (.aload_n 0, 1) := by decide +kernel
theorem dX6_step_119 : decode cX6_step 119 = .ok (.iconst 1, 1) := by decide +kernel
theorem dX6_step_120 : decode cX6_step 120 = .ok (.putfield 90, 3) := by decide +kernel
theorem dX6_step_123 : decode cX6_step 123 = .ok (.goto 146, 3) := by decide +kernel
theorem dX6_step_126 : decode cX6_step 126 = .ok (.iload_n 1, 1) := by decide +kernel
theorem dX6_step_127 : decode cX6_step 127 = .ok (.i2l, 1) := by decide +kernel
theorem dX6_step_128 : decode cX6_step 128 = .ok (.ldc2_w 107, 3) := by decide +kernel
theorem dX6_step_131 : decode cX6_step 131 = .ok (.ldc2_w 109, 3) := by decide +kernel
theorem dX6_step_134 : decode cX6_step 134 = .ok (.invokestatic 73, 3) := by decide +kernel
theorem dX6_step_137 : decode cX6_step 137 = .ok (.ifCond .eq 106, 3) := by decide +kernel
theorem dX6_step_140 : decode cX6_step 140 = .ok (.aload_n 0, 1) := by decide +kernel
theorem dX6_step_141 : decode cX6_step 141 = .ok (.aload_n 0, 1) := by decide +kernel
theorem dX6_step_142 : decode cX6_step 142 = .ok (.getfield 93, 3) := by decide +kernel
theorem dX6_step_145 : decode cX6_step 145 = .ok (.invokevirtual 96, 3) := by decide +kernel
theorem dX6_step_148 : decode cX6_step 148 = .ok (.i2l, 1) := by decide +kernel
theorem dX6_step_149 : decode cX6_step 149 = .ok (.ldc2_w 107, 3) := by decide +kernel
theorem dX6_step_152 : decode cX6_step 152 = .ok (.ldc2_w 109, 3) := by decide +kernel
theorem dX6_step_155 : decode cX6_step 155 = .ok (.invokestatic 73, 3) := by decide +kernel
theorem dX6_step_158 : decode cX6_step 158 = .ok (.ifCond .eq 59, 3) := by decide +kernel
theorem dX6_step_161 : decode cX6_step 161 = .ok (.aload_n 0, 1) := by decide +kernel
theorem dX6_step_162 : decode cX6_step 162 = .ok (.aload_n 0, 1) := by decide +kernel
theorem dX6_step_163 : decode cX6_step 163 = .ok (.getfield 93, 3) := by decide +kernel
theorem dX6_step_166 : decode cX6_step 166 = .ok (.aload_n 0, 1) := by decide +kernel
theorem dX6_step_167 : decode cX6_step 167 = .ok (.getfield 84, 3) := by decide +kernel
theorem dX6_step_170 : decode cX6_step 170 = .ok (.isub, 1) := by decide +kernel
theorem dX6_step_171 : decode cX6_step 171 = .ok (.iconst 2, 1) := by decide +kernel
theorem dX6_step_172 : decode cX6_step 172 = .ok (.if_icmp .ge 25, 3) := by decide +kernel
theorem dX6_step_175 : decode cX6_step 175 = .ok (.bipush 10, 2) := by decide +kernel
theorem dX6_step_177 : decode cX6_step 177 = .ok (.aload_n 0, 1) := by decide +kernel
theorem dX6_step_178 : decode cX6_step 178 = .ok (.getfield 100, 3) := by decide +kernel
theorem dX6_step_181 : decode cX6_step 181 = .ok (.imul, 1) := by decide +kernel
theorem dX6_step_182 : decode cX6_step 182 = .ok (.aload_n 0, 1) := by decide +kernel
theorem dX6_step_183 : decode cX6_step 183 = .ok (.aload_n 0, 1) := by decide +kernel
theorem dX6_step_184 : decode cX6_step 184 = .ok (.getfield 93, 3) := by decide +kernel
theorem dX6_step_187 : decode cX6_step 187 = .ok (.invokevirtual 96, 3) := by decide +kernel
theorem dX6_step_190 : decode cX6_step 190 = .ok (.iadd, 1) := by decide +kernel
theorem dX6_step_191 : decode cX6_step 191 = .ok (.bipush 48, 2) := by decide +kernel
theorem dX6_step_193 : decode cX6_step 193 = .ok (.isub, 1) := by decide +kernel
theorem dX6_step_194 : decode cX6_step 194 = .ok (.goto 7, 3) := by decide +kernel
theorem dX6_step_197 : decode cX6_step 197 = .ok (.aload_n 0, 1) := by decide +kernel
theorem dX6_step_198 : decode cX6_step 198 = .ok (.getfield 100, 3) := by decide +kernel
theorem dX6_step_201 : decode cX6_step 201 = .ok (.putfield 100, 3) := by decide +kernel
theorem dX6_step_204 : decode cX6_step 204 = .ok (.aload_n 0, 1) := by decide +kernel
theorem dX6_step_205 : decode cX6_step 205 = .ok (.dup, 1) := by decide +kernel
theorem dX6_step_206 : decode cX6_step 206 = .ok (.getfield 93, 3) := by decide +kernel
theorem dX6_step_209 : decode cX6_step 209 = .ok (.iconst 1, 1) := by decide +kernel
theorem dX6_step_210 : decode cX6_step 210 = .ok (.iadd, 1) := by decide +kernel
theorem dX6_step_211 : decode cX6_step 211 = .ok (.putfield 93, 3) := by decide +kernel
theorem dX6_step_214 : decode cX6_step 214 = .ok (.goto (-74), 3) := by decide +kernel
theorem dX6_step_217 : decode cX6_step 217 = .ok (.aload_n 0, 1) := by decide +kernel
theorem dX6_step_218 : decode cX6_step 218 = .ok (.iconst 2, 1) := by decide +kernel
theorem dX6_step_219 : decode cX6_step 219 = .ok (.putfield 90, 3) := by decide +kernel
theorem dX6_step_222 : decode cX6_step 222 = .ok (.aload_n 0, 1) := by decide +kernel
theorem dX6_step_223 : decode cX6_step 223 = .ok (.getfield 93, 3) := by decide +kernel
theorem dX6_step_226 : decode cX6_step 226 = .ok (.aload_n 0, 1) := by decide +kernel
theorem dX6_step_227 : decode cX6_step 227 = .ok (.getfield 84, 3) := by decide +kernel
theorem dX6_step_230 : decode cX6_step 230 = .ok (.isub, 1) := by decide +kernel
theorem dX6_step_231 : decode cX6_step 231 = .ok (.iconst 2, 1) := by decide +kernel
theorem dX6_step_232 : decode cX6_step 232 = .ok (.if_icmp .le 37, 3) := by decide +kernel
theorem dX6_step_235 : decode cX6_step 235 = .ok (.aload_n 0, 1) := by decide +kernel
theorem dX6_step_236 : decode cX6_step 236 = .ok (.iconst 1, 1) := by decide +kernel
theorem dX6_step_237 : decode cX6_step 237 = .ok (.invokevirtual 111, 3) := by decide +kernel
theorem dX6_step_240 : decode cX6_step 240 = .ok (.goto 29, 3) := by decide +kernel
theorem dX6_step_243 : decode cX6_step 243 = .ok (.aload_n 0, 1) := by decide +kernel
theorem dX6_step_244 : decode cX6_step 244 = .ok (.iconst 3, 1) := by decide +kernel
theorem dX6_step_245 : decode cX6_step 245 = .ok (.putfield 90, 3) := by decide +kernel
theorem dX6_step_248 : decode cX6_step 248 = .ok (.aload_n 0, 1) := by decide +kernel
theorem dX6_step_249 : decode cX6_step 249 = .ok (.dup, 1) := by decide +kernel
theorem dX6_step_250 : decode cX6_step 250 = .ok (.getfield 93, 3) := by decide +kernel
theorem dX6_step_253 : decode cX6_step 253 = .ok (.iconst 1, 1) := by decide +kernel
theorem dX6_step_254 : decode cX6_step 254 = .ok (.iadd, 1) := by decide +kernel
theorem dX6_step_255 : decode cX6_step 255 = .ok (.putfield 93, 3) := by decide +kernel
theorem dX6_step_258 : decode cX6_step 258 = .ok (.iload_n 1, 1) := by decide +kernel
theorem dX6_step_259 : decode cX6_step 259 = .ok (.bipush 59, 2) := by decide +kernel
theorem dX6_step_261 : decode cX6_step 261 = .ok (.if_icmp .eq 8, 3) := by decide +kernel
theorem dX6_step_264 : decode cX6_step 264 = .ok (.aload_n 0, 1) := by decide +kernel
theorem dX6_step_265 : decode cX6_step 265 = .ok (.iconst 1, 1) := by decide +kernel
theorem dX6_step_266 : decode cX6_step 266 = .ok (.invokevirtual 111, 3) := by decide +kernel
theorem dX6_step_269 : decode cX6_step 269 = .ok (.return_, 1) := by decide +kernel
theorem dX6_other_0 : decode cX6_other 0 = .ok (.aload_n 0, 1) := by decide +kernel
theorem dX6_other_1 : decode cX6_other 1 = .ok (.getfield 81, 3) := by decide +kernel
theorem dX6_other_4 : decode cX6_other 4 = .ok (.ifCond .ne 16, 3) := by decide +kernel
theorem dX6_other_7 : decode cX6_other 7 = .ok (.aload_n 0, 1) := by decide +kernel
theorem dX6_other_8 : decode cX6_other 8 = .ok (.getfield 90, 3) := by decide +kernel
theorem dX6_other_11 : decode cX6_other 11 = .ok (.iconst 2, 1) := by decide +kernel
theorem dX6_other_12 : decode cX6_other 12 = .ok (.if_icmp .eq 8, 3) := by decide +kernel
theorem dX6_other_15 : decode cX6_other 15 = .ok (.aload_n 0, 1) := by decide +kernel
theorem dX6_other_16 : decode cX6_other 16 = .ok (.iconst 2, 1) := by decide +kernel
theorem dX6_other_17 : decode cX6_other 17 = .ok (.invokevirtual 111, 3) := by decide +kernel
theorem dX6_other_20 : decode cX6_other 20 = .ok (.aload_n 0, 1) := by decide +kernel
theorem dX6_other_21 : decode cX6_other 21 = .ok (.getfield 81, 3) := by decide +kernel
theorem dX6_other_24 : decode cX6_other 24 = .ok (.ifCond .ne 23, 3) := by decide +kernel
theorem dX6_other_27 : decode cX6_other 27 = .ok (.aload_n 0, 1) := by decide +kernel
theorem dX6_other_28 : decode cX6_other 28 = .ok (.getfield 100, 3) := by decide +kernel
theorem dX6_other_31 : decode cX6_other 31 = .ok (.i2l, 1) := by decide +kernel
theorem dX6_other_32 : decode cX6_other 32 = .ok (.iload_n 1, 1) := by decide +kernel
theorem dX6_other_33 : decode cX6_other 33 = .ok (.i2l, 1) := by decide +kernel
theorem dX6_other_34 : decode cX6_other 34 = .ok (.iload_n 2, 1) := by decide +kernel
theorem dX6_other_35 : decode cX6_other 35 = .ok (.i2l, 1) := by decide +kernel
theorem dX6_other_36 : decode cX6_other 36 = .ok (.invokestatic 73, 3) := by decide +kernel
theorem dX6_other_39 : decode cX6_other 39 = .ok (.ifCond .ne 8, 3) := by decide +kernel
theorem dX6_other_42 : decode cX6_other 42 = .ok (.aload_n 0, 1) := by decide +kernel
theorem dX6_other_43 : decode cX6_other 43 = .ok (.iconst 3, 1) := by decide +kernel
theorem dX6_other_44 : decode cX6_other 44 = .ok (.invokevirtual 111, 3) := by decide +kernel
theorem dX6_other_47 : decode cX6_other 47 = .ok (.aload_n 0, 1) := by decide +kernel
theorem dX6_other_48 : decode cX6_other 48 = .ok (.getfield 81, 3) := by decide +kernel
theorem dX6_other_51 : decode cX6_other 51 = .ok (.ifCond .ne 24, 3) := by decide +kernel
theorem dX6_other_54 : decode cX6_other 54 = .ok (.iload_n 3, 1) := by decide +kernel
theorem dX6_other_55 : decode cX6_other 55 = .ok (.ifCond .eq 20, 3) := by decide +kernel
theorem dX6_other_58 : decode cX6_other 58 = .ok (.iload_n 3, 1) := by decide +kernel
theorem dX6_other_59 : decode cX6_other 59 = .ok (.aload_n 0, 1) := by decide +kernel
theorem dX6_other_60 : decode cX6_other 60 = .ok (.getfield 100, 3) := by decide +kernel
theorem dX6_other_63 : decode cX6_other 63 = .ok (.ishr, 1) := by decide +kernel
theorem dX6_other_64 : decode cX6_other 64 = .ok (.iconst 1, 1) := by decide +kernel
theorem dX6_other_65 : decode cX6_other 65 = .ok (.iand, 1) := by decide +kernel
theorem dX6_other_66 : decode cX6_other 66 = .ok (.iconst 1, 1) := by decide +kernel
theorem dX6_other_67 : decode cX6_other 67 = .ok (.if_icmp .ne 8, 3) := by decide +kernel
theorem dX6_other_70 : decode cX6_other 70 = .ok (.aload_n 0, 1) := by decide +kernel
theorem dX6_other_71 : decode cX6_other 71 = .ok (.iconst 4, 1) := by decide +kernel
theorem dX6_other_72 : decode cX6_other 72 = .ok (.invokevirtual 111, 3) := by decide +kernel
theorem dX6_other_75 : decode cX6_other 75 = .ok (.aload_n 0, 1) := by decide +kernel
theorem dX6_other_76 : decode cX6_other 76 = .ok (.getfield 81, 3) := by decide +kernel
theorem dX6_other_79 : decode cX6_other 79 = .ok (.ifCond .ne 10, 3) := by decide +kernel
theorem dX6_other_82 : decode cX6_other 82 = .ok (.aload_n 0, 1) := by decide +kernel
theorem dX6_other_83 : decode cX6_other 83 = .ok (.getfield 100, 3) := by decide +kernel
theorem dX6_other_86 : decode cX6_other 86 = .ok (.goto 4, 3) := by decide +kernel
theorem dX6_other_89 : decode cX6_other 89 = .ok (.iload_n 1, 1) := by decide +kernel
theorem dX6_other_90 : decode cX6_other 90 = .ok (.istore 4, 2) := by decide +kernel
theorem dX6_other_92 : decode cX6_other 92 = .ok (.aload_n 0, 1) := by decide +kernel
theorem dX6_other_93 : decode cX6_other 93 = .ok (.invokevirtual 115, 3) := by decide +kernel
theorem dX6_other_96 : decode cX6_other 96 = .ok (.iload 4, 2) := by decide +kernel
theorem dX6_other_98 : decode cX6_other 98 = .ok (.ireturn, 1) := by decide +kernel
theorem dX6_readTub_0 : decode cX6_readTub 0 = .ok (.aload_n 0, 1) := by decide +kernel
theorem dX6_readTub_1 : decode cX6_readTub 1 = .ok (.getfield 16, 3) := by decide +kernel
theorem dX6_readTub_4 : decode cX6_readTub 4 = .ok (.bipush 20, 2) := by decide +kernel
theorem dX6_readTub_6 : decode cX6_readTub 6 = .ok (.iaload, 1) := by decide +kernel
theorem dX6_readTub_7 : decode cX6_readTub 7 = .ok (.istore_n 2, 1) := by decide +kernel
theorem dX6_readTub_8 : decode cX6_readTub 8 = .ok (.aload_n 0, 1) := by decide +kernel
theorem dX6_readTub_9 : decode cX6_readTub 9 = .ok (.getfield 16, 3) := by decide +kernel
theorem dX6_readTub_12 : decode cX6_readTub 12 = .ok (.iload_n 2, 1) := by decide +kernel
theorem dX6_readTub_13 : decode cX6_readTub 13 = .ok (.iload_n 1, 1) := by decide +kernel
theorem dX6_readTub_14 : decode cX6_readTub 14 = .ok (.iastore, 1) := by decide +kernel
theorem dX6_readTub_15 : decode cX6_readTub 15 = .ok (.aload_n 0, 1) := by decide +kernel
theorem dX6_readTub_16 : decode cX6_readTub 16 = .ok (.getfield 16, 3) := by decide +kernel
theorem dX6_readTub_19 : decode cX6_readTub 19 = .ok (.iconst 4, 1) := by decide +kernel
theorem dX6_readTub_20 : decode cX6_readTub 20 = .ok (.iload_n 2, 1) := by decide +kernel
theorem dX6_readTub_21 : decode cX6_readTub 21 = .ok (.iadd, 1) := by decide +kernel
theorem dX6_readTub_22 : decode cX6_readTub 22 = .ok (.aload_n 0, 1) := by decide +kernel
theorem dX6_readTub_23 : decode cX6_readTub 23 = .ok (.iconst 0, 1) := by decide +kernel
theorem dX6_readTub_24 : decode cX6_readTub 24 = .ok (.bipush 9, 2) := by decide +kernel
theorem dX6_readTub_26 : decode cX6_readTub 26 = .ok (.iconst 0, 1) := by decide +kernel
theorem dX6_readTub_27 : decode cX6_readTub 27 = .ok (.invokevirtual 118, 3) := by decide +kernel
theorem dX6_readTub_30 : decode cX6_readTub 30 = .ok (.iastore, 1) := by decide +kernel
theorem dX6_readTub_31 : decode cX6_readTub 31 = .ok (.aload_n 0, 1) := by decide +kernel
theorem dX6_readTub_32 : decode cX6_readTub 32 = .ok (.getfield 16, 3) := by decide +kernel
theorem dX6_readTub_35 : decode cX6_readTub 35 = .ok (.bipush 8, 2) := by decide +kernel
theorem dX6_readTub_37 : decode cX6_readTub 37 = .ok (.iload_n 2, 1) := by decide +kernel
theorem dX6_readTub_38 : decode cX6_readTub 38 = .ok (.iadd, 1) := by decide +kernel
theorem dX6_readTub_39 : decode cX6_readTub 39 = .ok (.aload_n 0, 1) := by decide +kernel
theorem dX6_readTub_40 : decode cX6_readTub 40 = .ok (.iconst 1, 1) := by decide +kernel
theorem dX6_readTub_41 : decode cX6_readTub 41 = .ok (.bipush 9, 2) := by decide +kernel
theorem dX6_readTub_43 : decode cX6_readTub 43 = .ok (.iconst 0, 1) := by decide +kernel
theorem dX6_readTub_44 : decode cX6_readTub 44 = .ok (.invokevirtual 118, 3) := by decide +kernel
theorem dX6_readTub_47 : decode cX6_readTub 47 = .ok (.iastore, 1) := by decide +kernel
theorem dX6_readTub_48 : decode cX6_readTub 48 = .ok (.aload_n 0, 1) := by decide +kernel
theorem dX6_readTub_49 : decode cX6_readTub 49 = .ok (.getfield 16, 3) := by decide +kernel
theorem dX6_readTub_52 : decode cX6_readTub 52 = .ok (.bipush 12, 2) := by decide +kernel
theorem dX6_readTub_54 : decode cX6_readTub 54 = .ok (.iload_n 2, 1) := by decide +kernel
theorem dX6_readTub_55 : decode cX6_readTub 55 = .ok (.iadd, 1) := by decide +kernel
theorem dX6_readTub_56 : decode cX6_readTub 56 = .ok (.aload_n 0, 1) := by decide +kernel
theorem dX6_readTub_57 : decode cX6_readTub 57 = .ok (.iconst 0, 1) := by decide +kernel
theorem dX6_readTub_58 : decode cX6_readTub 58 = .ok (.bipush 23, 2) := by decide +kernel
theorem dX6_readTub_60 : decode cX6_readTub 60 = .ok (.iconst 0, 1) := by decide +kernel
theorem dX6_readTub_61 : decode cX6_readTub 61 = .ok (.invokevirtual 118, 3) := by decide +kernel
theorem dX6_readTub_64 : decode cX6_readTub 64 = .ok (.iastore, 1) := by decide +kernel
theorem dX6_readTub_65 : decode cX6_readTub 65 = .ok (.aload_n 0, 1) := by decide +kernel
theorem dX6_readTub_66 : decode cX6_readTub 66 = .ok (.getfield 16, 3) := by decide +kernel
theorem dX6_readTub_69 : decode cX6_readTub 69 = .ok (.bipush 16, 2) := by decide +kernel
theorem dX6_readTub_71 : decode cX6_readTub 71 = .ok (.iload_n 2, 1) := by decide +kernel
theorem dX6_readTub_72 : decode cX6_readTub 72 = .ok (.iadd, 1) := by decide +kernel
theorem dX6_readTub_73 : decode cX6_readTub 73 = .ok (.aload_n 0, 1) := by decide +kernel
theorem dX6_readTub_74 : decode cX6_readTub 74 = .ok (.iconst 1, 1) := by decide +kernel
theorem dX6_readTub_75 : decode cX6_readTub 75 = .ok (.bipush 99, 2) := by decide +kernel
theorem dX6_readTub_77 : decode cX6_readTub 77 = .ok (.iconst 0, 1) := by decide +kernel
theorem dX6_readTub_78 : decode cX6_readTub 78 = .ok (.invokevirtual 118, 3) := by decide +kernel
theorem dX6_readTub_81 : decode cX6_readTub 81 = .ok (.iastore, 1) := by decide +kernel
theorem dX6_readTub_82 : decode cX6_readTub 82 = .ok (.aload_n 0, 1) := by decide +kernel
theorem dX6_readTub_83 : decode cX6_readTub 83 = .ok (.getfield 16, 3) := by decide +kernel
theorem dX6_readTub_86 : decode cX6_readTub 86 = .ok (.bipush 20, 2) := by decide +kernel
theorem dX6_readTub_88 : decode cX6_readTub 88 = .ok (.dup2, 1) := by decide +kernel
theorem dX6_readTub_89 : decode cX6_readTub 89 = .ok (.iaload, 1) := by decide +kernel
theorem dX6_readTub_90 : decode cX6_readTub 90 = .ok (.iconst 1, 1) := by decide +kernel
theorem dX6_readTub_91 : decode cX6_readTub 91 = .ok (.iadd, 1) := by decide +kernel
theorem dX6_readTub_92 : decode cX6_readTub 92 = .ok (.iastore, 1) := by decide +kernel
theorem dX6_readTub_93 : decode cX6_readTub 93 = .ok (.return_, 1) := by decide +kernel
theorem dX6_readHeir_0 : decode cX6_readHeir 0 = .ok (.bipush 21, 2) := by decide +kernel
theorem dX6_readHeir_2 : decode cX6_readHeir 2 = .ok (.iconst 4, 1) := by decide +kernel
theorem dX6_readHeir_3 : decode cX6_readHeir 3 = .ok (.aload_n 0, 1) := by decide +kernel
theorem dX6_readHeir_4 : decode cX6_readHeir 4 = .ok (.getfield 122, 3) := by decide +kernel
theorem dX6_readHeir_7 : decode cX6_readHeir 7 = .ok (.imul, 1) := by decide +kernel
theorem dX6_readHeir_8 : decode cX6_readHeir 8 = .ok (.iadd, 1) := by decide +kernel
theorem dX6_readHeir_9 : decode cX6_readHeir 9 = .ok (.istore_n 1, 1) := by decide +kernel
theorem dX6_readHeir_10 : decode cX6_readHeir 10 = .ok (.aload_n 0, 1) := by decide +kernel
theorem dX6_readHeir_11 : decode cX6_readHeir 11 = .ok (.getfield 16, 3) := by decide +kernel
theorem dX6_readHeir_14 : decode cX6_readHeir 14 = .ok (.iload_n 1, 1) := by decide +kernel
theorem dX6_readHeir_15 : decode cX6_readHeir 15 = .ok (.aload_n 0, 1) := by decide +kernel
theorem dX6_readHeir_16 : decode cX6_readHeir 16 = .ok (.iconst 0, 1) := by decide +kernel
theorem dX6_readHeir_17 : decode cX6_readHeir 17 = .ok (.bipush 9, 2) := by decide +kernel
theorem dX6_readHeir_19 : decode cX6_readHeir 19 = .ok (.iconst 0, 1) := by decide +kernel
theorem dX6_readHeir_20 : decode cX6_readHeir 20 = .ok (.invokevirtual 118, 3) := by decide +kernel
theorem dX6_readHeir_23 : decode cX6_readHeir 23 = .ok (.iastore, 1) := by decide +kernel
theorem dX6_readHeir_24 : decode cX6_readHeir 24 = .ok (.aload_n 0, 1) := by decide +kernel
theorem dX6_readHeir_25 : decode cX6_readHeir 25 = .ok (.getfield 16, 3) := by decide +kernel
theorem dX6_readHeir_28 : decode cX6_readHeir 28 = .ok (.iload_n 1, 1) := by decide +kernel
theorem dX6_readHeir_29 : decode cX6_readHeir 29 = .ok (.iconst 1, 1) := by decide +kernel
theorem dX6_readHeir_30 : decode cX6_readHeir 30 = .ok (.iadd, 1) := by decide +kernel
theorem dX6_readHeir_31 : decode cX6_readHeir 31 = .ok (.aload_n 0, 1) := by decide +kernel
theorem dX6_readHeir_32 : decode cX6_readHeir 32 = .ok (.iconst 0, 1) := by decide +kernel
theorem dX6_readHeir_33 : decode cX6_readHeir 33 = .ok (.bipush 23, 2) := by decide +kernel
theorem dX6_readHeir_35 : decode cX6_readHeir 35 = .ok (.iconst 0, 1) := by decide +kernel
theorem dX6_readHeir_36 : decode cX6_readHeir 36 = .ok (.invokevirtual 118, 3) := by decide +kernel
theorem dX6_readHeir_39 : decode cX6_readHeir 39 = .ok (.iastore, 1) := by decide +kernel
theorem dX6_readHeir_40 : decode cX6_readHeir 40 = .ok (.aload_n 0, 1) := by decide +kernel
theorem dX6_readHeir_41 : decode cX6_readHeir 41 = .ok (.getfield 16, 3) := by decide +kernel
theorem dX6_readHeir_44 : decode cX6_readHeir 44 = .ok (.iload_n 1, 1) := by decide +kernel
theorem dX6_readHeir_45 : decode cX6_readHeir 45 = .ok (.iconst 2, 1) := by decide +kernel
theorem dX6_readHeir_46 : decode cX6_readHeir 46 = .ok (.iadd, 1) := by decide +kernel
theorem dX6_readHeir_47 : decode cX6_readHeir 47 = .ok (.aload_n 0, 1) := by decide +kernel
theorem dX6_readHeir_48 : decode cX6_readHeir 48 = .ok (.aload_n 0, 1) := by decide +kernel
theorem dX6_readHeir_49 : decode cX6_readHeir 49 = .ok (.getfield 16, 3) := by decide +kernel
theorem dX6_readHeir_52 : decode cX6_readHeir 52 = .ok (.iload_n 1, 1) := by decide +kernel
theorem dX6_readHeir_53 : decode cX6_readHeir 53 = .ok (.iconst 1, 1) := by decide +kernel
theorem dX6_readHeir_54 : decode cX6_readHeir 54 = .ok (.iadd, 1) := by decide +kernel
theorem dX6_readHeir_55 : decode cX6_readHeir 55 = .ok (.iaload, 1) := by decide +kernel
theorem dX6_readHeir_56 : decode cX6_readHeir 56 = .ok (.bipush 23, 2) := by decide +kernel
theorem dX6_readHeir_58 : decode cX6_readHeir 58 = .ok (.iconst 0, 1) := by decide +kernel
theorem dX6_readHeir_59 : decode cX6_readHeir 59 = .ok (.invokevirtual 118, 3) := by decide +kernel
theorem dX6_readHeir_62 : decode cX6_readHeir 62 = .ok (.iastore, 1) := by decide +kernel
theorem dX6_readHeir_63 : decode cX6_readHeir 63 = .ok (.aload_n 0, 1) := by decide +kernel
theorem dX6_readHeir_64 : decode cX6_readHeir 64 = .ok (.getfield 16, 3) := by decide +kernel
theorem dX6_readHeir_67 : decode cX6_readHeir 67 = .ok (.iload_n 1, 1) := by decide +kernel
theorem dX6_readHeir_68 : decode cX6_readHeir 68 = .ok (.iconst 3, 1) := by decide +kernel
theorem dX6_readHeir_69 : decode cX6_readHeir 69 = .ok (.iadd, 1) := by decide +kernel
theorem dX6_readHeir_70 : decode cX6_readHeir 70 = .ok (.aload_n 0, 1) := by decide +kernel
theorem dX6_readHeir_71 : decode cX6_readHeir 71 = .ok (.iconst 0, 1) := by decide +kernel
theorem dX6_readHeir_72 : decode cX6_readHeir 72 = .ok (.bipush 9, 2) := by decide +kernel
theorem dX6_readHeir_74 : decode cX6_readHeir 74 = .ok (.iconst 0, 1) := by decide +kernel
theorem dX6_readHeir_75 : decode cX6_readHeir 75 = .ok (.invokevirtual 118, 3) := by decide +kernel
theorem dX6_readHeir_78 : decode cX6_readHeir 78 = .ok (.iastore, 1) := by decide +kernel
theorem dX6_readHeir_79 : decode cX6_readHeir 79 = .ok (.aload_n 0, 1) := by decide +kernel
theorem dX6_readHeir_80 : decode cX6_readHeir 80 = .ok (.dup, 1) := by decide +kernel
theorem dX6_readHeir_81 : decode cX6_readHeir 81 = .ok (.getfield 122, 3) := by decide +kernel
theorem dX6_readHeir_84 : decode cX6_readHeir 84 = .ok (.iconst 1, 1) := by decide +kernel
theorem dX6_readHeir_85 : decode cX6_readHeir 85 = .ok (.iadd, 1) := by decide +kernel
theorem dX6_readHeir_86 : decode cX6_readHeir 86 = .ok (.putfield 122, 3) := by decide +kernel
theorem dX6_readHeir_89 : decode cX6_readHeir 89 = .ok (.return_, 1) := by decide +kernel
theorem dX6_readMore_0 : decode cX6_readMore 0 = .ok (.iload_n 1, 1) := by decide +kernel
theorem dX6_readMore_1 : decode cX6_readMore 1 = .ok (.iconst 3, 1) := by decide +kernel
theorem dX6_readMore_2 : decode cX6_readMore 2 = .ok (.if_icmp .gt 11, 3) := by decide +kernel
theorem dX6_readMore_5 : decode cX6_readMore 5 = .ok (.aload_n 0, 1) := by decide +kernel
theorem dX6_readMore_6 : decode cX6_readMore 6 = .ok (.iload_n 1, 1) := by decide +kernel
theorem dX6_readMore_7 : decode cX6_readMore 7 = .ok (.invokevirtual 125, 3) := by decide +kernel
theorem dX6_readMore_10 : decode cX6_readMore 10 = .ok (.goto 128, 3) := by decide +kernel
theorem dX6_readMore_13 : decode cX6_readMore 13 = .ok (.iload_n 1, 1) := by decide +kernel
theorem dX6_readMore_14 : decode cX6_readMore 14 = .ok (.iconst 4, 1) := by decide +kernel
theorem dX6_readMore_15 : decode cX6_readMore 15 = .ok (.if_icmp .ne 10, 3) := by decide +kernel
theorem dX6_readMore_18 : decode cX6_readMore 18 = .ok (.aload_n 0, 1) := by decide +kernel
theorem dX6_readMore_19 : decode cX6_readMore 19 = .ok (.invokevirtual 128, 3) := by decide +kernel
theorem dX6_readMore_22 : decode cX6_readMore 22 = .ok (.goto 116, 3) := by decide +kernel
theorem dX6_readMore_25 : decode cX6_readMore 25 = .ok (.iload_n 1, 1) := by decide +kernel
theorem dX6_readMore_26 : decode cX6_readMore 26 = .ok (.iconst 5, 1) := by decide +kernel
theorem dX6_readMore_27 : decode cX6_readMore 27 = .ok (.if_icmp .ne 48, 3) := by decide +kernel
theorem dX6_readMore_30 : decode cX6_readMore 30 = .ok (.aload_n 0, 1) := by decide +kernel
theorem dX6_readMore_31 : decode cX6_readMore 31 = .ok (.iconst 0, 1) := by decide +kernel
theorem dX6_readMore_32 : decode cX6_readMore 32 = .ok (.bipush 9, 2) := by decide +kernel
theorem dX6_readMore_34 : decode cX6_readMore 34 = .ok (.aload_n 0, 1) := by decide +kernel
theorem dX6_readMore_35 : decode cX6_readMore 35 = .ok (.getfield 131, 3) := by decide +kernel
theorem dX6_readMore_38 : decode cX6_readMore 38 = .ok (.invokevirtual 118, 3) := by decide +kernel
theorem dX6_readMore_41 : decode cX6_readMore 41 = .ok (.istore_n 2, 1) := by decide +kernel
theorem dX6_readMore_42 : decode cX6_readMore 42 = .ok (.aload_n 0, 1) := by decide +kernel
theorem dX6_readMore_43 : decode cX6_readMore 43 = .ok (.dup, 1) := by decide +kernel
theorem dX6_readMore_44 : decode cX6_readMore 44 = .ok (.getfield 131, 3) := by decide +kernel
theorem dX6_readMore_47 : decode cX6_readMore 47 = .ok (.iconst 1, 1) := by decide +kernel
theorem dX6_readMore_48 : decode cX6_readMore 48 = .ok (.iload_n 2, 1) := by decide +kernel
theorem dX6_readMore_49 : decode cX6_readMore 49 = .ok (.ishl, 1) := by decide +kernel
theorem dX6_readMore_50 : decode cX6_readMore 50 = .ok (.ior, 1) := by decide +kernel
theorem dX6_readMore_51 : decode cX6_readMore 51 = .ok (.putfield 131, 3) := by decide +kernel
theorem dX6_readMore_54 : decode cX6_readMore 54 = .ok (.aload_n 0, 1) := by decide +kernel
theorem dX6_readMore_55 : decode cX6_readMore 55 = .ok (.getfield 16, 3) := by decide +kernel
theorem dX6_readMore_58 : decode cX6_readMore 58 = .ok (.bipush 37, 2) := by decide +kernel
theorem dX6_readMore_60 : decode cX6_readMore 60 = .ok (.iload_n 2, 1) := by decide +kernel
theorem dX6_readMore_61 : decode cX6_readMore 61 = .ok (.iadd, 1) := by decide +kernel
theorem dX6_readMore_62 : decode cX6_readMore 62 = .ok (.aload_n 0, 1) := by decide +kernel
theorem dX6_readMore_63 : decode cX6_readMore 63 = .ok (.iconst 0, 1) := by decide +kernel
theorem dX6_readMore_64 : decode cX6_readMore 64 = .ok (.iconst 4, 1) := by decide +kernel
theorem dX6_readMore_65 : decode cX6_readMore 65 = .ok (.iconst 0, 1) := by decide +kernel
theorem dX6_readMore_66 : decode cX6_readMore 66 = .ok (.invokevirtual 118, 3) := by decide +kernel
theorem dX6_readMore_69 : decode cX6_readMore 69 = .ok (.iconst 2, 1) := by decide +kernel
theorem dX6_readMore_70 : decode cX6_readMore 70 = .ok (.isub, 1) := by decide +kernel
theorem dX6_readMore_71 : decode cX6_readMore 71 = .ok (.iastore, 1) := by decide +kernel
theorem dX6_readMore_72 : decode cX6_readMore 72 = .ok (.goto 66, 3) := by decide +kernel
theorem dX6_readMore_75 : decode cX6_readMore 75 = .ok (.iload_n 1, 1) := by decide +kernel
theorem dX6_readMore_76 : decode cX6_readMore 76 = .ok (.bipush 6, 2) := by decide +kernel
theorem dX6_readMore_78 : decode cX6_readMore 78 = .ok (.if_icmp .ne 46, 3) := by decide +kernel
theorem dX6_readMore_81 : decode cX6_readMore 81 = .ok (.aload_n 0, 1) := by decide +kernel
theorem dX6_readMore_82 : decode cX6_readMore 82 = .ok (.iconst 0, 1) := by decide +kernel
theorem dX6_readMore_83 : decode cX6_readMore 83 = .ok (.bipush 23, 2) := by decide +kernel
theorem dX6_readMore_85 : decode cX6_readMore 85 = .ok (.aload_n 0, 1) := by decide +kernel
theorem dX6_readMore_86 : decode cX6_readMore 86 = .ok (.getfield 134, 3) := by decide +kernel
theorem dX6_readMore_89 : decode cX6_readMore 89 = .ok (.invokevirtual 118, 3) := by decide +kernel
theorem dX6_readMore_92 : decode cX6_readMore 92 = .ok (.istore_n 2, 1) := by decide +kernel
theorem dX6_readMore_93 : decode cX6_readMore 93 = .ok (.aload_n 0, 1) := by decide +kernel
theorem dX6_readMore_94 : decode cX6_readMore 94 = .ok (.dup, 1) := by decide +kernel
theorem dX6_readMore_95 : decode cX6_readMore 95 = .ok (.getfield 134, 3) := by decide +kernel
theorem dX6_readMore_98 : decode cX6_readMore 98 = .ok (.iconst 1, 1) := by decide +kernel
theorem dX6_readMore_99 : decode cX6_readMore 99 = .ok (.iload_n 2, 1) := by decide +kernel
theorem dX6_readMore_100 : decode cX6_readMore 100 = .ok (.ishl, 1) := by decide +kernel
theorem dX6_readMore_101 : decode cX6_readMore 101 = .ok (.ior, 1) := by decide +kernel
theorem dX6_readMore_102 : decode cX6_readMore 102 = .ok (.putfield 134, 3) := by decide +kernel
theorem dX6_readMore_105 : decode cX6_readMore 105 = .ok (.aload_n 0, 1) := by decide +kernel
theorem dX6_readMore_106 : decode cX6_readMore 106 = .ok (.getfield 16, 3) := by decide +kernel
theorem dX6_readMore_109 : decode cX6_readMore 109 = .ok (.bipush 47, 2) := by decide +kernel
theorem dX6_readMore_111 : decode cX6_readMore 111 = .ok (.iload_n 2, 1) := by decide +kernel
theorem dX6_readMore_112 : decode cX6_readMore 112 = .ok (.iadd, 1) := by decide +kernel
theorem dX6_readMore_113 : decode cX6_readMore 113 = .ok (.aload_n 0, 1) := by decide +kernel
theorem dX6_readMore_114 : decode cX6_readMore 114 = .ok (.iconst 0, 1) := by decide +kernel
theorem dX6_readMore_115 : decode cX6_readMore 115 = .ok (.iconst 4, 1) := by decide +kernel
theorem dX6_readMore_116 : decode cX6_readMore 116 = .ok (.iconst 0, 1) := by decide +kernel
theorem dX6_readMore_117 : decode cX6_readMore 117 = .ok (.invokevirtual 118, 3) := by decide +kernel
theorem dX6_readMore_120 : decode cX6_readMore 120 = .ok (.iastore, 1) := by decide +kernel
theorem dX6_readMore_121 : decode cX6_readMore 121 = .ok (.goto 17, 3) := by decide +kernel
theorem dX6_readMore_124 : decode cX6_readMore 124 = .ok (.aload_n 0, 1) := by decide +kernel
theorem dX6_readMore_125 : decode cX6_readMore 125 = .ok (.getfield 16, 3) := by decide +kernel
theorem dX6_readMore_128 : decode cX6_readMore 128 = .ok (.bipush 71, 2) := by decide +kernel
theorem dX6_readMore_130 : decode cX6_readMore 130 = .ok (.aload_n 0, 1) := by decide +kernel
theorem dX6_readMore_131 : decode cX6_readMore 131 = .ok (.iconst 0, 1) := by decide +kernel
theorem dX6_readMore_132 : decode cX6_readMore 132 = .ok (.iconst 5, 1) := by decide +kernel
theorem dX6_readMore_133 : decode cX6_readMore 133 = .ok (.iconst 0, 1) := by decide +kernel
theorem dX6_readMore_134 : decode cX6_readMore 134 = .ok (.invokevirtual 118, 3) := by decide +kernel
theorem dX6_readMore_137 : decode cX6_readMore 137 = .ok (.iastore, 1) := by decide +kernel
theorem dX6_readMore_138 : decode cX6_readMore 138 = .ok (.return_, 1) := by decide +kernel
theorem dX6_readLine_0 : decode cX6_readLine 0 = .ok (.aload_n 0, 1) := by decide +kernel
theorem dX6_readLine_1 : decode cX6_readLine 1 = .ok (.invokevirtual 137, 3) := by decide +kernel
theorem dX6_readLine_4 : decode cX6_readLine 4 = .ok (.istore_n 1, 1) := by decide +kernel
theorem dX6_readLine_5 : decode cX6_readLine 5 = .ok (.iload_n 1, 1) := by decide +kernel
theorem dX6_readLine_6 : decode cX6_readLine 6 = .ok (.i2l, 1) := by decide +kernel
theorem dX6_readLine_7 : decode cX6_readLine 7 = .ok (.lconst 0, 1) := by decide +kernel
theorem dX6_readLine_8 : decode cX6_readLine 8 = .ok (.ldc2_w 141, 3) := by decide +kernel
theorem dX6_readLine_11 : decode cX6_readLine 11 = .ok (.invokestatic 73, 3) := by decide +kernel
theorem dX6_readLine_14 : decode cX6_readLine 14 = .ok (.ifCond .ne 9, 3) := by decide +kernel
theorem dX6_readLine_17 : decode cX6_readLine 17 = .ok (.aload_n 0, 1) := by decide +kernel
theorem dX6_readLine_18 : decode cX6_readLine 18 = .ok (.iconst 2, 1) := by decide +kernel
theorem dX6_readLine_19 : decode cX6_readLine 19 = .ok (.invokevirtual 111, 3) := by decide +kernel
theorem dX6_readLine_22 : decode cX6_readLine 22 = .ok (.return_, 1) := by decide +kernel
theorem dX6_readLine_23 : decode cX6_readLine 23 = .ok (.iload_n 1, 1) := by decide +kernel
theorem dX6_readLine_24 : decode cX6_readLine 24 = .ok (.iconst 3, 1) := by decide +kernel
theorem dX6_readLine_25 : decode cX6_readLine 25 = .ok (.if_icmp .gt 14, 3) := by decide +kernel
theorem dX6_readLine_28 : decode cX6_readLine 28 = .ok (.aload_n 0, 1) := by decide +kernel
theorem dX6_readLine_29 : decode cX6_readLine 29 = .ok (.getfield 16, 3) := by decide +kernel
theorem dX6_readLine_32 : decode cX6_readLine 32 = .ok (.bipush 20, 2) := by decide +kernel
theorem dX6_readLine_34 : decode cX6_readLine 34 = .ok (.iaload, 1) := by decide +kernel
theorem dX6_readLine_35 : decode cX6_readLine 35 = .ok (.iconst 4, 1) := by decide +kernel
theorem dX6_readLine_36 : decode cX6_readLine 36 = .ok (.if_icmp .eq 16, 3) := by decide +kernel
theorem dX6_readLine_39 : decode cX6_readLine 39 = .ok (.iload_n 1, 1) := by decide +kernel
theorem dX6_readLine_40 : decode cX6_readLine 40 = .ok (.iconst 4, 1) := by decide +kernel
theorem dX6_readLine_41 : decode cX6_readLine 41 = .ok (.if_icmp .ne 16, 3) := by decide +kernel
theorem dX6_readLine_44 : decode cX6_readLine 44 = .ok (.aload_n 0, 1) := by decide +kernel
theorem dX6_readLine_45 : decode cX6_readLine 45 = .ok (.getfield 122, 3) := by decide +kernel
theorem dX6_readLine_48 : decode cX6_readLine 48 = .ok (.iconst 4, 1) := by decide +kernel
theorem dX6_readLine_49 : decode cX6_readLine 49 = .ok (.if_icmp .ne 8, 3) := by decide +kernel
theorem dX6_readLine_52 : decode cX6_readLine 52 = .ok (.aload_n 0, 1) := by decide +kernel
theorem dX6_readLine_53 : decode cX6_readLine 53 = .ok (.iconst 5, 1) := by decide +kernel
theorem dX6_readLine_54 : decode cX6_readLine 54 = .ok (.invokevirtual 111, 3) := by decide +kernel
theorem dX6_readLine_57 : decode cX6_readLine 57 = .ok (.iload_n 1, 1) := by decide +kernel
theorem dX6_readLine_58 : decode cX6_readLine 58 = .ok (.bipush 7, 2) := by decide +kernel
theorem dX6_readLine_60 : decode cX6_readLine 60 = .ok (.if_icmp .ne 15, 3) := by decide +kernel
theorem dX6_readLine_63 : decode cX6_readLine 63 = .ok (.aload_n 0, 1) := by decide +kernel
theorem dX6_readLine_64 : decode cX6_readLine 64 = .ok (.getfield 143, 3) := by decide +kernel
theorem dX6_readLine_67 : decode cX6_readLine 67 = .ok (.ifCond .eq 8, 3) := by decide +kernel
theorem dX6_readLine_70 : decode cX6_readLine 70 = .ok (.aload_n 0, 1) := by decide +kernel
theorem dX6_readLine_71 : decode cX6_readLine 71 = .ok (.iconst 4, 1) := by decide +kernel
theorem dX6_readLine_72 : decode cX6_readLine 72 = .ok (.invokevirtual 111, 3) := by decide +kernel
theorem dX6_readLine_75 : decode cX6_readLine 75 = .ok (.aload_n 0, 1) := by decide +kernel
theorem dX6_readLine_76 : decode cX6_readLine 76 = .ok (.aload_n 0, 1) := by decide +kernel
theorem dX6_readLine_77 : decode cX6_readLine 77 = .ok (.getfield 143, 3) := by decide +kernel
theorem dX6_readLine_80 : decode cX6_readLine 80 = .ok (.ifCond .ne 9, 3) := by decide +kernel
theorem dX6_readLine_83 : decode cX6_readLine 83 = .ok (.iload_n 1, 1) := by decide +kernel
theorem dX6_readLine_84 : decode cX6_readLine 84 = .ok (.bipush 7, 2) := by decide +kernel
theorem dX6_readLine_86 : decode cX6_readLine 86 = .ok (.if_icmp .ne 7, 3) := by decide +kernel
theorem dX6_readLine_89 : decode cX6_readLine 89 = .ok (.iconst 1, 1) := by decide +kernel
theorem dX6_readLine_90 : decode cX6_readLine 90 = .ok (.goto 4, 3) := by decide +kernel
theorem dX6_readLine_93 : decode cX6_readLine 93 = .ok (.iconst 0, 1) := by decide +kernel
theorem dX6_readLine_94 : decode cX6_readLine 94 = .ok (.putfield 143, 3) := by decide +kernel
theorem dX6_readLine_97 : decode cX6_readLine 97 = .ok (.aload_n 0, 1) := by decide +kernel
theorem dX6_readLine_98 : decode cX6_readLine 98 = .ok (.invokevirtual 115, 3) := by decide +kernel
theorem dX6_readLine_101 : decode cX6_readLine 101 = .ok (.aload_n 0, 1) := by decide +kernel
theorem dX6_readLine_102 : decode cX6_readLine 102 = .ok (.getfield 81, 3) := by decide +kernel
theorem dX6_readLine_105 : decode cX6_readLine 105 = .ok (.ifCond .le 4, 3) := by decide +kernel
theorem dX6_readLine_108 : decode cX6_readLine 108 = .ok (.return_, 1) := by decide +kernel
theorem dX6_readLine_109 : decode cX6_readLine 109 = .ok (.aload_n 0, 1) := by decide +kernel
theorem dX6_readLine_110 : decode cX6_readLine 110 = .ok (.iload_n 1, 1) := by decide +kernel
theorem dX6_readLine_111 : decode cX6_readLine 111 = .ok (.invokevirtual 147, 3) := by decide +kernel
theorem dX6_readLine_114 : decode cX6_readLine 114 = .ok (.aload_n 0, 1) := by decide +kernel
theorem dX6_readLine_115 : decode cX6_readLine 115 = .ok (.getfield 81, 3) := by decide +kernel
theorem dX6_readLine_118 : decode cX6_readLine 118 = .ok (.ifCond .ne 16, 3) := by decide +kernel
theorem dX6_readLine_121 : decode cX6_readLine 121 = .ok (.aload_n 0, 1) := by decide +kernel
theorem dX6_readLine_122 : decode cX6_readLine 122 = .ok (.getfield 90, 3) := by decide +kernel
theorem dX6_readLine_125 : decode cX6_readLine 125 = .ok (.iconst 3, 1) := by decide +kernel
theorem dX6_readLine_126 : decode cX6_readLine 126 = .ok (.if_icmp .eq 8, 3) := by decide +kernel
theorem dX6_readLine_129 : decode cX6_readLine 129 = .ok (.aload_n 0, 1) := by decide +kernel
theorem dX6_readLine_130 : decode cX6_readLine 130 = .ok (.iconst 2, 1) := by decide +kernel
theorem dX6_readLine_131 : decode cX6_readLine 131 = .ok (.invokevirtual 111, 3) := by decide +kernel
theorem dX6_readLine_134 : decode cX6_readLine 134 = .ok (.aload_n 0, 1) := by decide +kernel
theorem dX6_readLine_135 : decode cX6_readLine 135 = .ok (.invokevirtual 115, 3) := by decide +kernel
theorem dX6_readLine_138 : decode cX6_readLine 138 = .ok (.return_, 1) := by decide +kernel
theorem dX6_text_0 : decode cX6_text 0 = .ok (.aload_n 0, 1) := by decide +kernel
theorem dX6_text_1 : decode cX6_text 1 = .ok (.iconst 0, 1) := by decide +kernel
theorem dX6_text_2 : decode cX6_text 2 = .ok (.putfield 81, 3) := by decide +kernel
theorem dX6_text_5 : decode cX6_text 5 = .ok (.aload_n 0, 1) := by decide +kernel
theorem dX6_text_6 : decode cX6_text 6 = .ok (.iconst 0, 1) := by decide +kernel
theorem dX6_text_7 : decode cX6_text 7 = .ok (.putfield 93, 3) := by decide +kernel
theorem dX6_text_10 : decode cX6_text 10 = .ok (.aload_n 0, 1) := by decide +kernel
theorem dX6_text_11 : decode cX6_text 11 = .ok (.iconst 0, 1) := by decide +kernel
theorem dX6_text_12 : decode cX6_text 12 = .ok (.putfield 122, 3) := by decide +kernel
theorem dX6_text_15 : decode cX6_text 15 = .ok (.aload_n 0, 1) := by decide +kernel
theorem dX6_text_16 : decode cX6_text 16 = .ok (.iconst 0, 1) := by decide +kernel
theorem dX6_text_17 : decode cX6_text 17 = .ok (.putfield 131, 3) := by decide +kernel
theorem dX6_text_20 : decode cX6_text 20 = .ok (.aload_n 0, 1) := by decide +kernel
theorem dX6_text_21 : decode cX6_text 21 = .ok (.iconst 0, 1) := by decide +kernel
theorem dX6_text_22 : decode cX6_text 22 = .ok (.putfield 134, 3) := by decide +kernel
theorem dX6_text_25 : decode cX6_text 25 = .ok (.aload_n 0, 1) := by decide +kernel
theorem dX6_text_26 : decode cX6_text 26 = .ok (.iconst 0, 1) := by decide +kernel
theorem dX6_text_27 : decode cX6_text 27 = .ok (.putfield 143, 3) := by decide +kernel
theorem dX6_text_30 : decode cX6_text 30 = .ok (.iconst 0, 1) := by decide +kernel
theorem dX6_text_31 : decode cX6_text 31 = .ok (.istore_n 1, 1) := by decide +kernel
theorem dX6_text_32 : decode cX6_text 32 = .ok (.iconst 0, 1) := by decide +kernel
theorem dX6_text_33 : decode cX6_text 33 = .ok (.istore_n 2, 1) := by decide +kernel
theorem dX6_text_34 : decode cX6_text 34 = .ok (.iload_n 2, 1) := by decide +kernel
theorem dX6_text_35 : decode cX6_text 35 = .ok (.bipush 72, 2) := by decide +kernel
theorem dX6_text_37 : decode cX6_text 37 = .ok (.if_icmp .ge 16, 3) := by decide +kernel
theorem dX6_text_40 : decode cX6_text 40 = .ok (.aload_n 0, 1) := by decide +kernel
theorem dX6_text_41 : decode cX6_text 41 = .ok (.getfield 16, 3) := by decide +kernel
theorem dX6_text_44 : decode cX6_text 44 = .ok (.iload_n 2, 1) := by decide +kernel
theorem dX6_text_45 : decode cX6_text 45 = .ok (.iconst 0, 1) := by decide +kernel
theorem dX6_text_46 : decode cX6_text 46 = .ok (.iastore, 1) := by decide +kernel
theorem dX6_text_47 : decode cX6_text 47 = .ok (.iinc 2 1, 3) := by decide +kernel
theorem dX6_text_50 : decode cX6_text 50 = .ok (.goto (-16), 3) := by decide +kernel
theorem dX6_text_53 : decode cX6_text 53 = .ok (.aload_n 0, 1) := by decide +kernel
theorem dX6_text_54 : decode cX6_text 54 = .ok (.invokevirtual 115, 3) := by decide +kernel
theorem dX6_text_57 : decode cX6_text 57 = .ok (.aload_n 0, 1) := by decide +kernel
theorem dX6_text_58 : decode cX6_text 58 = .ok (.getfield 81, 3) := by decide +kernel
theorem dX6_text_61 : decode cX6_text 61 = .ok (.ifCond .ne 20, 3) := by decide +kernel
theorem dX6_text_64 : decode cX6_text 64 = .ok (.aload_n 0, 1) := by decide +kernel
theorem dX6_text_65 : decode cX6_text 65 = .ok (.getfield 90, 3) := by decide +kernel
theorem dX6_text_68 : decode cX6_text 68 = .ok (.ifCond .eq 13, 3) := by decide +kernel
theorem dX6_text_71 : decode cX6_text 71 = .ok (.aload_n 0, 1) := by decide +kernel
theorem dX6_text_72 : decode cX6_text 72 = .ok (.invokevirtual 150, 3) := by decide +kernel
theorem dX6_text_75 : decode cX6_text 75 = .ok (.iinc 1 1, 3) := by decide +kernel
theorem dX6_text_78 : decode cX6_text 78 = .ok (.goto (-21), 3) := by decide +kernel
theorem dX6_text_81 : decode cX6_text 81 = .ok (.aload_n 0, 1) := by decide +kernel
theorem dX6_text_82 : decode cX6_text 82 = .ok (.iconst 0, 1) := by decide +kernel
theorem dX6_text_83 : decode cX6_text 83 = .ok (.putfield 77, 3) := by decide +kernel
theorem dX6_text_86 : decode cX6_text 86 = .ok (.aload_n 0, 1) := by decide +kernel
theorem dX6_text_87 : decode cX6_text 87 = .ok (.aload_n 0, 1) := by decide +kernel
theorem dX6_text_88 : decode cX6_text 88 = .ok (.getfield 81, 3) := by decide +kernel
theorem dX6_text_91 : decode cX6_text 91 = .ok (.putfield 153, 3) := by decide +kernel
theorem dX6_text_94 : decode cX6_text 94 = .ok (.aload_n 0, 1) := by decide +kernel
theorem dX6_text_95 : decode cX6_text 95 = .ok (.getfield 81, 3) := by decide +kernel
theorem dX6_text_98 : decode cX6_text 98 = .ok (.ifCond .le 11, 3) := by decide +kernel
theorem dX6_text_101 : decode cX6_text 101 = .ok (.bipush (-10), 2) := by decide +kernel
theorem dX6_text_103 : decode cX6_text 103 = .ok (.aload_n 0, 1) := by decide +kernel
theorem dX6_text_104 : decode cX6_text 104 = .ok (.getfield 87, 3) := by decide +kernel
theorem dX6_text_107 : decode cX6_text 107 = .ok (.isub, 1) := by decide +kernel
theorem dX6_text_108 : decode cX6_text 108 = .ok (.ireturn, 1) := by decide +kernel
theorem dX6_text_109 : decode cX6_text 109 = .ok (.iconst 0, 1) := by decide +kernel
theorem dX6_text_110 : decode cX6_text 110 = .ok (.istore_n 2, 1) := by decide +kernel
theorem dX6_text_111 : decode cX6_text 111 = .ok (.iload_n 2, 1) := by decide +kernel
theorem dX6_text_112 : decode cX6_text 112 = .ok (.bipush 72, 2) := by decide +kernel
theorem dX6_text_114 : decode cX6_text 114 = .ok (.if_icmp .ge 21, 3) := by decide +kernel
theorem dX6_text_117 : decode cX6_text 117 = .ok (.aload_n 0, 1) := by decide +kernel
theorem dX6_text_118 : decode cX6_text 118 = .ok (.getfield 7, 3) := by decide +kernel
theorem dX6_text_121 : decode cX6_text 121 = .ok (.iload_n 2, 1) := by decide +kernel
theorem dX6_text_122 : decode cX6_text 122 = .ok (.aload_n 0, 1) := by decide +kernel
theorem dX6_text_123 : decode cX6_text 123 = .ok (.getfield 16, 3) := by decide +kernel
theorem dX6_text_126 : decode cX6_text 126 = .ok (.iload_n 2, 1) := by decide +kernel
theorem dX6_text_127 : decode cX6_text 127 = .ok (.iaload, 1) := by decide +kernel
theorem dX6_text_128 : decode cX6_text 128 = .ok (.iastore, 1) := by decide +kernel
theorem dX6_text_129 : decode cX6_text 129 = .ok (.iinc 2 1, 3) := by decide +kernel
theorem dX6_text_132 : decode cX6_text 132 = .ok (.goto (-21), 3) := by decide +kernel
theorem dX6_text_135 : decode cX6_text 135 = .ok (.aload_n 0, 1) := by decide +kernel
theorem dX6_text_136 : decode cX6_text 136 = .ok (.aload_n 0, 1) := by decide +kernel
theorem dX6_text_137 : decode cX6_text 137 = .ok (.getfield 122, 3) := by decide +kernel
theorem dX6_text_140 : decode cX6_text 140 = .ok (.putfield 156, 3) := by decide +kernel
theorem dX6_text_143 : decode cX6_text 143 = .ok (.aload_n 0, 1) := by decide +kernel
theorem dX6_text_144 : decode cX6_text 144 = .ok (.iconst 0, 1) := by decide +kernel
theorem dX6_text_145 : decode cX6_text 145 = .ok (.putfield 159, 3) := by decide +kernel
theorem dX6_text_148 : decode cX6_text 148 = .ok (.aload_n 0, 1) := by decide +kernel
theorem dX6_text_149 : decode cX6_text 149 = .ok (.getfield 58, 3) := by decide +kernel
theorem dX6_text_152 : decode cX6_text 152 = .ok (.iconst 0, 1) := by decide +kernel
theorem dX6_text_153 : decode cX6_text 153 = .ok (.iconst 0, 1) := by decide +kernel
theorem dX6_text_154 : decode cX6_text 154 = .ok (.bastore, 1) := by decide +kernel
theorem dX6_text_155 : decode cX6_text 155 = .ok (.aload_n 0, 1) := by decide +kernel
theorem dX6_text_156 : decode cX6_text 156 = .ok (.getfield 58, 3) := by decide +kernel
theorem dX6_text_159 : decode cX6_text 159 = .ok (.iconst 1, 1) := by decide +kernel
theorem dX6_text_160 : decode cX6_text 160 = .ok (.iconst 0, 1) := by decide +kernel
theorem dX6_text_161 : decode cX6_text 161 = .ok (.bastore, 1) := by decide +kernel
theorem dX6_text_162 : decode cX6_text 162 = .ok (.iload_n 1, 1) := by decide +kernel
theorem dX6_text_163 : decode cX6_text 163 = .ok (.ireturn, 1) := by decide +kernel
theorem dX6_fault_0 : decode cX6_fault 0 = .ok (.aload_n 0, 1) := by decide +kernel
theorem dX6_fault_1 : decode cX6_fault 1 = .ok (.getfield 153, 3) := by decide +kernel
theorem dX6_fault_4 : decode cX6_fault 4 = .ok (.ireturn, 1) := by decide +kernel
theorem dX6_isTub_0 : decode cX6_isTub 0 = .ok (.iload_n 1, 1) := by decide +kernel
theorem dX6_isTub_1 : decode cX6_isTub 1 = .ok (.i2l, 1) := by decide +kernel
theorem dX6_isTub_2 : decode cX6_isTub 2 = .ok (.lconst 0, 1) := by decide +kernel
theorem dX6_isTub_3 : decode cX6_isTub 3 = .ok (.aload_n 0, 1) := by decide +kernel
theorem dX6_isTub_4 : decode cX6_isTub 4 = .ok (.getfield 7, 3) := by decide +kernel
theorem dX6_isTub_7 : decode cX6_isTub 7 = .ok (.bipush 20, 2) := by decide +kernel
theorem dX6_isTub_9 : decode cX6_isTub 9 = .ok (.iaload, 1) := by decide +kernel
theorem dX6_isTub_10 : decode cX6_isTub 10 = .ok (.iconst 1, 1) := by decide +kernel
theorem dX6_isTub_11 : decode cX6_isTub 11 = .ok (.isub, 1) := by decide +kernel
theorem dX6_isTub_12 : decode cX6_isTub 12 = .ok (.i2l, 1) := by decide +kernel
theorem dX6_isTub_13 : decode cX6_isTub 13 = .ok (.invokestatic 73, 3) := by decide +kernel
theorem dX6_isTub_16 : decode cX6_isTub 16 = .ok (.ireturn, 1) := by decide +kernel
theorem dX6_isHeir_0 : decode cX6_isHeir 0 = .ok (.iload_n 1, 1) := by decide +kernel
theorem dX6_isHeir_1 : decode cX6_isHeir 1 = .ok (.i2l, 1) := by decide +kernel
theorem dX6_isHeir_2 : decode cX6_isHeir 2 = .ok (.lconst 0, 1) := by decide +kernel
theorem dX6_isHeir_3 : decode cX6_isHeir 3 = .ok (.aload_n 0, 1) := by decide +kernel
theorem dX6_isHeir_4 : decode cX6_isHeir 4 = .ok (.getfield 156, 3) := by decide +kernel
theorem dX6_isHeir_7 : decode cX6_isHeir 7 = .ok (.iconst 1, 1) := by decide +kernel
theorem dX6_isHeir_8 : decode cX6_isHeir 8 = .ok (.isub, 1) := by decide +kernel
theorem dX6_isHeir_9 : decode cX6_isHeir 9 = .ok (.i2l, 1) := by decide +kernel
theorem dX6_isHeir_10 : decode cX6_isHeir 10 = .ok (.invokestatic 73, 3) := by decide +kernel
theorem dX6_isHeir_13 : decode cX6_isHeir 13 = .ok (.ireturn, 1) := by decide +kernel
theorem dX6_isHour_0 : decode cX6_isHour 0 = .ok (.iload_n 0, 1) := by decide +kernel
theorem dX6_isHour_1 : decode cX6_isHour 1 = .ok (.i2l, 1) := by decide +kernel
theorem dX6_isHour_2 : decode cX6_isHour 2 = .ok (.lconst 0, 1) := by decide +kernel
theorem dX6_isHour_3 : decode cX6_isHour 3 = .ok (.ldc2_w 162, 3) := by decide +kernel
theorem dX6_isHour_6 : decode cX6_isHour 6 = .ok (.invokestatic 73, 3) := by decide +kernel
theorem dX6_isHour_9 : decode cX6_isHour 9 = .ok (.ireturn, 1) := by decide +kernel
theorem dX6_estates_0 : decode cX6_estates 0 = .ok (.iconst 0, 1) := by decide +kernel
theorem dX6_estates_1 : decode cX6_estates 1 = .ok (.istore_n 1, 1) := by decide +kernel
theorem dX6_estates_2 : decode cX6_estates 2 = .ok (.iconst 0, 1) := by decide +kernel
theorem dX6_estates_3 : decode cX6_estates 3 = .ok (.istore_n 2, 1) := by decide +kernel
theorem dX6_estates_4 : decode cX6_estates 4 = .ok (.iload_n 2, 1) := by decide +kernel
theorem dX6_estates_5 : decode cX6_estates 5 = .ok (.aload_n 0, 1) := by decide +kernel
theorem dX6_estates_6 : decode cX6_estates 6 = .ok (.getfield 7, 3) := by decide +kernel
theorem dX6_estates_9 : decode cX6_estates 9 = .ok (.bipush 20, 2) := by decide +kernel
theorem dX6_estates_11 : decode cX6_estates 11 = .ok (.iaload, 1) := by decide +kernel
theorem dX6_estates_12 : decode cX6_estates 12 = .ok (.if_icmp .ge 21, 3) := by decide +kernel
theorem dX6_estates_15 : decode cX6_estates 15 = .ok (.iload_n 1, 1) := by decide +kernel
theorem dX6_estates_16 : decode cX6_estates 16 = .ok (.aload_n 0, 1) := by decide +kernel
theorem dX6_estates_17 : decode cX6_estates 17 = .ok (.getfield 7, 3) := by decide +kernel
theorem dX6_estates_20 : decode cX6_estates 20 = .ok (.bipush 16, 2) := by decide +kernel
theorem dX6_estates_22 : decode cX6_estates 22 = .ok (.iload_n 2, 1) := by decide +kernel
theorem dX6_estates_23 : decode cX6_estates 23 = .ok (.iadd, 1) := by decide +kernel
theorem dX6_estates_24 : decode cX6_estates 24 = .ok (.iaload, 1) := by decide +kernel
theorem dX6_estates_25 : decode cX6_estates 25 = .ok (.iadd, 1) := by decide +kernel
theorem dX6_estates_26 : decode cX6_estates 26 = .ok (.istore_n 1, 1) := by decide +kernel
theorem dX6_estates_27 : decode cX6_estates 27 = .ok (.iinc 2 1, 3) := by decide +kernel
theorem dX6_estates_30 : decode cX6_estates 30 = .ok (.goto (-26), 3) := by decide +kernel
theorem dX6_estates_33 : decode cX6_estates 33 = .ok (.iload_n 1, 1) := by decide +kernel
theorem dX6_estates_34 : decode cX6_estates 34 = .ok (.ireturn, 1) := by decide +kernel
theorem dX6_windyHours_0 : decode cX6_windyHours 0 = .ok (.iconst 0, 1) := by decide +kernel
theorem dX6_windyHours_1 : decode cX6_windyHours 1 = .ok (.istore_n 1, 1) := by decide +kernel
theorem dX6_windyHours_2 : decode cX6_windyHours 2 = .ok (.iconst 0, 1) := by decide +kernel
theorem dX6_windyHours_3 : decode cX6_windyHours 3 = .ok (.istore_n 2, 1) := by decide +kernel
theorem dX6_windyHours_4 : decode cX6_windyHours 4 = .ok (.iload_n 2, 1) := by decide +kernel
theorem dX6_windyHours_5 : decode cX6_windyHours 5 = .ok (.bipush 24, 2) := by decide +kernel
theorem dX6_windyHours_7 : decode cX6_windyHours 7 = .ok (.if_icmp .ge 31, 3) := by decide +kernel
theorem dX6_windyHours_10 : decode cX6_windyHours 10 = .ok (.iload_n 1, 1) := by decide +kernel
theorem dX6_windyHours_11 : decode cX6_windyHours 11 = .ok (.aload_n 0, 1) := by decide +kernel
theorem dX6_windyHours_12 : decode cX6_windyHours 12 = .ok (.getfield 7, 3) := by decide +kernel
theorem dX6_windyHours_15 : decode cX6_windyHours 15 = .ok (.bipush 47, 2) := by decide +kernel
theorem dX6_windyHours_17 : decode cX6_windyHours 17 = .ok (.iload_n 2, 1) := by decide +kernel
theorem dX6_windyHours_18 : decode cX6_windyHours 18 = .ok (.iadd, 1) := by decide +kernel
theorem dX6_windyHours_19 : decode cX6_windyHours 19 = .ok (.iaload, 1) := by decide +kernel
theorem dX6_windyHours_20 : decode cX6_windyHours 20 = .ok (.ifCond .le 9, 3) := by decide +kernel
theorem dX6_windyHours_23 : decode cX6_windyHours 23 = .ok (.iconst 1, 1) := by decide +kernel
theorem dX6_windyHours_24 : decode cX6_windyHours 24 = .ok (.iload_n 2, 1) := by decide +kernel
theorem dX6_windyHours_25 : decode cX6_windyHours 25 = .ok (.ishl, 1) := by decide +kernel
theorem dX6_windyHours_26 : decode cX6_windyHours 26 = .ok (.goto 4, 3) := by decide +kernel
theorem dX6_windyHours_29 : decode cX6_windyHours 29 = .ok (.iconst 0, 1) := by decide +kernel
theorem dX6_windyHours_30 : decode cX6_windyHours 30 = .ok (.ior, 1) := by decide +kernel
theorem dX6_windyHours_31 : decode cX6_windyHours 31 = .ok (.istore_n 1, 1) := by decide +kernel
theorem dX6_windyHours_32 : decode cX6_windyHours 32 = .ok (.iinc 2 1, 3) := by decide +kernel
theorem dX6_windyHours_35 : decode cX6_windyHours 35 = .ok (.goto (-31), 3) := by decide +kernel
theorem dX6_windyHours_38 : decode cX6_windyHours 38 = .ok (.iload_n 1, 1) := by decide +kernel
theorem dX6_windyHours_39 : decode cX6_windyHours 39 = .ok (.ireturn, 1) := by decide +kernel
theorem dX6_bitsOf_0 : decode cX6_bitsOf 0 = .ok (.iconst 0, 1) := by decide +kernel
theorem dX6_bitsOf_1 : decode cX6_bitsOf 1 = .ok (.istore_n 1, 1) := by decide +kernel
theorem dX6_bitsOf_2 : decode cX6_bitsOf 2 = .ok (.iload_n 0, 1) := by decide +kernel
theorem dX6_bitsOf_3 : decode cX6_bitsOf 3 = .ok (.istore_n 2, 1) := by decide +kernel
theorem dX6_bitsOf_4 : decode cX6_bitsOf 4 = .ok (.iload_n 2, 1) := by decide +kernel
theorem dX6_bitsOf_5 : decode cX6_bitsOf 5 = .ok (.ifCond .le 16, 3) := by decide +kernel
theorem dX6_bitsOf_8 : decode cX6_bitsOf 8 = .ok (.iload_n 1, 1) := by decide +kernel
theorem dX6_bitsOf_9 : decode cX6_bitsOf 9 = .ok (.iload_n 2, 1) := by decide +kernel
theorem dX6_bitsOf_10 : decode cX6_bitsOf 10 = .ok (.iconst 1, 1) := by decide +kernel
theorem dX6_bitsOf_11 : decode cX6_bitsOf 11 = .ok (.iand, 1) := by decide +kernel
theorem dX6_bitsOf_12 : decode cX6_bitsOf 12 = .ok (.iadd, 1) := by decide +kernel
theorem dX6_bitsOf_13 : decode cX6_bitsOf 13 = .ok (.istore_n 1, 1) := by decide +kernel
theorem dX6_bitsOf_14 : decode cX6_bitsOf 14 = .ok (.iload_n 2, 1) := by decide +kernel
theorem dX6_bitsOf_15 : decode cX6_bitsOf 15 = .ok (.iconst 1, 1) := by decide +kernel
theorem dX6_bitsOf_16 : decode cX6_bitsOf 16 = .ok (.ishr, 1) := by decide +kernel
theorem dX6_bitsOf_17 : decode cX6_bitsOf 17 = .ok (.istore_n 2, 1) := by decide +kernel
theorem dX6_bitsOf_18 : decode cX6_bitsOf 18 = .ok (.goto (-14), 3) := by decide +kernel
theorem dX6_bitsOf_21 : decode cX6_bitsOf 21 = .ok (.iload_n 1, 1) := by decide +kernel
theorem dX6_bitsOf_22 : decode cX6_bitsOf 22 = .ok (.ireturn, 1) := by decide +kernel
theorem dX6_rule_0 : decode cX6_rule 0 = .ok (.iload_n 1, 1) := by decide +kernel
theorem dX6_rule_1 : decode cX6_rule 1 = .ok (.tableswitch 69 0 4 #[35, 43, 48, 56, 61], 35) := by decide +kernel
theorem dX6_rule_36 : decode cX6_rule 36 = .ok (.aload_n 0, 1) := by decide +kernel
theorem dX6_rule_37 : decode cX6_rule 37 = .ok (.getfield 7, 3) := by decide +kernel
theorem dX6_rule_40 : decode cX6_rule 40 = .ok (.bipush 20, 2) := by decide +kernel
theorem dX6_rule_42 : decode cX6_rule 42 = .ok (.iaload, 1) := by decide +kernel
theorem dX6_rule_43 : decode cX6_rule 43 = .ok (.ireturn, 1) := by decide +kernel
theorem dX6_rule_44 : decode cX6_rule 44 = .ok (.aload_n 0, 1) := by decide +kernel
theorem dX6_rule_45 : decode cX6_rule 45 = .ok (.getfield 156, 3) := by decide +kernel
theorem dX6_rule_48 : decode cX6_rule 48 = .ok (.ireturn, 1) := by decide +kernel
theorem dX6_rule_49 : decode cX6_rule 49 = .ok (.aload_n 0, 1) := by decide +kernel
theorem dX6_rule_50 : decode cX6_rule 50 = .ok (.getfield 7, 3) := by decide +kernel
theorem dX6_rule_53 : decode cX6_rule 53 = .ok (.bipush 71, 2) := by decide +kernel
theorem dX6_rule_55 : decode cX6_rule 55 = .ok (.iaload, 1) := by decide +kernel
theorem dX6_rule_56 : decode cX6_rule 56 = .ok (.ireturn, 1) := by decide +kernel
theorem dX6_rule_57 : decode cX6_rule 57 = .ok (.aload_n 0, 1) := by decide +kernel
theorem dX6_rule_58 : decode cX6_rule 58 = .ok (.invokevirtual 164, 3) := by decide +kernel
theorem dX6_rule_61 : decode cX6_rule 61 = .ok (.ireturn, 1) := by decide +kernel
theorem dX6_rule_62 : decode cX6_rule 62 = .ok (.aload_n 0, 1) := by decide +kernel
theorem dX6_rule_63 : decode cX6_rule 63 = .ok (.invokevirtual 167, 3) := by decide +kernel
theorem dX6_rule_66 : decode cX6_rule 66 = .ok (.invokestatic 170, 3) := by decide +kernel
theorem dX6_rule_69 : decode cX6_rule 69 = .ok (.ireturn, 1) := by decide +kernel
theorem dX6_rule_70 : decode cX6_rule 70 = .ok (.iconst (-1), 1) := by decide +kernel
theorem dX6_rule_71 : decode cX6_rule 71 = .ok (.ireturn, 1) := by decide +kernel
theorem dX6_tub_0 : decode cX6_tub 0 = .ok (.aload_n 0, 1) := by decide +kernel
theorem dX6_tub_1 : decode cX6_tub 1 = .ok (.iload_n 1, 1) := by decide +kernel
theorem dX6_tub_2 : decode cX6_tub 2 = .ok (.invokevirtual 173, 3) := by decide +kernel
theorem dX6_tub_5 : decode cX6_tub 5 = .ok (.ifCond .eq 15, 3) := by decide +kernel
theorem dX6_tub_8 : decode cX6_tub 8 = .ok (.iload_n 2, 1) := by decide +kernel
theorem dX6_tub_9 : decode cX6_tub 9 = .ok (.i2l, 1) := by decide +kernel
theorem dX6_tub_10 : decode cX6_tub 10 = .ok (.lconst 0, 1) := by decide +kernel
theorem dX6_tub_11 : decode cX6_tub 11 = .ok (.ldc2_w 177, 3) := by decide +kernel
theorem dX6_tub_14 : decode cX6_tub 14 = .ok (.invokestatic 73, 3) := by decide +kernel
theorem dX6_tub_17 : decode cX6_tub 17 = .ok (.ifCond .ne 7, 3) := by decide +kernel
theorem dX6_tub_20 : decode cX6_tub 20 = .ok (.iconst (-1), 1) := by decide +kernel
theorem dX6_tub_21 : decode cX6_tub 21 = .ok (.goto 32, 3) := by decide +kernel
theorem dX6_tub_24 : decode cX6_tub 24 = .ok (.iload_n 2, 1) := by decide +kernel
theorem dX6_tub_25 : decode cX6_tub 25 = .ok (.iconst 5, 1) := by decide +kernel
theorem dX6_tub_26 : decode cX6_tub 26 = .ok (.if_icmp .ne 17, 3) := by decide +kernel
theorem dX6_tub_29 : decode cX6_tub 29 = .ok (.aload_n 0, 1) := by decide +kernel
theorem dX6_tub_30 : decode cX6_tub 30 = .ok (.getfield 13, 3) := by decide +kernel
theorem dX6_tub_33 : decode cX6_tub 33 = .ok (.aload_n 0, 1) := by decide +kernel
theorem dX6_tub_34 : decode cX6_tub 34 = .ok (.getfield 7, 3) := by decide +kernel
theorem dX6_tub_37 : decode cX6_tub 37 = .ok (.iload_n 1, 1) := by decide +kernel
theorem dX6_tub_38 : decode cX6_tub 38 = .ok (.iaload, 1) := by decide +kernel
theorem dX6_tub_39 : decode cX6_tub 39 = .ok (.iaload, 1) := by decide +kernel
theorem dX6_tub_40 : decode cX6_tub 40 = .ok (.goto 13, 3) := by decide +kernel
theorem dX6_tub_43 : decode cX6_tub 43 = .ok (.aload_n 0, 1) := by decide +kernel
theorem dX6_tub_44 : decode cX6_tub 44 = .ok (.getfield 7, 3) := by decide +kernel
theorem dX6_tub_47 : decode cX6_tub 47 = .ok (.iconst 4, 1) := by decide +kernel
theorem dX6_tub_48 : decode cX6_tub 48 = .ok (.iload_n 2, 1) := by decide +kernel
theorem dX6_tub_49 : decode cX6_tub 49 = .ok (.imul, 1) := by decide +kernel
theorem dX6_tub_50 : decode cX6_tub 50 = .ok (.iload_n 1, 1) := by decide +kernel
theorem dX6_tub_51 : decode cX6_tub 51 = .ok (.iadd, 1) := by decide +kernel
theorem dX6_tub_52 : decode cX6_tub 52 = .ok (.iaload, 1) := by decide +kernel
theorem dX6_tub_53 : decode cX6_tub 53 = .ok (.ireturn, 1) := by decide +kernel
theorem dX6_heir_0 : decode cX6_heir 0 = .ok (.aload_n 0, 1) := by decide +kernel
theorem dX6_heir_1 : decode cX6_heir 1 = .ok (.iload_n 1, 1) := by decide +kernel
theorem dX6_heir_2 : decode cX6_heir 2 = .ok (.invokevirtual 179, 3) := by decide +kernel
theorem dX6_heir_5 : decode cX6_heir 5 = .ok (.ifCond .eq 31, 3) := by decide +kernel
theorem dX6_heir_8 : decode cX6_heir 8 = .ok (.iload_n 2, 1) := by decide +kernel
theorem dX6_heir_9 : decode cX6_heir 9 = .ok (.i2l, 1) := by decide +kernel
theorem dX6_heir_10 : decode cX6_heir 10 = .ok (.lconst 0, 1) := by decide +kernel
theorem dX6_heir_11 : decode cX6_heir 11 = .ok (.ldc2_w 182, 3) := by decide +kernel
theorem dX6_heir_14 : decode cX6_heir 14 = .ok (.invokestatic 73, 3) := by decide +kernel
theorem dX6_heir_17 : decode cX6_heir 17 = .ok (.ifCond .eq 19, 3) := by decide +kernel
theorem dX6_heir_20 : decode cX6_heir 20 = .ok (.aload_n 0, 1) := by decide +kernel
theorem dX6_heir_21 : decode cX6_heir 21 = .ok (.getfield 7, 3) := by decide +kernel
theorem dX6_heir_24 : decode cX6_heir 24 = .ok (.bipush 21, 2) := by decide +kernel
theorem dX6_heir_26 : decode cX6_heir 26 = .ok (.iconst 4, 1) := by decide +kernel
theorem dX6_heir_27 : decode cX6_heir 27 = .ok (.iload_n 1, 1) := by decide +kernel
theorem dX6_heir_28 : decode cX6_heir 28 = .ok (.imul, 1) := by decide +kernel
theorem dX6_heir_29 : decode cX6_heir 29 = .ok (.iadd, 1) := by decide +kernel
theorem dX6_heir_30 : decode cX6_heir 30 = .ok (.iload_n 2, 1) := by decide +kernel
theorem dX6_heir_31 : decode cX6_heir 31 = .ok (.iadd, 1) := by decide +kernel
theorem dX6_heir_32 : decode cX6_heir 32 = .ok (.iaload, 1) := by decide +kernel
theorem dX6_heir_33 : decode cX6_heir 33 = .ok (.goto 4, 3) := by decide +kernel
theorem dX6_heir_36 : decode cX6_heir 36 = .ok (.iconst (-1), 1) := by decide +kernel
theorem dX6_heir_37 : decode cX6_heir 37 = .ok (.ireturn, 1) := by decide +kernel
theorem dX6_current_0 : decode cX6_current 0 = .ok (.iload_n 1, 1) := by decide +kernel
theorem dX6_current_1 : decode cX6_current 1 = .ok (.i2l, 1) := by decide +kernel
theorem dX6_current_2 : decode cX6_current 2 = .ok (.lconst 0, 1) := by decide +kernel
theorem dX6_current_3 : decode cX6_current 3 = .ok (.ldc2_w 184, 3) := by decide +kernel
theorem dX6_current_6 : decode cX6_current 6 = .ok (.invokestatic 73, 3) := by decide +kernel
theorem dX6_current_9 : decode cX6_current 9 = .ok (.ifCond .eq 17, 3) := by decide +kernel
theorem dX6_current_12 : decode cX6_current 12 = .ok (.aload_n 0, 1) := by decide +kernel
theorem dX6_current_13 : decode cX6_current 13 = .ok (.getfield 7, 3) := by decide +kernel
theorem dX6_current_16 : decode cX6_current 16 = .ok (.bipush 37, 2) := by decide +kernel
theorem dX6_current_18 : decode cX6_current 18 = .ok (.iload_n 1, 1) := by decide +kernel
theorem dX6_current_19 : decode cX6_current 19 = .ok (.iadd, 1) := by decide +kernel
theorem dX6_current_20 : decode cX6_current 20 = .ok (.iaload, 1) := by decide +kernel
theorem dX6_current_21 : decode cX6_current 21 = .ok (.iconst 2, 1) := by decide +kernel
theorem dX6_current_22 : decode cX6_current 22 = .ok (.iadd, 1) := by decide +kernel
theorem dX6_current_23 : decode cX6_current 23 = .ok (.goto 4, 3) := by decide +kernel
theorem dX6_current_26 : decode cX6_current 26 = .ok (.iconst (-1), 1) := by decide +kernel
theorem dX6_current_27 : decode cX6_current 27 = .ok (.ireturn, 1) := by decide +kernel
theorem dX6_wind_0 : decode cX6_wind 0 = .ok (.iload_n 1, 1) := by decide +kernel
theorem dX6_wind_1 : decode cX6_wind 1 = .ok (.invokestatic 186, 3) := by decide +kernel
theorem dX6_wind_4 : decode cX6_wind 4 = .ok (.ifCond .eq 15, 3) := by decide +kernel
theorem dX6_wind_7 : decode cX6_wind 7 = .ok (.aload_n 0, 1) := by decide +kernel
theorem dX6_wind_8 : decode cX6_wind 8 = .ok (.getfield 7, 3) := by decide +kernel
theorem dX6_wind_11 : decode cX6_wind 11 = .ok (.bipush 47, 2) := by decide +kernel
theorem dX6_wind_13 : decode cX6_wind 13 = .ok (.iload_n 1, 1) := by decide +kernel
theorem dX6_wind_14 : decode cX6_wind 14 = .ok (.iadd, 1) := by decide +kernel
theorem dX6_wind_15 : decode cX6_wind 15 = .ok (.iaload, 1) := by decide +kernel
theorem dX6_wind_16 : decode cX6_wind 16 = .ok (.goto 4, 3) := by decide +kernel
theorem dX6_wind_19 : decode cX6_wind 19 = .ok (.iconst (-1), 1) := by decide +kernel
theorem dX6_wind_20 : decode cX6_wind 20 = .ok (.ireturn, 1) := by decide +kernel
theorem dX6_puts_0 : decode cX6_puts 0 = .ok (.iload_n 1, 1) := by decide +kernel
theorem dX6_puts_1 : decode cX6_puts 1 = .ok (.ifCond .ne 5, 3) := by decide +kernel
theorem dX6_puts_4 : decode cX6_puts 4 = .ok (.iconst (-1), 1) := by decide +kernel
theorem dX6_puts_5 : decode cX6_puts 5 = .ok (.ireturn, 1) := by decide +kernel
theorem dX6_puts_6 : decode cX6_puts 6 = .ok (.aload_n 0, 1) := by decide +kernel
theorem dX6_puts_7 : decode cX6_puts 7 = .ok (.getfield 7, 3) := by decide +kernel
theorem dX6_puts_10 : decode cX6_puts 10 = .ok (.iload_n 2, 1) := by decide +kernel
theorem dX6_puts_11 : decode cX6_puts 11 = .ok (.iaload, 1) := by decide +kernel
theorem dX6_puts_12 : decode cX6_puts 12 = .ok (.iload 4, 2) := by decide +kernel
theorem dX6_puts_14 : decode cX6_puts 14 = .ok (.iadd, 1) := by decide +kernel
theorem dX6_puts_15 : decode cX6_puts 15 = .ok (.istore 5, 2) := by decide +kernel
theorem dX6_puts_17 : decode cX6_puts 17 = .ok (.aload_n 0, 1) := by decide +kernel
theorem dX6_puts_18 : decode cX6_puts 18 = .ok (.getfield 7, 3) := by decide +kernel
theorem dX6_puts_21 : decode cX6_puts 21 = .ok (.iload_n 2, 1) := by decide +kernel
theorem dX6_puts_22 : decode cX6_puts 22 = .ok (.iload_n 3, 1) := by decide +kernel
theorem dX6_puts_23 : decode cX6_puts 23 = .ok (.iload 4, 2) := by decide +kernel
theorem dX6_puts_25 : decode cX6_puts 25 = .ok (.isub, 1) := by decide +kernel
theorem dX6_puts_26 : decode cX6_puts 26 = .ok (.iastore, 1) := by decide +kernel
theorem dX6_puts_27 : decode cX6_puts 27 = .ok (.iload 5, 2) := by decide +kernel
theorem dX6_puts_29 : decode cX6_puts 29 = .ok (.ireturn, 1) := by decide +kernel
theorem dX6_alter_0 : decode cX6_alter 0 = .ok (.iload_n 2, 1) := by decide +kernel
theorem dX6_alter_1 : decode cX6_alter 1 = .ok (.iconst 2, 1) := by decide +kernel
theorem dX6_alter_2 : decode cX6_alter 2 = .ok (.if_icmp .eq 8, 3) := by decide +kernel
theorem dX6_alter_5 : decode cX6_alter 5 = .ok (.iload_n 2, 1) := by decide +kernel
theorem dX6_alter_6 : decode cX6_alter 6 = .ok (.iconst 4, 1) := by decide +kernel
theorem dX6_alter_7 : decode cX6_alter 7 = .ok (.if_icmp .ne 7, 3) := by decide +kernel
theorem dX6_alter_10 : decode cX6_alter 10 = .ok (.iconst 1, 1) := by decide +kernel
theorem dX6_alter_11 : decode cX6_alter 11 = .ok (.goto 4, 3) := by decide +kernel
theorem dX6_alter_14 : decode cX6_alter 14 = .ok (.iconst 0, 1) := by decide +kernel
theorem dX6_alter_15 : decode cX6_alter 15 = .ok (.istore 4, 2) := by decide +kernel
theorem dX6_alter_17 : decode cX6_alter 17 = .ok (.iload_n 2, 1) := by decide +kernel
theorem dX6_alter_18 : decode cX6_alter 18 = .ok (.ifCond .ne 7, 3) := by decide +kernel
theorem dX6_alter_21 : decode cX6_alter 21 = .ok (.iconst 3, 1) := by decide +kernel
theorem dX6_alter_22 : decode cX6_alter 22 = .ok (.goto 25, 3) := by decide +kernel
theorem dX6_alter_25 : decode cX6_alter 25 = .ok (.iload_n 2, 1) := by decide +kernel
theorem dX6_alter_26 : decode cX6_alter 26 = .ok (.iconst 3, 1) := by decide +kernel
theorem dX6_alter_27 : decode cX6_alter 27 = .ok (.if_icmp .ge 8, 3) := by decide +kernel
theorem dX6_alter_30 : decode cX6_alter 30 = .ok (.bipush 9, 2) := by decide +kernel
theorem dX6_alter_32 : decode cX6_alter 32 = .ok (.goto 15, 3) := by decide +kernel
theorem dX6_alter_35 : decode cX6_alter 35 = .ok (.iload_n 2, 1) := by decide +kernel
theorem dX6_alter_36 : decode cX6_alter 36 = .ok (.iconst 3, 1) := by decide +kernel
theorem dX6_alter_37 : decode cX6_alter 37 = .ok (.if_icmp .ne 8, 3) := by decide +kernel
theorem dX6_alter_40 : decode cX6_alter 40 = .ok (.bipush 23, 2) := by decide +kernel
theorem dX6_alter_42 : decode cX6_alter 42 = .ok (.goto 5, 3) := by decide +kernel
theorem dX6_alter_45 : decode cX6_alter 45 = .ok (.bipush 99, 2) := by decide +kernel
theorem dX6_alter_47 : decode cX6_alter 47 = .ok (.istore 5, 2) := by decide +kernel
theorem dX6_alter_49 : decode cX6_alter 49 = .ok (.aload_n 0, 1) := by decide +kernel
theorem dX6_alter_50 : decode cX6_alter 50 = .ok (.aload_n 0, 1) := by decide +kernel
theorem dX6_alter_51 : decode cX6_alter 51 = .ok (.iload_n 1, 1) := by decide +kernel
theorem dX6_alter_52 : decode cX6_alter 52 = .ok (.invokevirtual 173, 3) := by decide +kernel
theorem dX6_alter_55 : decode cX6_alter 55 = .ok (.ifCond .eq 33, 3) := by decide +kernel
theorem dX6_alter_58 : decode cX6_alter 58 = .ok (.iload_n 2, 1) := by decide +kernel
theorem dX6_alter_59 : decode cX6_alter 59 = .ok (.i2l, 1) := by decide +kernel
theorem dX6_alter_60 : decode cX6_alter 60 = .ok (.lconst 0, 1) := by decide +kernel
theorem dX6_alter_61 : decode cX6_alter 61 = .ok (.ldc2_w 189, 3) := by decide +kernel
theorem dX6_alter_64 : decode cX6_alter 64 = .ok (.invokestatic 73, 3) := by decide +kernel
theorem dX6_alter_67 : decode cX6_alter 67 = .ok (.ifCond .eq 21, 3) := by decide +kernel
theorem dX6_alter_70 : decode cX6_alter 70 = .ok (.iload_n 3, 1) := by decide +kernel
theorem dX6_alter_71 : decode cX6_alter 71 = .ok (.i2l, 1) := by decide +kernel
theorem dX6_alter_72 : decode cX6_alter 72 = .ok (.iload 4, 2) := by decide +kernel
theorem dX6_alter_74 : decode cX6_alter 74 = .ok (.i2l, 1) := by decide +kernel
theorem dX6_alter_75 : decode cX6_alter 75 = .ok (.iload 5, 2) := by decide +kernel
theorem dX6_alter_77 : decode cX6_alter 77 = .ok (.i2l, 1) := by decide +kernel
theorem dX6_alter_78 : decode cX6_alter 78 = .ok (.invokestatic 73, 3) := by decide +kernel
theorem dX6_alter_81 : decode cX6_alter 81 = .ok (.ifCond .eq 7, 3) := by decide +kernel
theorem dX6_alter_84 : decode cX6_alter 84 = .ok (.iconst 1, 1) := by decide +kernel
theorem dX6_alter_85 : decode cX6_alter 85 = .ok (.goto 4, 3) := by decide +kernel
theorem dX6_alter_88 : decode cX6_alter 88 = .ok (.iconst 0, 1) := by decide +kernel
theorem dX6_alter_89 : decode cX6_alter 89 = .ok (.iconst 4, 1) := by decide +kernel
theorem dX6_alter_90 : decode cX6_alter 90 = .ok (.iload_n 2, 1) := by decide +kernel
theorem dX6_alter_91 : decode cX6_alter 91 = .ok (.imul, 1) := by decide +kernel
theorem dX6_alter_92 : decode cX6_alter 92 = .ok (.iload_n 1, 1) := by decide +kernel
theorem dX6_alter_93 : decode cX6_alter 93 = .ok (.iadd, 1) := by decide +kernel
theorem dX6_alter_94 : decode cX6_alter 94 = .ok (.iload_n 3, 1) := by decide +kernel
theorem dX6_alter_95 : decode cX6_alter 95 = .ok (.iconst 0, 1) := by decide +kernel
theorem dX6_alter_96 : decode cX6_alter 96 = .ok (.invokevirtual 191, 3) := by decide +kernel
theorem dX6_alter_99 : decode cX6_alter 99 = .ok (.ireturn, 1) := by decide +kernel
theorem dX6_stand_0 : decode cX6_stand 0 = .ok (.aload_n 0, 1) := by decide +kernel
theorem dX6_stand_1 : decode cX6_stand 1 = .ok (.iload_n 1, 1) := by decide +kernel
theorem dX6_stand_2 : decode cX6_stand 2 = .ok (.invokevirtual 179, 3) := by decide +kernel
theorem dX6_stand_5 : decode cX6_stand 5 = .ok (.ifCond .eq 15, 3) := by decide +kernel
theorem dX6_stand_8 : decode cX6_stand 8 = .ok (.iload_n 2, 1) := by decide +kernel
theorem dX6_stand_9 : decode cX6_stand 9 = .ok (.i2l, 1) := by decide +kernel
theorem dX6_stand_10 : decode cX6_stand 10 = .ok (.lconst 0, 1) := by decide +kernel
theorem dX6_stand_11 : decode cX6_stand 11 = .ok (.ldc2_w 182, 3) := by decide +kernel
theorem dX6_stand_14 : decode cX6_stand 14 = .ok (.invokestatic 73, 3) := by decide +kernel
theorem dX6_stand_17 : decode cX6_stand 17 = .ok (.ifCond .ne 5, 3) := by decide +kernel
theorem dX6_stand_20 : decode cX6_stand 20 = .ok (.iconst (-1), 1) := by decide +kernel
theorem dX6_stand_21 : decode cX6_stand 21 = .ok (.ireturn, 1) := by decide +kernel
theorem dX6_stand_22 : decode cX6_stand 22 = .ok (.bipush 21, 2) := by decide +kernel
theorem dX6_stand_24 : decode cX6_stand 24 = .ok (.iconst 4, 1) := by decide +kernel
theorem dX6_stand_25 : decode cX6_stand 25 = .ok (.iload_n 1, 1) := by decide +kernel
theorem dX6_stand_26 : decode cX6_stand 26 = .ok (.imul, 1) := by decide +kernel
theorem dX6_stand_27 : decode cX6_stand 27 = .ok (.iadd, 1) := by decide +kernel
theorem dX6_stand_28 : decode cX6_stand 28 = .ok (.istore 4, 2) := by decide +kernel
theorem dX6_stand_30 : decode cX6_stand 30 = .ok (.iload_n 2, 1) := by decide +kernel
theorem dX6_stand_31 : decode cX6_stand 31 = .ok (.iconst 2, 1) := by decide +kernel
theorem dX6_stand_32 : decode cX6_stand 32 = .ok (.if_icmp .ne 15, 3) := by decide +kernel
theorem dX6_stand_35 : decode cX6_stand 35 = .ok (.aload_n 0, 1) := by decide +kernel
theorem dX6_stand_36 : decode cX6_stand 36 = .ok (.getfield 7, 3) := by decide +kernel
theorem dX6_stand_39 : decode cX6_stand 39 = .ok (.iload 4, 2) := by decide +kernel
theorem dX6_stand_41 : decode cX6_stand 41 = .ok (.iconst 1, 1) := by decide +kernel
theorem dX6_stand_42 : decode cX6_stand 42 = .ok (.iadd, 1) := by decide +kernel
theorem dX6_stand_43 : decode cX6_stand 43 = .ok (.iaload, 1) := by decide +kernel
theorem dX6_stand_44 : decode cX6_stand 44 = .ok (.goto 4, 3) := by decide +kernel
theorem dX6_stand_47 : decode cX6_stand 47 = .ok (.iconst 0, 1) := by decide +kernel
theorem dX6_stand_48 : decode cX6_stand 48 = .ok (.istore 5, 2) := by decide +kernel
theorem dX6_stand_50 : decode cX6_stand 50 = .ok (.iload_n 2, 1) := by decide +kernel
theorem dX6_stand_51 : decode cX6_stand 51 = .ok (.iconst 1, 1) := by decide +kernel
theorem dX6_stand_52 : decode cX6_stand 52 = .ok (.if_icmp .ne 15, 3) := by decide +kernel
theorem dX6_stand_55 : decode cX6_stand 55 = .ok (.aload_n 0, 1) := by decide +kernel
theorem dX6_stand_56 : decode cX6_stand 56 = .ok (.getfield 7, 3) := by decide +kernel
theorem dX6_stand_59 : decode cX6_stand 59 = .ok (.iload 4, 2) := by decide +kernel
theorem dX6_stand_61 : decode cX6_stand 61 = .ok (.iconst 2, 1) := by decide +kernel
theorem dX6_stand_62 : decode cX6_stand 62 = .ok (.iadd, 1) := by decide +kernel
theorem dX6_stand_63 : decode cX6_stand 63 = .ok (.iaload, 1) := by decide +kernel
theorem dX6_stand_64 : decode cX6_stand 64 = .ok (.goto 15, 3) := by decide +kernel
theorem dX6_stand_67 : decode cX6_stand 67 = .ok (.iload_n 2, 1) := by decide +kernel
theorem dX6_stand_68 : decode cX6_stand 68 = .ok (.iconst 2, 1) := by decide +kernel
theorem dX6_stand_69 : decode cX6_stand 69 = .ok (.if_icmp .ne 8, 3) := by decide +kernel
theorem dX6_stand_72 : decode cX6_stand 72 = .ok (.bipush 23, 2) := by decide +kernel
theorem dX6_stand_74 : decode cX6_stand 74 = .ok (.goto 5, 3) := by decide +kernel
theorem dX6_stand_77 : decode cX6_stand 77 = .ok (.bipush 9, 2) := by decide +kernel
theorem dX6_stand_79 : decode cX6_stand 79 = .ok (.istore 6, 2) := by decide +kernel
theorem dX6_stand_81 : decode cX6_stand 81 = .ok (.aload_n 0, 1) := by decide +kernel
theorem dX6_stand_82 : decode cX6_stand 82 = .ok (.iload_n 3, 1) := by decide +kernel
theorem dX6_stand_83 : decode cX6_stand 83 = .ok (.i2l, 1) := by decide +kernel
theorem dX6_stand_84 : decode cX6_stand 84 = .ok (.iload 5, 2) := by decide +kernel
theorem dX6_stand_86 : decode cX6_stand 86 = .ok (.i2l, 1) := by decide +kernel
theorem dX6_stand_87 : decode cX6_stand 87 = .ok (.iload 6, 2) := by decide +kernel
theorem dX6_stand_89 : decode cX6_stand 89 = .ok (.i2l, 1) := by decide +kernel
theorem dX6_stand_90 : decode cX6_stand 90 = .ok (.invokestatic 73, 3) := by decide +kernel
theorem dX6_stand_93 : decode cX6_stand 93 = .ok (.iload 4, 2) := by decide +kernel
theorem dX6_stand_95 : decode cX6_stand 95 = .ok (.iload_n 2, 1) := by decide +kernel
theorem dX6_stand_96 : decode cX6_stand 96 = .ok (.iadd, 1) := by decide +kernel
theorem dX6_stand_97 : decode cX6_stand 97 = .ok (.iload_n 3, 1) := by decide +kernel
theorem dX6_stand_98 : decode cX6_stand 98 = .ok (.iconst 0, 1) := by decide +kernel
theorem dX6_stand_99 : decode cX6_stand 99 = .ok (.invokevirtual 191, 3) := by decide +kernel
theorem dX6_stand_102 : decode cX6_stand 102 = .ok (.ireturn, 1) := by decide +kernel
theorem dX6_set_0 : decode cX6_set 0 = .ok (.aload_n 0, 1) := by decide +kernel
theorem dX6_set_1 : decode cX6_set 1 = .ok (.iload_n 1, 1) := by decide +kernel
theorem dX6_set_2 : decode cX6_set 2 = .ok (.i2l, 1) := by decide +kernel
theorem dX6_set_3 : decode cX6_set 3 = .ok (.lconst 0, 1) := by decide +kernel
theorem dX6_set_4 : decode cX6_set 4 = .ok (.ldc2_w 184, 3) := by decide +kernel
theorem dX6_set_7 : decode cX6_set 7 = .ok (.invokestatic 73, 3) := by decide +kernel
theorem dX6_set_10 : decode cX6_set 10 = .ok (.ifCond .eq 19, 3) := by decide +kernel
theorem dX6_set_13 : decode cX6_set 13 = .ok (.iload_n 2, 1) := by decide +kernel
theorem dX6_set_14 : decode cX6_set 14 = .ok (.i2l, 1) := by decide +kernel
theorem dX6_set_15 : decode cX6_set 15 = .ok (.lconst 0, 1) := by decide +kernel
theorem dX6_set_16 : decode cX6_set 16 = .ok (.ldc2_w 189, 3) := by decide +kernel
theorem dX6_set_19 : decode cX6_set 19 = .ok (.invokestatic 73, 3) := by decide +kernel
theorem dX6_set_22 : decode cX6_set 22 = .ok (.ifCond .eq 7, 3) := by decide +kernel
theorem dX6_set_25 : decode cX6_set 25 = .ok (.iconst 1, 1) := by decide +kernel
theorem dX6_set_26 : decode cX6_set 26 = .ok (.goto 4, 3) := by decide +kernel
theorem dX6_set_29 : decode cX6_set 29 = .ok (.iconst 0, 1) := by decide +kernel
theorem dX6_set_30 : decode cX6_set 30 = .ok (.bipush 37, 2) := by decide +kernel
theorem dX6_set_32 : decode cX6_set 32 = .ok (.iload_n 1, 1) := by decide +kernel
theorem dX6_set_33 : decode cX6_set 33 = .ok (.iadd, 1) := by decide +kernel
theorem dX6_set_34 : decode cX6_set 34 = .ok (.iload_n 2, 1) := by decide +kernel
theorem dX6_set_35 : decode cX6_set 35 = .ok (.iconst 2, 1) := by decide +kernel
theorem dX6_set_36 : decode cX6_set 36 = .ok (.invokevirtual 191, 3) := by decide +kernel
theorem dX6_set_39 : decode cX6_set 39 = .ok (.ireturn, 1) := by decide +kernel
theorem dX6_blow_0 : decode cX6_blow 0 = .ok (.aload_n 0, 1) := by decide +kernel
theorem dX6_blow_1 : decode cX6_blow 1 = .ok (.iload_n 1, 1) := by decide +kernel
theorem dX6_blow_2 : decode cX6_blow 2 = .ok (.invokestatic 186, 3) := by decide +kernel
theorem dX6_blow_5 : decode cX6_blow 5 = .ok (.ifCond .eq 19, 3) := by decide +kernel
theorem dX6_blow_8 : decode cX6_blow 8 = .ok (.iload_n 2, 1) := by decide +kernel
theorem dX6_blow_9 : decode cX6_blow 9 = .ok (.i2l, 1) := by decide +kernel
theorem dX6_blow_10 : decode cX6_blow 10 = .ok (.lconst 0, 1) := by decide +kernel
theorem dX6_blow_11 : decode cX6_blow 11 = .ok (.ldc2_w 189, 3) := by decide +kernel
theorem dX6_blow_14 : decode cX6_blow 14 = .ok (.invokestatic 73, 3) := by decide +kernel
theorem dX6_blow_17 : decode cX6_blow 17 = .ok (.ifCond .eq 7, 3) := by decide +kernel
theorem dX6_blow_20 : decode cX6_blow 20 = .ok (.iconst 1, 1) := by decide +kernel
theorem dX6_blow_21 : decode cX6_blow 21 = .ok (.goto 4, 3) := by decide +kernel
theorem dX6_blow_24 : decode cX6_blow 24 = .ok (.iconst 0, 1) := by decide +kernel
theorem dX6_blow_25 : decode cX6_blow 25 = .ok (.bipush 47, 2) := by decide +kernel
theorem dX6_blow_27 : decode cX6_blow 27 = .ok (.iload_n 1, 1) := by decide +kernel
theorem dX6_blow_28 : decode cX6_blow 28 = .ok (.iadd, 1) := by decide +kernel
theorem dX6_blow_29 : decode cX6_blow 29 = .ok (.iload_n 2, 1) := by decide +kernel
theorem dX6_blow_30 : decode cX6_blow 30 = .ok (.iconst 0, 1) := by decide +kernel
theorem dX6_blow_31 : decode cX6_blow 31 = .ok (.invokevirtual 191, 3) := by decide +kernel
theorem dX6_blow_34 : decode cX6_blow 34 = .ok (.ireturn, 1) := by decide +kernel
theorem dX6_phase_0 : decode cX6_phase 0 = .ok (.aload_n 0, 1) := by decide +kernel
theorem dX6_phase_1 : decode cX6_phase 1 = .ok (.iload_n 1, 1) := by decide +kernel
theorem dX6_phase_2 : decode cX6_phase 2 = .ok (.i2l, 1) := by decide +kernel
theorem dX6_phase_3 : decode cX6_phase 3 = .ok (.lconst 0, 1) := by decide +kernel
theorem dX6_phase_4 : decode cX6_phase 4 = .ok (.ldc2_w 177, 3) := by decide +kernel
theorem dX6_phase_7 : decode cX6_phase 7 = .ok (.invokestatic 73, 3) := by decide +kernel
theorem dX6_phase_10 : decode cX6_phase 10 = .ok (.bipush 71, 2) := by decide +kernel
theorem dX6_phase_12 : decode cX6_phase 12 = .ok (.iload_n 1, 1) := by decide +kernel
theorem dX6_phase_13 : decode cX6_phase 13 = .ok (.iconst 0, 1) := by decide +kernel
theorem dX6_phase_14 : decode cX6_phase 14 = .ok (.invokevirtual 191, 3) := by decide +kernel
theorem dX6_phase_17 : decode cX6_phase 17 = .ok (.ireturn, 1) := by decide +kernel
theorem dX6_casts_0 : decode cX6_casts 0 = .ok (.iload_n 1, 1) := by decide +kernel
theorem dX6_casts_1 : decode cX6_casts 1 = .ok (.i2l, 1) := by decide +kernel
theorem dX6_casts_2 : decode cX6_casts 2 = .ok (.lconst 0, 1) := by decide +kernel
theorem dX6_casts_3 : decode cX6_casts 3 = .ok (.ldc2_w 184, 3) := by decide +kernel
theorem dX6_casts_6 : decode cX6_casts 6 = .ok (.invokestatic 73, 3) := by decide +kernel
theorem dX6_casts_9 : decode cX6_casts 9 = .ok (.ifCond .eq 22, 3) := by decide +kernel
theorem dX6_casts_12 : decode cX6_casts 12 = .ok (.iload_n 2, 1) := by decide +kernel
theorem dX6_casts_13 : decode cX6_casts 13 = .ok (.i2l, 1) := by decide +kernel
theorem dX6_casts_14 : decode cX6_casts 14 = .ok (.lconst 1, 1) := by decide +kernel
theorem dX6_casts_15 : decode cX6_casts 15 = .ok (.ldc2_w 184, 3) := by decide +kernel
theorem dX6_casts_18 : decode cX6_casts 18 = .ok (.invokestatic 73, 3) := by decide +kernel
theorem dX6_casts_21 : decode cX6_casts 21 = .ok (.ifCond .eq 10, 3) := by decide +kernel
theorem dX6_casts_24 : decode cX6_casts 24 = .ok (.iload_n 3, 1) := by decide +kernel
theorem dX6_casts_25 : decode cX6_casts 25 = .ok (.invokestatic 186, 3) := by decide +kernel
theorem dX6_casts_28 : decode cX6_casts 28 = .ok (.ifCond .ne 5, 3) := by decide +kernel
theorem dX6_casts_31 : decode cX6_casts 31 = .ok (.iconst (-1), 1) := by decide +kernel
theorem dX6_casts_32 : decode cX6_casts 32 = .ok (.ireturn, 1) := by decide +kernel
theorem dX6_casts_33 : decode cX6_casts 33 = .ok (.aload_n 0, 1) := by decide +kernel
theorem dX6_casts_34 : decode cX6_casts 34 = .ok (.getfield 7, 3) := by decide +kernel
theorem dX6_casts_37 : decode cX6_casts 37 = .ok (.bipush 20, 2) := by decide +kernel
theorem dX6_casts_39 : decode cX6_casts 39 = .ok (.iaload, 1) := by decide +kernel
theorem dX6_casts_40 : decode cX6_casts 40 = .ok (.istore 4, 2) := by decide +kernel
theorem dX6_casts_42 : decode cX6_casts 42 = .ok (.iload 4, 2) := by decide +kernel
theorem dX6_casts_44 : decode cX6_casts 44 = .ok (.iconst 4, 1) := by decide +kernel
theorem dX6_casts_45 : decode cX6_casts 45 = .ok (.if_icmp .ne 6, 3) := by decide +kernel
theorem dX6_casts_48 : decode cX6_casts 48 = .ok (.bipush (-3), 2) := by decide +kernel
theorem dX6_casts_50 : decode cX6_casts 50 = .ok (.ireturn, 1) := by decide +kernel
theorem dX6_casts_51 : decode cX6_casts 51 = .ok (.aload_n 0, 1) := by decide +kernel
theorem dX6_casts_52 : decode cX6_casts 52 = .ok (.getfield 7, 3) := by decide +kernel
theorem dX6_casts_55 : decode cX6_casts 55 = .ok (.iload 4, 2) := by decide +kernel
theorem dX6_casts_57 : decode cX6_casts 57 = .ok (.iconst 0, 1) := by decide +kernel
theorem dX6_casts_58 : decode cX6_casts 58 = .ok (.iastore, 1) := by decide +kernel
theorem dX6_casts_59 : decode cX6_casts 59 = .ok (.aload_n 0, 1) := by decide +kernel
theorem dX6_casts_60 : decode cX6_casts 60 = .ok (.getfield 7, 3) := by decide +kernel
theorem dX6_casts_63 : decode cX6_casts 63 = .ok (.iconst 4, 1) := by decide +kernel
theorem dX6_casts_64 : decode cX6_casts 64 = .ok (.iload 4, 2) := by decide +kernel
theorem dX6_casts_66 : decode cX6_casts 66 = .ok (.iadd, 1) := by decide +kernel
theorem dX6_casts_67 : decode cX6_casts 67 = .ok (.iload_n 1, 1) := by decide +kernel
theorem dX6_casts_68 : decode cX6_casts 68 = .ok (.iastore, 1) := by decide +kernel
theorem dX6_casts_69 : decode cX6_casts 69 = .ok (.aload_n 0, 1) := by decide +kernel
theorem dX6_casts_70 : decode cX6_casts 70 = .ok (.getfield 7, 3) := by decide +kernel
theorem dX6_casts_73 : decode cX6_casts 73 = .ok (.bipush 8, 2) := by decide +kernel
theorem dX6_casts_75 : decode cX6_casts 75 = .ok (.iload 4, 2) := by decide +kernel
theorem dX6_casts_77 : decode cX6_casts 77 = .ok (.iadd, 1) := by decide +kernel
theorem dX6_casts_78 : decode cX6_casts 78 = .ok (.iload_n 2, 1) := by decide +kernel
theorem dX6_casts_79 : decode cX6_casts 79 = .ok (.iastore, 1) := by decide +kernel
theorem dX6_casts_80 : decode cX6_casts 80 = .ok (.aload_n 0, 1) := by decide +kernel
theorem dX6_casts_81 : decode cX6_casts 81 = .ok (.getfield 7, 3) := by decide +kernel
theorem dX6_casts_84 : decode cX6_casts 84 = .ok (.bipush 12, 2) := by decide +kernel
theorem dX6_casts_86 : decode cX6_casts 86 = .ok (.iload 4, 2) := by decide +kernel
theorem dX6_casts_88 : decode cX6_casts 88 = .ok (.iadd, 1) := by decide +kernel
theorem dX6_casts_89 : decode cX6_casts 89 = .ok (.iload_n 3, 1) := by decide +kernel
theorem dX6_casts_90 : decode cX6_casts 90 = .ok (.iastore, 1) := by decide +kernel
theorem dX6_casts_91 : decode cX6_casts 91 = .ok (.aload_n 0, 1) := by decide +kernel
theorem dX6_casts_92 : decode cX6_casts 92 = .ok (.getfield 7, 3) := by decide +kernel
theorem dX6_casts_95 : decode cX6_casts 95 = .ok (.bipush 16, 2) := by decide +kernel
theorem dX6_casts_97 : decode cX6_casts 97 = .ok (.iload 4, 2) := by decide +kernel
theorem dX6_casts_99 : decode cX6_casts 99 = .ok (.iadd, 1) := by decide +kernel
theorem dX6_casts_100 : decode cX6_casts 100 = .ok (.iconst 1, 1) := by decide +kernel
theorem dX6_casts_101 : decode cX6_casts 101 = .ok (.iastore, 1) := by decide +kernel
theorem dX6_casts_102 : decode cX6_casts 102 = .ok (.aload_n 0, 1) := by decide +kernel
theorem dX6_casts_103 : decode cX6_casts 103 = .ok (.getfield 7, 3) := by decide +kernel
theorem dX6_casts_106 : decode cX6_casts 106 = .ok (.bipush 20, 2) := by decide +kernel
theorem dX6_casts_108 : decode cX6_casts 108 = .ok (.dup2, 1) := by decide +kernel
theorem dX6_casts_109 : decode cX6_casts 109 = .ok (.iaload, 1) := by decide +kernel
theorem dX6_casts_110 : decode cX6_casts 110 = .ok (.iconst 1, 1) := by decide +kernel
theorem dX6_casts_111 : decode cX6_casts 111 = .ok (.iadd, 1) := by decide +kernel
theorem dX6_casts_112 : decode cX6_casts 112 = .ok (.iastore, 1) := by decide +kernel
theorem dX6_casts_113 : decode cX6_casts 113 = .ok (.aload_n 0, 1) := by decide +kernel
theorem dX6_casts_114 : decode cX6_casts 114 = .ok (.getfield 7, 3) := by decide +kernel
theorem dX6_casts_117 : decode cX6_casts 117 = .ok (.bipush 20, 2) := by decide +kernel
theorem dX6_casts_119 : decode cX6_casts 119 = .ok (.iaload, 1) := by decide +kernel
theorem dX6_casts_120 : decode cX6_casts 120 = .ok (.ireturn, 1) := by decide +kernel
theorem dX6_cast_0 : decode cX6_cast 0 = .ok (.aload_n 0, 1) := by decide +kernel
theorem dX6_cast_1 : decode cX6_cast 1 = .ok (.iload_n 1, 1) := by decide +kernel
theorem dX6_cast_2 : decode cX6_cast 2 = .ok (.iload_n 2, 1) := by decide +kernel
theorem dX6_cast_3 : decode cX6_cast 3 = .ok (.iload_n 3, 1) := by decide +kernel
theorem dX6_cast_4 : decode cX6_cast 4 = .ok (.invokevirtual 195, 3) := by decide +kernel
theorem dX6_cast_7 : decode cX6_cast 7 = .ok (.ireturn, 1) := by decide +kernel
theorem dX6_sink_0 : decode cX6_sink 0 = .ok (.aload_n 0, 1) := by decide +kernel
theorem dX6_sink_1 : decode cX6_sink 1 = .ok (.iload_n 1, 1) := by decide +kernel
theorem dX6_sink_2 : decode cX6_sink 2 = .ok (.i2l, 1) := by decide +kernel
theorem dX6_sink_3 : decode cX6_sink 3 = .ok (.lconst 0, 1) := by decide +kernel
theorem dX6_sink_4 : decode cX6_sink 4 = .ok (.aload_n 0, 1) := by decide +kernel
theorem dX6_sink_5 : decode cX6_sink 5 = .ok (.getfield 7, 3) := by decide +kernel
theorem dX6_sink_8 : decode cX6_sink 8 = .ok (.bipush 20, 2) := by decide +kernel
theorem dX6_sink_10 : decode cX6_sink 10 = .ok (.iaload, 1) := by decide +kernel
theorem dX6_sink_11 : decode cX6_sink 11 = .ok (.i2l, 1) := by decide +kernel
theorem dX6_sink_12 : decode cX6_sink 12 = .ok (.invokestatic 73, 3) := by decide +kernel
theorem dX6_sink_15 : decode cX6_sink 15 = .ok (.bipush 20, 2) := by decide +kernel
theorem dX6_sink_17 : decode cX6_sink 17 = .ok (.iload_n 1, 1) := by decide +kernel
theorem dX6_sink_18 : decode cX6_sink 18 = .ok (.iconst 0, 1) := by decide +kernel
theorem dX6_sink_19 : decode cX6_sink 19 = .ok (.invokevirtual 191, 3) := by decide +kernel
theorem dX6_sink_22 : decode cX6_sink 22 = .ok (.ireturn, 1) := by decide +kernel
theorem dX6_drifts_0 : decode cX6_drifts 0 = .ok (.aload_n 0, 1) := by decide +kernel
theorem dX6_drifts_1 : decode cX6_drifts 1 = .ok (.getfield 198, 3) := by decide +kernel
theorem dX6_drifts_4 : decode cX6_drifts 4 = .ok (.iload_n 3, 1) := by decide +kernel
theorem dX6_drifts_5 : decode cX6_drifts 5 = .ok (.ishr, 1) := by decide +kernel
theorem dX6_drifts_6 : decode cX6_drifts 6 = .ok (.iconst 1, 1) := by decide +kernel
theorem dX6_drifts_7 : decode cX6_drifts 7 = .ok (.iand, 1) := by decide +kernel
theorem dX6_drifts_8 : decode cX6_drifts 8 = .ok (.iconst 1, 1) := by decide +kernel
theorem dX6_drifts_9 : decode cX6_drifts 9 = .ok (.if_icmp .ne 7, 3) := by decide +kernel
theorem dX6_drifts_12 : decode cX6_drifts 12 = .ok (.iconst 0, 1) := by decide +kernel
theorem dX6_drifts_13 : decode cX6_drifts 13 = .ok (.goto 14, 3) := by decide +kernel
theorem dX6_drifts_16 : decode cX6_drifts 16 = .ok (.aload_n 0, 1) := by decide +kernel
theorem dX6_drifts_17 : decode cX6_drifts 17 = .ok (.getfield 7, 3) := by decide +kernel
theorem dX6_drifts_20 : decode cX6_drifts 20 = .ok (.iload_n 1, 1) := by decide +kernel
theorem dX6_drifts_21 : decode cX6_drifts 21 = .ok (.bipush 47, 2) := by decide +kernel
theorem dX6_drifts_23 : decode cX6_drifts 23 = .ok (.iadd, 1) := by decide +kernel
theorem dX6_drifts_24 : decode cX6_drifts 24 = .ok (.iload_n 3, 1) := by decide +kernel
theorem dX6_drifts_25 : decode cX6_drifts 25 = .ok (.iadd, 1) := by decide +kernel
theorem dX6_drifts_26 : decode cX6_drifts 26 = .ok (.iaload, 1) := by decide +kernel
theorem dX6_drifts_27 : decode cX6_drifts 27 = .ok (.istore 4, 2) := by decide +kernel
theorem dX6_drifts_29 : decode cX6_drifts 29 = .ok (.aload_n 0, 1) := by decide +kernel
theorem dX6_drifts_30 : decode cX6_drifts 30 = .ok (.getfield 13, 3) := by decide +kernel
theorem dX6_drifts_33 : decode cX6_drifts 33 = .ok (.aload_n 0, 1) := by decide +kernel
theorem dX6_drifts_34 : decode cX6_drifts 34 = .ok (.getfield 7, 3) := by decide +kernel
theorem dX6_drifts_37 : decode cX6_drifts 37 = .ok (.iload_n 1, 1) := by decide +kernel
theorem dX6_drifts_38 : decode cX6_drifts 38 = .ok (.iload_n 2, 1) := by decide +kernel
theorem dX6_drifts_39 : decode cX6_drifts 39 = .ok (.iadd, 1) := by decide +kernel
theorem dX6_drifts_40 : decode cX6_drifts 40 = .ok (.iaload, 1) := by decide +kernel
theorem dX6_drifts_41 : decode cX6_drifts 41 = .ok (.iaload, 1) := by decide +kernel
theorem dX6_drifts_42 : decode cX6_drifts 42 = .ok (.istore 5, 2) := by decide +kernel
theorem dX6_drifts_44 : decode cX6_drifts 44 = .ok (.iload_n 3, 1) := by decide +kernel
theorem dX6_drifts_45 : decode cX6_drifts 45 = .ok (.aload_n 0, 1) := by decide +kernel
theorem dX6_drifts_46 : decode cX6_drifts 46 = .ok (.getfield 7, 3) := by decide +kernel
theorem dX6_drifts_49 : decode cX6_drifts 49 = .ok (.iload_n 1, 1) := by decide +kernel
theorem dX6_drifts_50 : decode cX6_drifts 50 = .ok (.bipush 71, 2) := by decide +kernel
theorem dX6_drifts_52 : decode cX6_drifts 52 = .ok (.iadd, 1) := by decide +kernel
theorem dX6_drifts_53 : decode cX6_drifts 53 = .ok (.iaload, 1) := by decide +kernel
theorem dX6_drifts_54 : decode cX6_drifts 54 = .ok (.iadd, 1) := by decide +kernel
theorem dX6_drifts_55 : decode cX6_drifts 55 = .ok (.iconst 3, 1) := by decide +kernel
theorem dX6_drifts_56 : decode cX6_drifts 56 = .ok (.idiv, 1) := by decide +kernel
theorem dX6_drifts_57 : decode cX6_drifts 57 = .ok (.iconst 2, 1) := by decide +kernel
theorem dX6_drifts_58 : decode cX6_drifts 58 = .ok (.irem, 1) := by decide +kernel
theorem dX6_drifts_59 : decode cX6_drifts 59 = .ok (.ifCond .ne 7, 3) := by decide +kernel
theorem dX6_drifts_62 : decode cX6_drifts 62 = .ok (.iconst 1, 1) := by decide +kernel
theorem dX6_drifts_63 : decode cX6_drifts 63 = .ok (.goto 4, 3) := by decide +kernel
theorem dX6_drifts_66 : decode cX6_drifts 66 = .ok (.iconst (-1), 1) := by decide +kernel
theorem dX6_drifts_67 : decode cX6_drifts 67 = .ok (.istore 6, 2) := by decide +kernel
theorem dX6_drifts_69 : decode cX6_drifts 69 = .ok (.aload_n 0, 1) := by decide +kernel
theorem dX6_drifts_70 : decode cX6_drifts 70 = .ok (.getfield 28, 3) := by decide +kernel
theorem dX6_drifts_73 : decode cX6_drifts 73 = .ok (.iload_n 2, 1) := by decide +kernel
theorem dX6_drifts_74 : decode cX6_drifts 74 = .ok (.dup2, 1) := by decide +kernel
theorem dX6_drifts_75 : decode cX6_drifts 75 = .ok (.iaload, 1) := by decide +kernel
theorem dX6_drifts_76 : decode cX6_drifts 76 = .ok (.aload_n 0, 1) := by decide +kernel
theorem dX6_drifts_77 : decode cX6_drifts 77 = .ok (.getfield 7, 3) := by decide +kernel
theorem dX6_drifts_80 : decode cX6_drifts 80 = .ok (.iload_n 1, 1) := by decide +kernel
theorem dX6_drifts_81 : decode cX6_drifts 81 = .ok (.bipush 37, 2) := by decide +kernel
theorem dX6_drifts_83 : decode cX6_drifts 83 = .ok (.iadd, 1) := by decide +kernel
theorem dX6_drifts_84 : decode cX6_drifts 84 = .ok (.aload_n 0, 1) := by decide +kernel
theorem dX6_drifts_85 : decode cX6_drifts 85 = .ok (.getfield 31, 3) := by decide +kernel
theorem dX6_drifts_88 : decode cX6_drifts 88 = .ok (.iload_n 2, 1) := by decide +kernel
theorem dX6_drifts_89 : decode cX6_drifts 89 = .ok (.iaload, 1) := by decide +kernel
theorem dX6_drifts_90 : decode cX6_drifts 90 = .ok (.iadd, 1) := by decide +kernel
theorem dX6_drifts_91 : decode cX6_drifts 91 = .ok (.iaload, 1) := by decide +kernel
theorem dX6_drifts_92 : decode cX6_drifts 92 = .ok (.iload 4, 2) := by decide +kernel
theorem dX6_drifts_94 : decode cX6_drifts 94 = .ok (.iconst 2, 1) := by decide +kernel
theorem dX6_drifts_95 : decode cX6_drifts 95 = .ok (.if_icmp .ne 8, 3) := by decide +kernel
theorem dX6_drifts_98 : decode cX6_drifts 98 = .ok (.iload 5, 2) := by decide +kernel
theorem dX6_drifts_100 : decode cX6_drifts 100 = .ok (.goto 16, 3) := by decide +kernel
theorem dX6_drifts_103 : decode cX6_drifts 103 = .ok (.iload 4, 2) := by decide +kernel
theorem dX6_drifts_105 : decode cX6_drifts 105 = .ok (.iconst 4, 1) := by decide +kernel
theorem dX6_drifts_106 : decode cX6_drifts 106 = .ok (.if_icmp .ne 9, 3) := by decide +kernel
theorem dX6_drifts_109 : decode cX6_drifts 109 = .ok (.iload 5, 2) := by decide +kernel
theorem dX6_drifts_111 : decode cX6_drifts 111 = .ok (.ineg, 1) := by decide +kernel
theorem dX6_drifts_112 : decode cX6_drifts 112 = .ok (.goto 4, 3) := by decide +kernel
theorem dX6_drifts_115 : decode cX6_drifts 115 = .ok (.iconst 0, 1) := by decide +kernel
theorem dX6_drifts_116 : decode cX6_drifts 116 = .ok (.iadd, 1) := by decide +kernel
theorem dX6_drifts_117 : decode cX6_drifts 117 = .ok (.iadd, 1) := by decide +kernel
theorem dX6_drifts_118 : decode cX6_drifts 118 = .ok (.iastore, 1) := by decide +kernel
theorem dX6_drifts_119 : decode cX6_drifts 119 = .ok (.aload_n 0, 1) := by decide +kernel
theorem dX6_drifts_120 : decode cX6_drifts 120 = .ok (.getfield 31, 3) := by decide +kernel
theorem dX6_drifts_123 : decode cX6_drifts 123 = .ok (.iload_n 2, 1) := by decide +kernel
theorem dX6_drifts_124 : decode cX6_drifts 124 = .ok (.dup2, 1) := by decide +kernel
theorem dX6_drifts_125 : decode cX6_drifts 125 = .ok (.iaload, 1) := by decide +kernel
theorem dX6_drifts_126 : decode cX6_drifts 126 = .ok (.iload 6, 2) := by decide +kernel
theorem dX6_drifts_128 : decode cX6_drifts 128 = .ok (.iload 4, 2) := by decide +kernel
theorem dX6_drifts_130 : decode cX6_drifts 130 = .ok (.iconst 3, 1) := by decide +kernel
theorem dX6_drifts_131 : decode cX6_drifts 131 = .ok (.if_icmp .ne 8, 3) := by decide +kernel
theorem dX6_drifts_134 : decode cX6_drifts 134 = .ok (.iload 5, 2) := by decide +kernel
theorem dX6_drifts_136 : decode cX6_drifts 136 = .ok (.goto 16, 3) := by decide +kernel
theorem dX6_drifts_139 : decode cX6_drifts 139 = .ok (.iload 4, 2) := by decide +kernel
theorem dX6_drifts_141 : decode cX6_drifts 141 = .ok (.iconst 1, 1) := by decide +kernel
theorem dX6_drifts_142 : decode cX6_drifts 142 = .ok (.if_icmp .ne 9, 3) := by decide +kernel
theorem dX6_drifts_145 : decode cX6_drifts 145 = .ok (.iload 5, 2) := by decide +kernel
theorem dX6_drifts_147 : decode cX6_drifts 147 = .ok (.ineg, 1) := by decide +kernel
theorem dX6_drifts_148 : decode cX6_drifts 148 = .ok (.goto 4, 3) := by decide +kernel
theorem dX6_drifts_151 : decode cX6_drifts 151 = .ok (.iconst 0, 1) := by decide +kernel
theorem dX6_drifts_152 : decode cX6_drifts 152 = .ok (.iadd, 1) := by decide +kernel
theorem dX6_drifts_153 : decode cX6_drifts 153 = .ok (.iadd, 1) := by decide +kernel
theorem dX6_drifts_154 : decode cX6_drifts 154 = .ok (.iastore, 1) := by decide +kernel
theorem dX6_drifts_155 : decode cX6_drifts 155 = .ok (.aload_n 0, 1) := by decide +kernel
theorem dX6_drifts_156 : decode cX6_drifts 156 = .ok (.getfield 31, 3) := by decide +kernel
theorem dX6_drifts_159 : decode cX6_drifts 159 = .ok (.iload_n 2, 1) := by decide +kernel
theorem dX6_drifts_160 : decode cX6_drifts 160 = .ok (.iaload, 1) := by decide +kernel
theorem dX6_drifts_161 : decode cX6_drifts 161 = .ok (.ifCond .gt 68, 3) := by decide +kernel
theorem dX6_drifts_164 : decode cX6_drifts 164 = .ok (.aload_n 0, 1) := by decide +kernel
theorem dX6_drifts_165 : decode cX6_drifts 165 = .ok (.getfield 31, 3) := by decide +kernel
theorem dX6_drifts_168 : decode cX6_drifts 168 = .ok (.iload_n 2, 1) := by decide +kernel
theorem dX6_drifts_169 : decode cX6_drifts 169 = .ok (.iconst 0, 1) := by decide +kernel
theorem dX6_drifts_170 : decode cX6_drifts 170 = .ok (.iastore, 1) := by decide +kernel
theorem dX6_drifts_171 : decode cX6_drifts 171 = .ok (.aload_n 0, 1) := by decide +kernel
theorem dX6_drifts_172 : decode cX6_drifts 172 = .ok (.getfield 28, 3) := by decide +kernel
theorem dX6_drifts_175 : decode cX6_drifts 175 = .ok (.iload_n 2, 1) := by decide +kernel
theorem dX6_drifts_176 : decode cX6_drifts 176 = .ok (.aload_n 0, 1) := by decide +kernel
theorem dX6_drifts_177 : decode cX6_drifts 177 = .ok (.getfield 28, 3) := by decide +kernel
theorem dX6_drifts_180 : decode cX6_drifts 180 = .ok (.iload_n 2, 1) := by decide +kernel
theorem dX6_drifts_181 : decode cX6_drifts 181 = .ok (.iaload, 1) := by decide +kernel
theorem dX6_drifts_182 : decode cX6_drifts 182 = .ok (.ifCond .ge 7, 3) := by decide +kernel
theorem dX6_drifts_185 : decode cX6_drifts 185 = .ok (.iconst 0, 1) := by decide +kernel
theorem dX6_drifts_186 : decode cX6_drifts 186 = .ok (.goto 25, 3) := by decide +kernel
theorem dX6_drifts_189 : decode cX6_drifts 189 = .ok (.aload_n 0, 1) := by decide +kernel
theorem dX6_drifts_190 : decode cX6_drifts 190 = .ok (.getfield 28, 3) := by decide +kernel
theorem dX6_drifts_193 : decode cX6_drifts 193 = .ok (.iload_n 2, 1) := by decide +kernel
theorem dX6_drifts_194 : decode cX6_drifts 194 = .ok (.iaload, 1) := by decide +kernel
theorem dX6_drifts_195 : decode cX6_drifts 195 = .ok (.bipush 9, 2) := by decide +kernel
theorem dX6_drifts_197 : decode cX6_drifts 197 = .ok (.if_icmp .le 8, 3) := by decide +kernel
theorem dX6_drifts_200 : decode cX6_drifts 200 = .ok (.bipush 9, 2) := by decide +kernel
theorem dX6_drifts_202 : decode cX6_drifts 202 = .ok (.goto 9, 3) := by decide +kernel
theorem dX6_drifts_205 : decode cX6_drifts 205 = .ok (.aload_n 0, 1) := by decide +kernel
theorem dX6_drifts_206 : decode cX6_drifts 206 = .ok (.getfield 28, 3) := by decide +kernel
theorem dX6_drifts_209 : decode cX6_drifts 209 = .ok (.iload_n 2, 1) := by decide +kernel
theorem dX6_drifts_210 : decode cX6_drifts 210 = .ok (.iaload, 1) := by decide +kernel
theorem dX6_drifts_211 : decode cX6_drifts 211 = .ok (.iastore, 1) := by decide +kernel
theorem dX6_drifts_212 : decode cX6_drifts 212 = .ok (.aload_n 0, 1) := by decide +kernel
theorem dX6_drifts_213 : decode cX6_drifts 213 = .ok (.getfield 34, 3) := by decide +kernel
theorem dX6_drifts_216 : decode cX6_drifts 216 = .ok (.iload_n 2, 1) := by decide +kernel
theorem dX6_drifts_217 : decode cX6_drifts 217 = .ok (.iconst 2, 1) := by decide +kernel
theorem dX6_drifts_218 : decode cX6_drifts 218 = .ok (.iastore, 1) := by decide +kernel
theorem dX6_drifts_219 : decode cX6_drifts 219 = .ok (.aload_n 0, 1) := by decide +kernel
theorem dX6_drifts_220 : decode cX6_drifts 220 = .ok (.getfield 37, 3) := by decide +kernel
theorem dX6_drifts_223 : decode cX6_drifts 223 = .ok (.iload_n 2, 1) := by decide +kernel
theorem dX6_drifts_224 : decode cX6_drifts 224 = .ok (.iload_n 3, 1) := by decide +kernel
theorem dX6_drifts_225 : decode cX6_drifts 225 = .ok (.iastore, 1) := by decide +kernel
theorem dX6_drifts_226 : decode cX6_drifts 226 = .ok (.goto 45, 3) := by decide +kernel
theorem dX6_drifts_229 : decode cX6_drifts 229 = .ok (.aload_n 0, 1) := by decide +kernel
theorem dX6_drifts_230 : decode cX6_drifts 230 = .ok (.getfield 31, 3) := by decide +kernel
theorem dX6_drifts_233 : decode cX6_drifts 233 = .ok (.iload_n 2, 1) := by decide +kernel
theorem dX6_drifts_234 : decode cX6_drifts 234 = .ok (.iaload, 1) := by decide +kernel
theorem dX6_drifts_235 : decode cX6_drifts 235 = .ok (.bipush 9, 2) := by decide +kernel
theorem dX6_drifts_237 : decode cX6_drifts 237 = .ok (.if_icmp .gt 20, 3) := by decide +kernel
theorem dX6_drifts_240 : decode cX6_drifts 240 = .ok (.aload_n 0, 1) := by decide +kernel
theorem dX6_drifts_241 : decode cX6_drifts 241 = .ok (.getfield 28, 3) := by decide +kernel
theorem dX6_drifts_244 : decode cX6_drifts 244 = .ok (.iload_n 2, 1) := by decide +kernel
theorem dX6_drifts_245 : decode cX6_drifts 245 = .ok (.iaload, 1) := by decide +kernel
theorem dX6_drifts_246 : decode cX6_drifts 246 = .ok (.i2l, 1) := by decide +kernel
theorem dX6_drifts_247 : decode cX6_drifts 247 = .ok (.lconst 0, 1) := by decide +kernel
theorem dX6_drifts_248 : decode cX6_drifts 248 = .ok (.ldc2_w 184, 3) := by decide +kernel
theorem dX6_drifts_251 : decode cX6_drifts 251 = .ok (.invokestatic 73, 3) := by decide +kernel
theorem dX6_drifts_254 : decode cX6_drifts 254 = .ok (.ifCond .ne 17, 3) := by decide +kernel
theorem dX6_drifts_257 : decode cX6_drifts 257 = .ok (.aload_n 0, 1) := by decide +kernel
theorem dX6_drifts_258 : decode cX6_drifts 258 = .ok (.getfield 34, 3) := by decide +kernel
theorem dX6_drifts_261 : decode cX6_drifts 261 = .ok (.iload_n 2, 1) := by decide +kernel
theorem dX6_drifts_262 : decode cX6_drifts 262 = .ok (.iconst 3, 1) := by decide +kernel
theorem dX6_drifts_263 : decode cX6_drifts 263 = .ok (.iastore, 1) := by decide +kernel
theorem dX6_drifts_264 : decode cX6_drifts 264 = .ok (.aload_n 0, 1) := by decide +kernel
theorem dX6_drifts_265 : decode cX6_drifts 265 = .ok (.getfield 37, 3) := by decide +kernel
theorem dX6_drifts_268 : decode cX6_drifts 268 = .ok (.iload_n 2, 1) := by decide +kernel
theorem dX6_drifts_269 : decode cX6_drifts 269 = .ok (.iload_n 3, 1) := by decide +kernel
theorem dX6_drifts_270 : decode cX6_drifts 270 = .ok (.iastore, 1) := by decide +kernel
theorem dX6_drifts_271 : decode cX6_drifts 271 = .ok (.return_, 1) := by decide +kernel
theorem dX6_hooks_0 : decode cX6_hooks 0 = .ok (.bipush (-4), 2) := by decide +kernel
theorem dX6_hooks_2 : decode cX6_hooks 2 = .ok (.istore 4, 2) := by decide +kernel
theorem dX6_hooks_4 : decode cX6_hooks 4 = .ok (.bipush 100, 2) := by decide +kernel
theorem dX6_hooks_6 : decode cX6_hooks 6 = .ok (.istore 5, 2) := by decide +kernel
theorem dX6_hooks_8 : decode cX6_hooks 8 = .ok (.iconst 0, 1) := by decide +kernel
theorem dX6_hooks_9 : decode cX6_hooks 9 = .ok (.istore 6, 2) := by decide +kernel
theorem dX6_hooks_11 : decode cX6_hooks 11 = .ok (.iload 6, 2) := by decide +kernel
theorem dX6_hooks_13 : decode cX6_hooks 13 = .ok (.aload_n 0, 1) := by decide +kernel
theorem dX6_hooks_14 : decode cX6_hooks 14 = .ok (.getfield 156, 3) := by decide +kernel
theorem dX6_hooks_17 : decode cX6_hooks 17 = .ok (.if_icmp .ge 160, 3) := by decide +kernel
theorem dX6_hooks_20 : decode cX6_hooks 20 = .ok (.iload_n 1, 1) := by decide +kernel
theorem dX6_hooks_21 : decode cX6_hooks 21 = .ok (.bipush 21, 2) := by decide +kernel
theorem dX6_hooks_23 : decode cX6_hooks 23 = .ok (.iadd, 1) := by decide +kernel
theorem dX6_hooks_24 : decode cX6_hooks 24 = .ok (.iconst 4, 1) := by decide +kernel
theorem dX6_hooks_25 : decode cX6_hooks 25 = .ok (.iload 6, 2) := by decide +kernel
theorem dX6_hooks_27 : decode cX6_hooks 27 = .ok (.imul, 1) := by decide +kernel
theorem dX6_hooks_28 : decode cX6_hooks 28 = .ok (.iadd, 1) := by decide +kernel
theorem dX6_hooks_29 : decode cX6_hooks 29 = .ok (.istore 7, 2) := by decide +kernel
theorem dX6_hooks_31 : decode cX6_hooks 31 = .ok (.aload_n 0, 1) := by decide +kernel
theorem dX6_hooks_32 : decode cX6_hooks 32 = .ok (.getfield 7, 3) := by decide +kernel
theorem dX6_hooks_35 : decode cX6_hooks 35 = .ok (.iload 7, 2) := by decide +kernel
theorem dX6_hooks_37 : decode cX6_hooks 37 = .ok (.iaload, 1) := by decide +kernel
theorem dX6_hooks_38 : decode cX6_hooks 38 = .ok (.aload_n 0, 1) := by decide +kernel
theorem dX6_hooks_39 : decode cX6_hooks 39 = .ok (.getfield 28, 3) := by decide +kernel
theorem dX6_hooks_42 : decode cX6_hooks 42 = .ok (.iload_n 2, 1) := by decide +kernel
theorem dX6_hooks_43 : decode cX6_hooks 43 = .ok (.iaload, 1) := by decide +kernel
theorem dX6_hooks_44 : decode cX6_hooks 44 = .ok (.if_icmp .le 20, 3) := by decide +kernel
theorem dX6_hooks_47 : decode cX6_hooks 47 = .ok (.aload_n 0, 1) := by decide +kernel
theorem dX6_hooks_48 : decode cX6_hooks 48 = .ok (.getfield 7, 3) := by decide +kernel
theorem dX6_hooks_51 : decode cX6_hooks 51 = .ok (.iload 7, 2) := by decide +kernel
theorem dX6_hooks_53 : decode cX6_hooks 53 = .ok (.iaload, 1) := by decide +kernel
theorem dX6_hooks_54 : decode cX6_hooks 54 = .ok (.aload_n 0, 1) := by decide +kernel
theorem dX6_hooks_55 : decode cX6_hooks 55 = .ok (.getfield 28, 3) := by decide +kernel
theorem dX6_hooks_58 : decode cX6_hooks 58 = .ok (.iload_n 2, 1) := by decide +kernel
theorem dX6_hooks_59 : decode cX6_hooks 59 = .ok (.iaload, 1) := by decide +kernel
theorem dX6_hooks_60 : decode cX6_hooks 60 = .ok (.isub, 1) := by decide +kernel
theorem dX6_hooks_61 : decode cX6_hooks 61 = .ok (.goto 17, 3) := by decide +kernel
theorem dX6_hooks_64 : decode cX6_hooks 64 = .ok (.aload_n 0, 1) := by decide +kernel
theorem dX6_hooks_65 : decode cX6_hooks 65 = .ok (.getfield 28, 3) := by decide +kernel
theorem dX6_hooks_68 : decode cX6_hooks 68 = .ok (.iload_n 2, 1) := by decide +kernel
theorem dX6_hooks_69 : decode cX6_hooks 69 = .ok (.iaload, 1) := by decide +kernel
theorem dX6_hooks_70 : decode cX6_hooks 70 = .ok (.aload_n 0, 1) := by decide +kernel
theorem dX6_hooks_71 : decode cX6_hooks 71 = .ok (.getfield 7, 3) := by decide +kernel
theorem dX6_hooks_74 : decode cX6_hooks 74 = .ok (.iload 7, 2) := by decide +kernel
theorem dX6_hooks_76 : decode cX6_hooks 76 = .ok (.iaload, 1) := by decide +kernel
theorem dX6_hooks_77 : decode cX6_hooks 77 = .ok (.isub, 1) := by decide +kernel
theorem dX6_hooks_78 : decode cX6_hooks 78 = .ok (.istore 8, 2) := by decide +kernel
theorem dX6_hooks_80 : decode cX6_hooks 80 = .ok (.iload_n 3, 1) := by decide +kernel
theorem dX6_hooks_81 : decode cX6_hooks 81 = .ok (.i2l, 1) := by decide +kernel
theorem dX6_hooks_82 : decode cX6_hooks 82 = .ok (.aload_n 0, 1) := by decide +kernel
theorem dX6_hooks_83 : decode cX6_hooks 83 = .ok (.getfield 7, 3) := by decide +kernel
theorem dX6_hooks_86 : decode cX6_hooks 86 = .ok (.iload 7, 2) := by decide +kernel
theorem dX6_hooks_88 : decode cX6_hooks 88 = .ok (.iconst 1, 1) := by decide +kernel
theorem dX6_hooks_89 : decode cX6_hooks 89 = .ok (.iadd, 1) := by decide +kernel
theorem dX6_hooks_90 : decode cX6_hooks 90 = .ok (.iaload, 1) := by decide +kernel
theorem dX6_hooks_91 : decode cX6_hooks 91 = .ok (.i2l, 1) := by decide +kernel
theorem dX6_hooks_92 : decode cX6_hooks 92 = .ok (.aload_n 0, 1) := by decide +kernel
theorem dX6_hooks_93 : decode cX6_hooks 93 = .ok (.getfield 7, 3) := by decide +kernel
theorem dX6_hooks_96 : decode cX6_hooks 96 = .ok (.iload 7, 2) := by decide +kernel
theorem dX6_hooks_98 : decode cX6_hooks 98 = .ok (.iconst 2, 1) := by decide +kernel
theorem dX6_hooks_99 : decode cX6_hooks 99 = .ok (.iadd, 1) := by decide +kernel
theorem dX6_hooks_100 : decode cX6_hooks 100 = .ok (.iaload, 1) := by decide +kernel
theorem dX6_hooks_101 : decode cX6_hooks 101 = .ok (.i2l, 1) := by decide +kernel
theorem dX6_hooks_102 : decode cX6_hooks 102 = .ok (.invokestatic 73, 3) := by decide +kernel
theorem dX6_hooks_105 : decode cX6_hooks 105 = .ok (.ifCond .eq 21, 3) := by decide +kernel
theorem dX6_hooks_108 : decode cX6_hooks 108 = .ok (.iload 8, 2) := by decide +kernel
theorem dX6_hooks_110 : decode cX6_hooks 110 = .ok (.aload_n 0, 1) := by decide +kernel
theorem dX6_hooks_111 : decode cX6_hooks 111 = .ok (.getfield 7, 3) := by decide +kernel
theorem dX6_hooks_114 : decode cX6_hooks 114 = .ok (.iload 7, 2) := by decide +kernel
theorem dX6_hooks_116 : decode cX6_hooks 116 = .ok (.iconst 3, 1) := by decide +kernel
theorem dX6_hooks_117 : decode cX6_hooks 117 = .ok (.iadd, 1) := by decide +kernel
theorem dX6_hooks_118 : decode cX6_hooks 118 = .ok (.iaload, 1) := by decide +kernel
theorem dX6_hooks_119 : decode cX6_hooks 119 = .ok (.if_icmp .gt 7, 3) := by decide +kernel
theorem dX6_hooks_122 : decode cX6_hooks 122 = .ok (.iconst 1, 1) := by decide +kernel
theorem dX6_hooks_123 : decode cX6_hooks 123 = .ok (.goto 4, 3) := by decide +kernel
theorem dX6_hooks_126 : decode cX6_hooks 126 = .ok (.iconst 0, 1) := by decide +kernel
theorem dX6_hooks_127 : decode cX6_hooks 127 = .ok (.istore 9, 2) := by decide +kernel
theorem dX6_hooks_129 : decode cX6_hooks 129 = .ok (.iload 9, 2) := by decide +kernel
theorem dX6_hooks_131 : decode cX6_hooks 131 = .ok (.ifCond .eq 15, 3) := by decide +kernel
theorem dX6_hooks_134 : decode cX6_hooks 134 = .ok (.iload 8, 2) := by decide +kernel
theorem dX6_hooks_136 : decode cX6_hooks 136 = .ok (.iload 5, 2) := by decide +kernel
theorem dX6_hooks_138 : decode cX6_hooks 138 = .ok (.if_icmp .ge 8, 3) := by decide +kernel
theorem dX6_hooks_141 : decode cX6_hooks 141 = .ok (.iload 6, 2) := by decide +kernel
theorem dX6_hooks_143 : decode cX6_hooks 143 = .ok (.goto 5, 3) := by decide +kernel
theorem dX6_hooks_146 : decode cX6_hooks 146 = .ok (.iload 4, 2) := by decide +kernel
theorem dX6_hooks_148 : decode cX6_hooks 148 = .ok (.istore 4, 2) := by decide +kernel
theorem dX6_hooks_150 : decode cX6_hooks 150 = .ok (.iload 9, 2) := by decide +kernel
theorem dX6_hooks_152 : decode cX6_hooks 152 = .ok (.ifCond .eq 15, 3) := by decide +kernel
theorem dX6_hooks_155 : decode cX6_hooks 155 = .ok (.iload 8, 2) := by decide +kernel
theorem dX6_hooks_157 : decode cX6_hooks 157 = .ok (.iload 5, 2) := by decide +kernel
theorem dX6_hooks_159 : decode cX6_hooks 159 = .ok (.if_icmp .ge 8, 3) := by decide +kernel
theorem dX6_hooks_162 : decode cX6_hooks 162 = .ok (.iload 8, 2) := by decide +kernel
theorem dX6_hooks_164 : decode cX6_hooks 164 = .ok (.goto 5, 3) := by decide +kernel
theorem dX6_hooks_167 : decode cX6_hooks 167 = .ok (.iload 5, 2) := by decide +kernel
theorem dX6_hooks_169 : decode cX6_hooks 169 = .ok (.istore 5, 2) := by decide +kernel
theorem dX6_hooks_171 : decode cX6_hooks 171 = .ok (.iinc 6 1, 3) := by decide +kernel
theorem dX6_hooks_174 : decode cX6_hooks 174 = .ok (.goto (-163), 3) := by decide +kernel
theorem dX6_hooks_177 : decode cX6_hooks 177 = .ok (.iload 4, 2) := by decide +kernel
theorem dX6_hooks_179 : decode cX6_hooks 179 = .ok (.bipush (-4), 2) := by decide +kernel
theorem dX6_hooks_181 : decode cX6_hooks 181 = .ok (.if_icmp .eq 25, 3) := by decide +kernel
theorem dX6_hooks_184 : decode cX6_hooks 184 = .ok (.aload_n 0, 1) := by decide +kernel
theorem dX6_hooks_185 : decode cX6_hooks 185 = .ok (.getfield 34, 3) := by decide +kernel
theorem dX6_hooks_188 : decode cX6_hooks 188 = .ok (.iload_n 2, 1) := by decide +kernel
theorem dX6_hooks_189 : decode cX6_hooks 189 = .ok (.iconst 1, 1) := by decide +kernel
theorem dX6_hooks_190 : decode cX6_hooks 190 = .ok (.iastore, 1) := by decide +kernel
theorem dX6_hooks_191 : decode cX6_hooks 191 = .ok (.aload_n 0, 1) := by decide +kernel
theorem dX6_hooks_192 : decode cX6_hooks 192 = .ok (.getfield 40, 3) := by decide +kernel
theorem dX6_hooks_195 : decode cX6_hooks 195 = .ok (.iload_n 2, 1) := by decide +kernel
theorem dX6_hooks_196 : decode cX6_hooks 196 = .ok (.iload 4, 2) := by decide +kernel
theorem dX6_hooks_198 : decode cX6_hooks 198 = .ok (.iastore, 1) := by decide +kernel
theorem dX6_hooks_199 : decode cX6_hooks 199 = .ok (.aload_n 0, 1) := by decide +kernel
theorem dX6_hooks_200 : decode cX6_hooks 200 = .ok (.getfield 43, 3) := by decide +kernel
theorem dX6_hooks_203 : decode cX6_hooks 203 = .ok (.iload_n 2, 1) := by decide +kernel
theorem dX6_hooks_204 : decode cX6_hooks 204 = .ok (.iload_n 3, 1) := by decide +kernel
theorem dX6_hooks_205 : decode cX6_hooks 205 = .ok (.iastore, 1) := by decide +kernel
theorem dX6_hooks_206 : decode cX6_hooks 206 = .ok (.return_, 1) := by decide +kernel
theorem dX6_dayGoes_0 : decode cX6_dayGoes 0 = .ok (.aload_n 0, 1) := by decide +kernel
theorem dX6_dayGoes_1 : decode cX6_dayGoes 1 = .ok (.getfield 7, 3) := by decide +kernel
theorem dX6_dayGoes_4 : decode cX6_dayGoes 4 = .ok (.iload_n 1, 1) := by decide +kernel
theorem dX6_dayGoes_5 : decode cX6_dayGoes 5 = .ok (.bipush 20, 2) := by decide +kernel
theorem dX6_dayGoes_7 : decode cX6_dayGoes 7 = .ok (.iadd, 1) := by decide +kernel
theorem dX6_dayGoes_8 : decode cX6_dayGoes 8 = .ok (.iaload, 1) := by decide +kernel
theorem dX6_dayGoes_9 : decode cX6_dayGoes 9 = .ok (.istore_n 3, 1) := by decide +kernel
theorem dX6_dayGoes_10 : decode cX6_dayGoes 10 = .ok (.iconst 0, 1) := by decide +kernel
theorem dX6_dayGoes_11 : decode cX6_dayGoes 11 = .ok (.istore 4, 2) := by decide +kernel
theorem dX6_dayGoes_13 : decode cX6_dayGoes 13 = .ok (.iload 4, 2) := by decide +kernel
theorem dX6_dayGoes_15 : decode cX6_dayGoes 15 = .ok (.iload_n 3, 1) := by decide +kernel
theorem dX6_dayGoes_16 : decode cX6_dayGoes 16 = .ok (.if_icmp .ge 81, 3) := by decide +kernel
theorem dX6_dayGoes_19 : decode cX6_dayGoes 19 = .ok (.aload_n 0, 1) := by decide +kernel
theorem dX6_dayGoes_20 : decode cX6_dayGoes 20 = .ok (.getfield 28, 3) := by decide +kernel
theorem dX6_dayGoes_23 : decode cX6_dayGoes 23 = .ok (.iload 4, 2) := by decide +kernel
theorem dX6_dayGoes_25 : decode cX6_dayGoes 25 = .ok (.aload_n 0, 1) := by decide +kernel
theorem dX6_dayGoes_26 : decode cX6_dayGoes 26 = .ok (.getfield 7, 3) := by decide +kernel
theorem dX6_dayGoes_29 : decode cX6_dayGoes 29 = .ok (.iload_n 1, 1) := by decide +kernel
theorem dX6_dayGoes_30 : decode cX6_dayGoes 30 = .ok (.iconst 4, 1) := by decide +kernel
theorem dX6_dayGoes_31 : decode cX6_dayGoes 31 = .ok (.iadd, 1) := by decide +kernel
theorem dX6_dayGoes_32 : decode cX6_dayGoes 32 = .ok (.iload 4, 2) := by decide +kernel
theorem dX6_dayGoes_34 : decode cX6_dayGoes 34 = .ok (.iadd, 1) := by decide +kernel
theorem dX6_dayGoes_35 : decode cX6_dayGoes 35 = .ok (.iaload, 1) := by decide +kernel
theorem dX6_dayGoes_36 : decode cX6_dayGoes 36 = .ok (.iastore, 1) := by decide +kernel
theorem dX6_dayGoes_37 : decode cX6_dayGoes 37 = .ok (.aload_n 0, 1) := by decide +kernel
theorem dX6_dayGoes_38 : decode cX6_dayGoes 38 = .ok (.getfield 31, 3) := by decide +kernel
theorem dX6_dayGoes_41 : decode cX6_dayGoes 41 = .ok (.iload 4, 2) := by decide +kernel
theorem dX6_dayGoes_43 : decode cX6_dayGoes 43 = .ok (.aload_n 0, 1) := by decide +kernel
theorem dX6_dayGoes_44 : decode cX6_dayGoes 44 = .ok (.getfield 7, 3) := by decide +kernel
theorem dX6_dayGoes_47 : decode cX6_dayGoes 47 = .ok (.iload_n 1, 1) := by decide +kernel
theorem dX6_dayGoes_48 : decode cX6_dayGoes 48 = .ok (.bipush 8, 2) := by decide +kernel
theorem dX6_dayGoes_50 : decode cX6_dayGoes 50 = .ok (.iadd, 1) := by decide +kernel
theorem dX6_dayGoes_51 : decode cX6_dayGoes 51 = .ok (.iload 4, 2) := by decide +kernel
theorem dX6_dayGoes_53 : decode cX6_dayGoes 53 = .ok (.iadd, 1) := by decide +kernel
theorem dX6_dayGoes_54 : decode cX6_dayGoes 54 = .ok (.iaload, 1) := by decide +kernel
theorem dX6_dayGoes_55 : decode cX6_dayGoes 55 = .ok (.iastore, 1) := by decide +kernel
theorem dX6_dayGoes_56 : decode cX6_dayGoes 56 = .ok (.aload_n 0, 1) := by decide +kernel
theorem dX6_dayGoes_57 : decode cX6_dayGoes 57 = .ok (.getfield 34, 3) := by decide +kernel
theorem dX6_dayGoes_60 : decode cX6_dayGoes 60 = .ok (.iload 4, 2) := by decide +kernel
theorem dX6_dayGoes_62 : decode cX6_dayGoes 62 = .ok (.iconst 0, 1) := by decide +kernel
theorem dX6_dayGoes_63 : decode cX6_dayGoes 63 = .ok (.iastore, 1) := by decide +kernel
theorem dX6_dayGoes_64 : decode cX6_dayGoes 64 = .ok (.aload_n 0, 1) := by decide +kernel
theorem dX6_dayGoes_65 : decode cX6_dayGoes 65 = .ok (.getfield 37, 3) := by decide +kernel
theorem dX6_dayGoes_68 : decode cX6_dayGoes 68 = .ok (.iload 4, 2) := by decide +kernel
theorem dX6_dayGoes_70 : decode cX6_dayGoes 70 = .ok (.bipush (-4), 2) := by decide +kernel
theorem dX6_dayGoes_72 : decode cX6_dayGoes 72 = .ok (.iastore, 1) := by decide +kernel
theorem dX6_dayGoes_73 : decode cX6_dayGoes 73 = .ok (.aload_n 0, 1) := by decide +kernel
theorem dX6_dayGoes_74 : decode cX6_dayGoes 74 = .ok (.getfield 40, 3) := by decide +kernel
theorem dX6_dayGoes_77 : decode cX6_dayGoes 77 = .ok (.iload 4, 2) := by decide +kernel
theorem dX6_dayGoes_79 : decode cX6_dayGoes 79 = .ok (.bipush (-4), 2) := by decide +kernel
theorem dX6_dayGoes_81 : decode cX6_dayGoes 81 = .ok (.iastore, 1) := by decide +kernel
theorem dX6_dayGoes_82 : decode cX6_dayGoes 82 = .ok (.aload_n 0, 1) := by decide +kernel
theorem dX6_dayGoes_83 : decode cX6_dayGoes 83 = .ok (.getfield 43, 3) := by decide +kernel
theorem dX6_dayGoes_86 : decode cX6_dayGoes 86 = .ok (.iload 4, 2) := by decide +kernel
theorem dX6_dayGoes_88 : decode cX6_dayGoes 88 = .ok (.bipush (-4), 2) := by decide +kernel
theorem dX6_dayGoes_90 : decode cX6_dayGoes 90 = .ok (.iastore, 1) := by decide +kernel
theorem dX6_dayGoes_91 : decode cX6_dayGoes 91 = .ok (.iinc 4 1, 3) := by decide +kernel
theorem dX6_dayGoes_94 : decode cX6_dayGoes 94 = .ok (.goto (-81), 3) := by decide +kernel
theorem dX6_dayGoes_97 : decode cX6_dayGoes 97 = .ok (.iconst 0, 1) := by decide +kernel
theorem dX6_dayGoes_98 : decode cX6_dayGoes 98 = .ok (.istore 4, 2) := by decide +kernel
theorem dX6_dayGoes_100 : decode cX6_dayGoes 100 = .ok (.iload 4, 2) := by decide +kernel
theorem dX6_dayGoes_102 : decode cX6_dayGoes 102 = .ok (.iload_n 2, 1) := by decide +kernel
theorem dX6_dayGoes_103 : decode cX6_dayGoes 103 = .ok (.if_icmp .ge 95, 3) := by decide +kernel
theorem dX6_dayGoes_106 : decode cX6_dayGoes 106 = .ok (.iconst 0, 1) := by decide +kernel
theorem dX6_dayGoes_107 : decode cX6_dayGoes 107 = .ok (.istore 5, 2) := by decide +kernel
theorem dX6_dayGoes_109 : decode cX6_dayGoes 109 = .ok (.iload 5, 2) := by decide +kernel
theorem dX6_dayGoes_111 : decode cX6_dayGoes 111 = .ok (.iload_n 3, 1) := by decide +kernel
theorem dX6_dayGoes_112 : decode cX6_dayGoes 112 = .ok (.if_icmp .ge 45, 3) := by decide +kernel
theorem dX6_dayGoes_115 : decode cX6_dayGoes 115 = .ok (.aload_n 0, 1) := by decide +kernel
theorem dX6_dayGoes_116 : decode cX6_dayGoes 116 = .ok (.getfield 34, 3) := by decide +kernel
theorem dX6_dayGoes_119 : decode cX6_dayGoes 119 = .ok (.iload 5, 2) := by decide +kernel
theorem dX6_dayGoes_121 : decode cX6_dayGoes 121 = .ok (.iaload, 1) := by decide +kernel
theorem dX6_dayGoes_122 : decode cX6_dayGoes 122 = .ok (.ifCond .ne 29, 3) := by decide +kernel
theorem dX6_dayGoes_125 : decode cX6_dayGoes 125 = .ok (.aload_n 0, 1) := by decide +kernel
theorem dX6_dayGoes_126 : decode cX6_dayGoes 126 = .ok (.getfield 7, 3) := by decide +kernel
theorem dX6_dayGoes_129 : decode cX6_dayGoes 129 = .ok (.iload_n 1, 1) := by decide +kernel
theorem dX6_dayGoes_130 : decode cX6_dayGoes 130 = .ok (.bipush 12, 2) := by decide +kernel
theorem dX6_dayGoes_132 : decode cX6_dayGoes 132 = .ok (.iadd, 1) := by decide +kernel
theorem dX6_dayGoes_133 : decode cX6_dayGoes 133 = .ok (.iload 5, 2) := by decide +kernel
theorem dX6_dayGoes_135 : decode cX6_dayGoes 135 = .ok (.iadd, 1) := by decide +kernel
theorem dX6_dayGoes_136 : decode cX6_dayGoes 136 = .ok (.iaload, 1) := by decide +kernel
theorem dX6_dayGoes_137 : decode cX6_dayGoes 137 = .ok (.iload 4, 2) := by decide +kernel
theorem dX6_dayGoes_139 : decode cX6_dayGoes 139 = .ok (.if_icmp .gt 12, 3) := by decide +kernel
theorem dX6_dayGoes_142 : decode cX6_dayGoes 142 = .ok (.aload_n 0, 1) := by decide +kernel
theorem dX6_dayGoes_143 : decode cX6_dayGoes 143 = .ok (.iload_n 1, 1) := by decide +kernel
theorem dX6_dayGoes_144 : decode cX6_dayGoes 144 = .ok (.iload 5, 2) := by decide +kernel
theorem dX6_dayGoes_146 : decode cX6_dayGoes 146 = .ok (.iload 4, 2) := by decide +kernel
theorem dX6_dayGoes_148 : decode cX6_dayGoes 148 = .ok (.invokevirtual 201, 3) := by decide +kernel
theorem dX6_dayGoes_151 : decode cX6_dayGoes 151 = .ok (.iinc 5 1, 3) := by decide +kernel
theorem dX6_dayGoes_154 : decode cX6_dayGoes 154 = .ok (.goto (-45), 3) := by decide +kernel
theorem dX6_dayGoes_157 : decode cX6_dayGoes 157 = .ok (.iconst 0, 1) := by decide +kernel
theorem dX6_dayGoes_158 : decode cX6_dayGoes 158 = .ok (.istore 5, 2) := by decide +kernel
theorem dX6_dayGoes_160 : decode cX6_dayGoes 160 = .ok (.iload 5, 2) := by decide +kernel
theorem dX6_dayGoes_162 : decode cX6_dayGoes 162 = .ok (.iload_n 3, 1) := by decide +kernel
theorem dX6_dayGoes_163 : decode cX6_dayGoes 163 = .ok (.if_icmp .ge 29, 3) := by decide +kernel
theorem dX6_dayGoes_166 : decode cX6_dayGoes 166 = .ok (.aload_n 0, 1) := by decide +kernel
theorem dX6_dayGoes_167 : decode cX6_dayGoes 167 = .ok (.getfield 34, 3) := by decide +kernel
theorem dX6_dayGoes_170 : decode cX6_dayGoes 170 = .ok (.iload 5, 2) := by decide +kernel
theorem dX6_dayGoes_172 : decode cX6_dayGoes 172 = .ok (.iaload, 1) := by decide +kernel
theorem dX6_dayGoes_173 : decode cX6_dayGoes 173 = .ok (.iconst 2, 1) := by decide +kernel
theorem dX6_dayGoes_174 : decode cX6_dayGoes 174 = .ok (.if_icmp .ne 12, 3) := by decide +kernel
theorem dX6_dayGoes_177 : decode cX6_dayGoes 177 = .ok (.aload_n 0, 1) := by decide +kernel
theorem dX6_dayGoes_178 : decode cX6_dayGoes 178 = .ok (.iload_n 1, 1) := by decide +kernel
theorem dX6_dayGoes_179 : decode cX6_dayGoes 179 = .ok (.iload 5, 2) := by decide +kernel
theorem dX6_dayGoes_181 : decode cX6_dayGoes 181 = .ok (.iload 4, 2) := by decide +kernel
theorem dX6_dayGoes_183 : decode cX6_dayGoes 183 = .ok (.invokevirtual 205, 3) := by decide +kernel
theorem dX6_dayGoes_186 : decode cX6_dayGoes 186 = .ok (.iinc 5 1, 3) := by decide +kernel
theorem dX6_dayGoes_189 : decode cX6_dayGoes 189 = .ok (.goto (-29), 3) := by decide +kernel
theorem dX6_dayGoes_192 : decode cX6_dayGoes 192 = .ok (.iinc 4 1, 3) := by decide +kernel
theorem dX6_dayGoes_195 : decode cX6_dayGoes 195 = .ok (.goto (-95), 3) := by decide +kernel
theorem dX6_dayGoes_198 : decode cX6_dayGoes 198 = .ok (.return_, 1) := by decide +kernel
theorem dX6_estatesOf_0 : decode cX6_estatesOf 0 = .ok (.iconst 0, 1) := by decide +kernel
theorem dX6_estatesOf_1 : decode cX6_estatesOf 1 = .ok (.istore_n 3, 1) := by decide +kernel
theorem dX6_estatesOf_2 : decode cX6_estatesOf 2 = .ok (.iconst 0, 1) := by decide +kernel
theorem dX6_estatesOf_3 : decode cX6_estatesOf 3 = .ok (.istore 4, 2) := by decide +kernel
theorem dX6_estatesOf_5 : decode cX6_estatesOf 5 = .ok (.iload 4, 2) := by decide +kernel
theorem dX6_estatesOf_7 : decode cX6_estatesOf 7 = .ok (.aload_n 0, 1) := by decide +kernel
theorem dX6_estatesOf_8 : decode cX6_estatesOf 8 = .ok (.getfield 7, 3) := by decide +kernel
theorem dX6_estatesOf_11 : decode cX6_estatesOf 11 = .ok (.iload_n 1, 1) := by decide +kernel
theorem dX6_estatesOf_12 : decode cX6_estatesOf 12 = .ok (.bipush 20, 2) := by decide +kernel
theorem dX6_estatesOf_14 : decode cX6_estatesOf 14 = .ok (.iadd, 1) := by decide +kernel
theorem dX6_estatesOf_15 : decode cX6_estatesOf 15 = .ok (.iaload, 1) := by decide +kernel
theorem dX6_estatesOf_16 : decode cX6_estatesOf 16 = .ok (.if_icmp .ge 56, 3) := by decide +kernel
theorem dX6_estatesOf_19 : decode cX6_estatesOf 19 = .ok (.iload_n 3, 1) := by decide +kernel
theorem dX6_estatesOf_20 : decode cX6_estatesOf 20 = .ok (.aload_n 0, 1) := by decide +kernel
theorem dX6_estatesOf_21 : decode cX6_estatesOf 21 = .ok (.getfield 34, 3) := by decide +kernel
theorem dX6_estatesOf_24 : decode cX6_estatesOf 24 = .ok (.iload 4, 2) := by decide +kernel
theorem dX6_estatesOf_26 : decode cX6_estatesOf 26 = .ok (.iaload, 1) := by decide +kernel
theorem dX6_estatesOf_27 : decode cX6_estatesOf 27 = .ok (.iconst 1, 1) := by decide +kernel
theorem dX6_estatesOf_28 : decode cX6_estatesOf 28 = .ok (.if_icmp .ne 35, 3) := by decide +kernel
theorem dX6_estatesOf_31 : decode cX6_estatesOf 31 = .ok (.iload_n 2, 1) := by decide +kernel
theorem dX6_estatesOf_32 : decode cX6_estatesOf 32 = .ok (.bipush (-4), 2) := by decide +kernel
theorem dX6_estatesOf_34 : decode cX6_estatesOf 34 = .ok (.if_icmp .eq 14, 3) := by decide +kernel
theorem dX6_estatesOf_37 : decode cX6_estatesOf 37 = .ok (.aload_n 0, 1) := by decide +kernel
theorem dX6_estatesOf_38 : decode cX6_estatesOf 38 = .ok (.getfield 40, 3) := by decide +kernel
theorem dX6_estatesOf_41 : decode cX6_estatesOf 41 = .ok (.iload 4, 2) := by decide +kernel
theorem dX6_estatesOf_43 : decode cX6_estatesOf 43 = .ok (.iaload, 1) := by decide +kernel
theorem dX6_estatesOf_44 : decode cX6_estatesOf 44 = .ok (.iload_n 2, 1) := by decide +kernel
theorem dX6_estatesOf_45 : decode cX6_estatesOf 45 = .ok (.if_icmp .ne 18, 3) := by decide +kernel
theorem dX6_estatesOf_48 : decode cX6_estatesOf 48 = .ok (.aload_n 0, 1) := by decide +kernel
theorem dX6_estatesOf_49 : decode cX6_estatesOf 49 = .ok (.getfield 7, 3) := by decide +kernel
theorem dX6_estatesOf_52 : decode cX6_estatesOf 52 = .ok (.iload_n 1, 1) := by decide +kernel
theorem dX6_estatesOf_53 : decode cX6_estatesOf 53 = .ok (.bipush 16, 2) := by decide +kernel
theorem dX6_estatesOf_55 : decode cX6_estatesOf 55 = .ok (.iadd, 1) := by decide +kernel
theorem dX6_estatesOf_56 : decode cX6_estatesOf 56 = .ok (.iload 4, 2) := by decide +kernel
theorem dX6_estatesOf_58 : decode cX6_estatesOf 58 = .ok (.iadd, 1) := by decide +kernel
theorem dX6_estatesOf_59 : decode cX6_estatesOf 59 = .ok (.iaload, 1) := by decide +kernel
theorem dX6_estatesOf_60 : decode cX6_estatesOf 60 = .ok (.goto 4, 3) := by decide +kernel
theorem dX6_estatesOf_63 : decode cX6_estatesOf 63 = .ok (.iconst 0, 1) := by decide +kernel
theorem dX6_estatesOf_64 : decode cX6_estatesOf 64 = .ok (.iadd, 1) := by decide +kernel
theorem dX6_estatesOf_65 : decode cX6_estatesOf 65 = .ok (.istore_n 3, 1) := by decide +kernel
theorem dX6_estatesOf_66 : decode cX6_estatesOf 66 = .ok (.iinc 4 1, 3) := by decide +kernel
theorem dX6_estatesOf_69 : decode cX6_estatesOf 69 = .ok (.goto (-64), 3) := by decide +kernel
theorem dX6_estatesOf_72 : decode cX6_estatesOf 72 = .ok (.iload_n 3, 1) := by decide +kernel
theorem dX6_estatesOf_73 : decode cX6_estatesOf 73 = .ok (.ireturn, 1) := by decide +kernel
theorem dX6_worth_0 : decode cX6_worth 0 = .ok (.aload_n 0, 1) := by decide +kernel
theorem dX6_worth_1 : decode cX6_worth 1 = .ok (.iload_n 1, 1) := by decide +kernel
theorem dX6_worth_2 : decode cX6_worth 2 = .ok (.bipush 24, 2) := by decide +kernel
theorem dX6_worth_4 : decode cX6_worth 4 = .ok (.invokevirtual 208, 3) := by decide +kernel
theorem dX6_worth_7 : decode cX6_worth 7 = .ok (.aload_n 0, 1) := by decide +kernel
theorem dX6_worth_8 : decode cX6_worth 8 = .ok (.iload_n 1, 1) := by decide +kernel
theorem dX6_worth_9 : decode cX6_worth 9 = .ok (.iload_n 2, 1) := by decide +kernel
theorem dX6_worth_10 : decode cX6_worth 10 = .ok (.invokevirtual 212, 3) := by decide +kernel
theorem dX6_worth_13 : decode cX6_worth 13 = .ok (.ireturn, 1) := by decide +kernel
theorem dX6_tubsOf_0 : decode cX6_tubsOf 0 = .ok (.iconst 0, 1) := by decide +kernel
theorem dX6_tubsOf_1 : decode cX6_tubsOf 1 = .ok (.istore_n 3, 1) := by decide +kernel
theorem dX6_tubsOf_2 : decode cX6_tubsOf 2 = .ok (.iconst 0, 1) := by decide +kernel
theorem dX6_tubsOf_3 : decode cX6_tubsOf 3 = .ok (.istore 4, 2) := by decide +kernel
theorem dX6_tubsOf_5 : decode cX6_tubsOf 5 = .ok (.iload 4, 2) := by decide +kernel
theorem dX6_tubsOf_7 : decode cX6_tubsOf 7 = .ok (.aload_n 0, 1) := by decide +kernel
theorem dX6_tubsOf_8 : decode cX6_tubsOf 8 = .ok (.getfield 7, 3) := by decide +kernel
theorem dX6_tubsOf_11 : decode cX6_tubsOf 11 = .ok (.bipush 20, 2) := by decide +kernel
theorem dX6_tubsOf_13 : decode cX6_tubsOf 13 = .ok (.iaload, 1) := by decide +kernel
theorem dX6_tubsOf_14 : decode cX6_tubsOf 14 = .ok (.if_icmp .ge 48, 3) := by decide +kernel
theorem dX6_tubsOf_17 : decode cX6_tubsOf 17 = .ok (.iload_n 3, 1) := by decide +kernel
theorem dX6_tubsOf_18 : decode cX6_tubsOf 18 = .ok (.aload_n 0, 1) := by decide +kernel
theorem dX6_tubsOf_19 : decode cX6_tubsOf 19 = .ok (.getfield 34, 3) := by decide +kernel
theorem dX6_tubsOf_22 : decode cX6_tubsOf 22 = .ok (.iload 4, 2) := by decide +kernel
theorem dX6_tubsOf_24 : decode cX6_tubsOf 24 = .ok (.iaload, 1) := by decide +kernel
theorem dX6_tubsOf_25 : decode cX6_tubsOf 25 = .ok (.iload_n 1, 1) := by decide +kernel
theorem dX6_tubsOf_26 : decode cX6_tubsOf 26 = .ok (.if_icmp .ne 27, 3) := by decide +kernel
theorem dX6_tubsOf_29 : decode cX6_tubsOf 29 = .ok (.iload_n 2, 1) := by decide +kernel
theorem dX6_tubsOf_30 : decode cX6_tubsOf 30 = .ok (.bipush (-4), 2) := by decide +kernel
theorem dX6_tubsOf_32 : decode cX6_tubsOf 32 = .ok (.if_icmp .eq 14, 3) := by decide +kernel
theorem dX6_tubsOf_35 : decode cX6_tubsOf 35 = .ok (.aload_n 0, 1) := by decide +kernel
theorem dX6_tubsOf_36 : decode cX6_tubsOf 36 = .ok (.getfield 40, 3) := by decide +kernel
theorem dX6_tubsOf_39 : decode cX6_tubsOf 39 = .ok (.iload 4, 2) := by decide +kernel
theorem dX6_tubsOf_41 : decode cX6_tubsOf 41 = .ok (.iaload, 1) := by decide +kernel
theorem dX6_tubsOf_42 : decode cX6_tubsOf 42 = .ok (.iload_n 2, 1) := by decide +kernel
theorem dX6_tubsOf_43 : decode cX6_tubsOf 43 = .ok (.if_icmp .ne 10, 3) := by decide +kernel
theorem dX6_tubsOf_46 : decode cX6_tubsOf 46 = .ok (.iconst 1, 1) := by decide +kernel
theorem dX6_tubsOf_47 : decode cX6_tubsOf 47 = .ok (.iload 4, 2) := by decide +kernel
theorem dX6_tubsOf_49 : decode cX6_tubsOf 49 = .ok (.ishl, 1) := by decide +kernel
theorem dX6_tubsOf_50 : decode cX6_tubsOf 50 = .ok (.goto 4, 3) := by decide +kernel
theorem dX6_tubsOf_53 : decode cX6_tubsOf 53 = .ok (.iconst 0, 1) := by decide +kernel
theorem dX6_tubsOf_54 : decode cX6_tubsOf 54 = .ok (.ior, 1) := by decide +kernel
theorem dX6_tubsOf_55 : decode cX6_tubsOf 55 = .ok (.istore_n 3, 1) := by decide +kernel
theorem dX6_tubsOf_56 : decode cX6_tubsOf 56 = .ok (.iinc 4 1, 3) := by decide +kernel
theorem dX6_tubsOf_59 : decode cX6_tubsOf 59 = .ok (.goto (-54), 3) := by decide +kernel
theorem dX6_tubsOf_62 : decode cX6_tubsOf 62 = .ok (.iload_n 3, 1) := by decide +kernel
theorem dX6_tubsOf_63 : decode cX6_tubsOf 63 = .ok (.ireturn, 1) := by decide +kernel
theorem dX6_fate_0 : decode cX6_fate 0 = .ok (.aload_n 0, 1) := by decide +kernel
theorem dX6_fate_1 : decode cX6_fate 1 = .ok (.iload_n 1, 1) := by decide +kernel
theorem dX6_fate_2 : decode cX6_fate 2 = .ok (.invokevirtual 173, 3) := by decide +kernel
theorem dX6_fate_5 : decode cX6_fate 5 = .ok (.ifCond .eq 15, 3) := by decide +kernel
theorem dX6_fate_8 : decode cX6_fate 8 = .ok (.iload_n 2, 1) := by decide +kernel
theorem dX6_fate_9 : decode cX6_fate 9 = .ok (.i2l, 1) := by decide +kernel
theorem dX6_fate_10 : decode cX6_fate 10 = .ok (.lconst 0, 1) := by decide +kernel
theorem dX6_fate_11 : decode cX6_fate 11 = .ok (.ldc2_w 182, 3) := by decide +kernel
theorem dX6_fate_14 : decode cX6_fate 14 = .ok (.invokestatic 73, 3) := by decide +kernel
theorem dX6_fate_17 : decode cX6_fate 17 = .ok (.ifCond .ne 5, 3) := by decide +kernel
theorem dX6_fate_20 : decode cX6_fate 20 = .ok (.iconst (-1), 1) := by decide +kernel
theorem dX6_fate_21 : decode cX6_fate 21 = .ok (.ireturn, 1) := by decide +kernel
theorem dX6_fate_22 : decode cX6_fate 22 = .ok (.aload_n 0, 1) := by decide +kernel
theorem dX6_fate_23 : decode cX6_fate 23 = .ok (.iconst 0, 1) := by decide +kernel
theorem dX6_fate_24 : decode cX6_fate 24 = .ok (.bipush 24, 2) := by decide +kernel
theorem dX6_fate_26 : decode cX6_fate 26 = .ok (.invokevirtual 208, 3) := by decide +kernel
theorem dX6_fate_29 : decode cX6_fate 29 = .ok (.iload_n 2, 1) := by decide +kernel
theorem dX6_fate_30 : decode cX6_fate 30 = .ok (.ifCond .ne 12, 3) := by decide +kernel
theorem dX6_fate_33 : decode cX6_fate 33 = .ok (.aload_n 0, 1) := by decide +kernel
theorem dX6_fate_34 : decode cX6_fate 34 = .ok (.getfield 34, 3) := by decide +kernel
theorem dX6_fate_37 : decode cX6_fate 37 = .ok (.iload_n 1, 1) := by decide +kernel
theorem dX6_fate_38 : decode cX6_fate 38 = .ok (.iaload, 1) := by decide +kernel
theorem dX6_fate_39 : decode cX6_fate 39 = .ok (.goto 37, 3) := by decide +kernel
theorem dX6_fate_42 : decode cX6_fate 42 = .ok (.iload_n 2, 1) := by decide +kernel
theorem dX6_fate_43 : decode cX6_fate 43 = .ok (.iconst 1, 1) := by decide +kernel
theorem dX6_fate_44 : decode cX6_fate 44 = .ok (.if_icmp .ne 12, 3) := by decide +kernel
theorem dX6_fate_47 : decode cX6_fate 47 = .ok (.aload_n 0, 1) := by decide +kernel
theorem dX6_fate_48 : decode cX6_fate 48 = .ok (.getfield 40, 3) := by decide +kernel
theorem dX6_fate_51 : decode cX6_fate 51 = .ok (.iload_n 1, 1) := by decide +kernel
theorem dX6_fate_52 : decode cX6_fate 52 = .ok (.iaload, 1) := by decide +kernel
theorem dX6_fate_53 : decode cX6_fate 53 = .ok (.goto 23, 3) := by decide +kernel
theorem dX6_fate_56 : decode cX6_fate 56 = .ok (.iload_n 2, 1) := by decide +kernel
theorem dX6_fate_57 : decode cX6_fate 57 = .ok (.iconst 2, 1) := by decide +kernel
theorem dX6_fate_58 : decode cX6_fate 58 = .ok (.if_icmp .ne 12, 3) := by decide +kernel
theorem dX6_fate_61 : decode cX6_fate 61 = .ok (.aload_n 0, 1) := by decide +kernel
theorem dX6_fate_62 : decode cX6_fate 62 = .ok (.getfield 37, 3) := by decide +kernel
theorem dX6_fate_65 : decode cX6_fate 65 = .ok (.iload_n 1, 1) := by decide +kernel
theorem dX6_fate_66 : decode cX6_fate 66 = .ok (.iaload, 1) := by decide +kernel
theorem dX6_fate_67 : decode cX6_fate 67 = .ok (.goto 9, 3) := by decide +kernel
theorem dX6_fate_70 : decode cX6_fate 70 = .ok (.aload_n 0, 1) := by decide +kernel
theorem dX6_fate_71 : decode cX6_fate 71 = .ok (.getfield 43, 3) := by decide +kernel
theorem dX6_fate_74 : decode cX6_fate 74 = .ok (.iload_n 1, 1) := by decide +kernel
theorem dX6_fate_75 : decode cX6_fate 75 = .ok (.iaload, 1) := by decide +kernel
theorem dX6_fate_76 : decode cX6_fate 76 = .ok (.ireturn, 1) := by decide +kernel
theorem dX6_where_0 : decode cX6_where 0 = .ok (.aload_n 0, 1) := by decide +kernel
theorem dX6_where_1 : decode cX6_where 1 = .ok (.iload_n 1, 1) := by decide +kernel
theorem dX6_where_2 : decode cX6_where 2 = .ok (.invokevirtual 173, 3) := by decide +kernel
theorem dX6_where_5 : decode cX6_where 5 = .ok (.ifCond .eq 27, 3) := by decide +kernel
theorem dX6_where_8 : decode cX6_where 8 = .ok (.iload_n 2, 1) := by decide +kernel
theorem dX6_where_9 : decode cX6_where 9 = .ok (.i2l, 1) := by decide +kernel
theorem dX6_where_10 : decode cX6_where 10 = .ok (.lconst 0, 1) := by decide +kernel
theorem dX6_where_11 : decode cX6_where 11 = .ok (.ldc2_w 216, 3) := by decide +kernel
theorem dX6_where_14 : decode cX6_where 14 = .ok (.invokestatic 73, 3) := by decide +kernel
theorem dX6_where_17 : decode cX6_where 17 = .ok (.ifCond .eq 15, 3) := by decide +kernel
theorem dX6_where_20 : decode cX6_where 20 = .ok (.iload_n 3, 1) := by decide +kernel
theorem dX6_where_21 : decode cX6_where 21 = .ok (.i2l, 1) := by decide +kernel
theorem dX6_where_22 : decode cX6_where 22 = .ok (.lconst 0, 1) := by decide +kernel
theorem dX6_where_23 : decode cX6_where 23 = .ok (.ldc2_w 218, 3) := by decide +kernel
theorem dX6_where_26 : decode cX6_where 26 = .ok (.invokestatic 73, 3) := by decide +kernel
theorem dX6_where_29 : decode cX6_where 29 = .ok (.ifCond .ne 5, 3) := by decide +kernel
theorem dX6_where_32 : decode cX6_where 32 = .ok (.iconst (-1), 1) := by decide +kernel
theorem dX6_where_33 : decode cX6_where 33 = .ok (.ireturn, 1) := by decide +kernel
theorem dX6_where_34 : decode cX6_where 34 = .ok (.aload_n 0, 1) := by decide +kernel
theorem dX6_where_35 : decode cX6_where 35 = .ok (.iconst 0, 1) := by decide +kernel
theorem dX6_where_36 : decode cX6_where 36 = .ok (.iload_n 2, 1) := by decide +kernel
theorem dX6_where_37 : decode cX6_where 37 = .ok (.invokevirtual 208, 3) := by decide +kernel
theorem dX6_where_40 : decode cX6_where 40 = .ok (.iload_n 3, 1) := by decide +kernel
theorem dX6_where_41 : decode cX6_where 41 = .ok (.ifCond .ne 15, 3) := by decide +kernel
theorem dX6_where_44 : decode cX6_where 44 = .ok (.bipush 10, 2) := by decide +kernel
theorem dX6_where_46 : decode cX6_where 46 = .ok (.aload_n 0, 1) := by decide +kernel
theorem dX6_where_47 : decode cX6_where 47 = .ok (.getfield 28, 3) := by decide +kernel
theorem dX6_where_50 : decode cX6_where 50 = .ok (.iload_n 1, 1) := by decide +kernel
theorem dX6_where_51 : decode cX6_where 51 = .ok (.iaload, 1) := by decide +kernel
theorem dX6_where_52 : decode cX6_where 52 = .ok (.iadd, 1) := by decide +kernel
theorem dX6_where_53 : decode cX6_where 53 = .ok (.goto 23, 3) := by decide +kernel
theorem dX6_where_56 : decode cX6_where 56 = .ok (.iload_n 3, 1) := by decide +kernel
theorem dX6_where_57 : decode cX6_where 57 = .ok (.iconst 1, 1) := by decide +kernel
theorem dX6_where_58 : decode cX6_where 58 = .ok (.if_icmp .ne 12, 3) := by decide +kernel
theorem dX6_where_61 : decode cX6_where 61 = .ok (.aload_n 0, 1) := by decide +kernel
theorem dX6_where_62 : decode cX6_where 62 = .ok (.getfield 31, 3) := by decide +kernel
theorem dX6_where_65 : decode cX6_where 65 = .ok (.iload_n 1, 1) := by decide +kernel
theorem dX6_where_66 : decode cX6_where 66 = .ok (.iaload, 1) := by decide +kernel
theorem dX6_where_67 : decode cX6_where 67 = .ok (.goto 9, 3) := by decide +kernel
theorem dX6_where_70 : decode cX6_where 70 = .ok (.aload_n 0, 1) := by decide +kernel
theorem dX6_where_71 : decode cX6_where 71 = .ok (.getfield 34, 3) := by decide +kernel
theorem dX6_where_74 : decode cX6_where 74 = .ok (.iload_n 1, 1) := by decide +kernel
theorem dX6_where_75 : decode cX6_where 75 = .ok (.iaload, 1) := by decide +kernel
theorem dX6_where_76 : decode cX6_where 76 = .ok (.ireturn, 1) := by decide +kernel
theorem dX6_has_0 : decode cX6_has 0 = .ok (.aload_n 0, 1) := by decide +kernel
theorem dX6_has_1 : decode cX6_has 1 = .ok (.iload_n 1, 1) := by decide +kernel
theorem dX6_has_2 : decode cX6_has 2 = .ok (.invokevirtual 179, 3) := by decide +kernel
theorem dX6_has_5 : decode cX6_has 5 = .ok (.ifCond .eq 13, 3) := by decide +kernel
theorem dX6_has_8 : decode cX6_has 8 = .ok (.iload_n 2, 1) := by decide +kernel
theorem dX6_has_9 : decode cX6_has 9 = .ok (.i2l, 1) := by decide +kernel
theorem dX6_has_10 : decode cX6_has 10 = .ok (.lconst 0, 1) := by decide +kernel
theorem dX6_has_11 : decode cX6_has 11 = .ok (.lconst 1, 1) := by decide +kernel
theorem dX6_has_12 : decode cX6_has 12 = .ok (.invokestatic 73, 3) := by decide +kernel
theorem dX6_has_15 : decode cX6_has 15 = .ok (.ifCond .ne 5, 3) := by decide +kernel
theorem dX6_has_18 : decode cX6_has 18 = .ok (.iconst (-1), 1) := by decide +kernel
theorem dX6_has_19 : decode cX6_has 19 = .ok (.ireturn, 1) := by decide +kernel
theorem dX6_has_20 : decode cX6_has 20 = .ok (.aload_n 0, 1) := by decide +kernel
theorem dX6_has_21 : decode cX6_has 21 = .ok (.iconst 0, 1) := by decide +kernel
theorem dX6_has_22 : decode cX6_has 22 = .ok (.iload_n 1, 1) := by decide +kernel
theorem dX6_has_23 : decode cX6_has 23 = .ok (.invokevirtual 220, 3) := by decide +kernel
theorem dX6_has_26 : decode cX6_has 26 = .ok (.istore_n 3, 1) := by decide +kernel
theorem dX6_has_27 : decode cX6_has 27 = .ok (.iload_n 2, 1) := by decide +kernel
theorem dX6_has_28 : decode cX6_has 28 = .ok (.ifCond .ne 7, 3) := by decide +kernel
theorem dX6_has_31 : decode cX6_has 31 = .ok (.iload_n 3, 1) := by decide +kernel
theorem dX6_has_32 : decode cX6_has 32 = .ok (.goto 9, 3) := by decide +kernel
theorem dX6_has_35 : decode cX6_has 35 = .ok (.aload_n 0, 1) := by decide +kernel
theorem dX6_has_36 : decode cX6_has 36 = .ok (.iconst 1, 1) := by decide +kernel
theorem dX6_has_37 : decode cX6_has 37 = .ok (.iload_n 1, 1) := by decide +kernel
theorem dX6_has_38 : decode cX6_has 38 = .ok (.invokevirtual 223, 3) := by decide +kernel
theorem dX6_has_41 : decode cX6_has 41 = .ok (.ireturn, 1) := by decide +kernel
theorem dX6_all_0 : decode cX6_all 0 = .ok (.iload_n 1, 1) := by decide +kernel
theorem dX6_all_1 : decode cX6_all 1 = .ok (.i2l, 1) := by decide +kernel
theorem dX6_all_2 : decode cX6_all 2 = .ok (.lconst 0, 1) := by decide +kernel
theorem dX6_all_3 : decode cX6_all 3 = .ok (.ldc2_w 189, 3) := by decide +kernel
theorem dX6_all_6 : decode cX6_all 6 = .ok (.invokestatic 73, 3) := by decide +kernel
theorem dX6_all_9 : decode cX6_all 9 = .ok (.ifCond .ne 5, 3) := by decide +kernel
theorem dX6_all_12 : decode cX6_all 12 = .ok (.iconst (-1), 1) := by decide +kernel
theorem dX6_all_13 : decode cX6_all 13 = .ok (.ireturn, 1) := by decide +kernel
theorem dX6_all_14 : decode cX6_all 14 = .ok (.aload_n 0, 1) := by decide +kernel
theorem dX6_all_15 : decode cX6_all 15 = .ok (.iconst 0, 1) := by decide +kernel
theorem dX6_all_16 : decode cX6_all 16 = .ok (.bipush (-4), 2) := by decide +kernel
theorem dX6_all_18 : decode cX6_all 18 = .ok (.invokevirtual 220, 3) := by decide +kernel
theorem dX6_all_21 : decode cX6_all 21 = .ok (.istore_n 2, 1) := by decide +kernel
theorem dX6_all_22 : decode cX6_all 22 = .ok (.iload_n 1, 1) := by decide +kernel
theorem dX6_all_23 : decode cX6_all 23 = .ok (.iconst 4, 1) := by decide +kernel
theorem dX6_all_24 : decode cX6_all 24 = .ok (.if_icmp .ne 7, 3) := by decide +kernel
theorem dX6_all_27 : decode cX6_all 27 = .ok (.iload_n 2, 1) := by decide +kernel
theorem dX6_all_28 : decode cX6_all 28 = .ok (.goto 10, 3) := by decide +kernel
theorem dX6_all_31 : decode cX6_all 31 = .ok (.aload_n 0, 1) := by decide +kernel
theorem dX6_all_32 : decode cX6_all 32 = .ok (.iload_n 1, 1) := by decide +kernel
theorem dX6_all_33 : decode cX6_all 33 = .ok (.bipush (-4), 2) := by decide +kernel
theorem dX6_all_35 : decode cX6_all 35 = .ok (.invokevirtual 223, 3) := by decide +kernel
theorem dX6_all_38 : decode cX6_all 38 = .ok (.ireturn, 1) := by decide +kernel
theorem dX6_copies_0 : decode cX6_copies 0 = .ok (.iconst 0, 1) := by decide +kernel
theorem dX6_copies_1 : decode cX6_copies 1 = .ok (.istore_n 3, 1) := by decide +kernel
theorem dX6_copies_2 : decode cX6_copies 2 = .ok (.iload_n 3, 1) := by decide +kernel
theorem dX6_copies_3 : decode cX6_copies 3 = .ok (.bipush 72, 2) := by decide +kernel
theorem dX6_copies_5 : decode cX6_copies 5 = .ok (.if_icmp .ge 25, 3) := by decide +kernel
theorem dX6_copies_8 : decode cX6_copies 8 = .ok (.aload_n 0, 1) := by decide +kernel
theorem dX6_copies_9 : decode cX6_copies 9 = .ok (.getfield 7, 3) := by decide +kernel
theorem dX6_copies_12 : decode cX6_copies 12 = .ok (.iload_n 2, 1) := by decide +kernel
theorem dX6_copies_13 : decode cX6_copies 13 = .ok (.iload_n 3, 1) := by decide +kernel
theorem dX6_copies_14 : decode cX6_copies 14 = .ok (.iadd, 1) := by decide +kernel
theorem dX6_copies_15 : decode cX6_copies 15 = .ok (.aload_n 0, 1) := by decide +kernel
theorem dX6_copies_16 : decode cX6_copies 16 = .ok (.getfield 7, 3) := by decide +kernel
theorem dX6_copies_19 : decode cX6_copies 19 = .ok (.iload_n 1, 1) := by decide +kernel
theorem dX6_copies_20 : decode cX6_copies 20 = .ok (.iload_n 3, 1) := by decide +kernel
theorem dX6_copies_21 : decode cX6_copies 21 = .ok (.iadd, 1) := by decide +kernel
theorem dX6_copies_22 : decode cX6_copies 22 = .ok (.iaload, 1) := by decide +kernel
theorem dX6_copies_23 : decode cX6_copies 23 = .ok (.iastore, 1) := by decide +kernel
theorem dX6_copies_24 : decode cX6_copies 24 = .ok (.iinc 3 1, 3) := by decide +kernel
theorem dX6_copies_27 : decode cX6_copies 27 = .ok (.goto (-25), 3) := by decide +kernel
theorem dX6_copies_30 : decode cX6_copies 30 = .ok (.return_, 1) := by decide +kernel
theorem dX6_isHooked_0 : decode cX6_isHooked 0 = .ok (.aload_n 0, 1) := by decide +kernel
theorem dX6_isHooked_1 : decode cX6_isHooked 1 = .ok (.sipush 288, 3) := by decide +kernel
theorem dX6_isHooked_4 : decode cX6_isHooked 4 = .ok (.bipush 24, 2) := by decide +kernel
theorem dX6_isHooked_6 : decode cX6_isHooked 6 = .ok (.invokevirtual 208, 3) := by decide +kernel
theorem dX6_isHooked_9 : decode cX6_isHooked 9 = .ok (.aload_n 0, 1) := by decide +kernel
theorem dX6_isHooked_10 : decode cX6_isHooked 10 = .ok (.getfield 34, 3) := by decide +kernel
theorem dX6_isHooked_13 : decode cX6_isHooked 13 = .ok (.iload_n 1, 1) := by decide +kernel
theorem dX6_isHooked_14 : decode cX6_isHooked 14 = .ok (.iaload, 1) := by decide +kernel
theorem dX6_isHooked_15 : decode cX6_isHooked 15 = .ok (.iconst 1, 1) := by decide +kernel
theorem dX6_isHooked_16 : decode cX6_isHooked 16 = .ok (.if_icmp .ne 17, 3) := by decide +kernel
theorem dX6_isHooked_19 : decode cX6_isHooked 19 = .ok (.aload_n 0, 1) := by decide +kernel
theorem dX6_isHooked_20 : decode cX6_isHooked 20 = .ok (.getfield 40, 3) := by decide +kernel
theorem dX6_isHooked_23 : decode cX6_isHooked 23 = .ok (.iload_n 1, 1) := by decide +kernel
theorem dX6_isHooked_24 : decode cX6_isHooked 24 = .ok (.iaload, 1) := by decide +kernel
theorem dX6_isHooked_25 : decode cX6_isHooked 25 = .ok (.iload_n 2, 1) := by decide +kernel
theorem dX6_isHooked_26 : decode cX6_isHooked 26 = .ok (.if_icmp .ne 7, 3) := by decide +kernel
theorem dX6_isHooked_29 : decode cX6_isHooked 29 = .ok (.iconst 1, 1) := by decide +kernel
theorem dX6_isHooked_30 : decode cX6_isHooked 30 = .ok (.goto 4, 3) := by decide +kernel
theorem dX6_isHooked_33 : decode cX6_isHooked 33 = .ok (.iconst 0, 1) := by decide +kernel
theorem dX6_isHooked_34 : decode cX6_isHooked 34 = .ok (.ireturn, 1) := by decide +kernel
theorem dX6_when_0 : decode cX6_when 0 = .ok (.aload_n 0, 1) := by decide +kernel
theorem dX6_when_1 : decode cX6_when 1 = .ok (.iload_n 1, 1) := by decide +kernel
theorem dX6_when_2 : decode cX6_when 2 = .ok (.invokevirtual 173, 3) := by decide +kernel
theorem dX6_when_5 : decode cX6_when 5 = .ok (.ifCond .eq 11, 3) := by decide +kernel
theorem dX6_when_8 : decode cX6_when 8 = .ok (.aload_n 0, 1) := by decide +kernel
theorem dX6_when_9 : decode cX6_when 9 = .ok (.iload_n 2, 1) := by decide +kernel
theorem dX6_when_10 : decode cX6_when 10 = .ok (.invokevirtual 179, 3) := by decide +kernel
theorem dX6_when_13 : decode cX6_when 13 = .ok (.ifCond .ne 5, 3) := by decide +kernel
theorem dX6_when_16 : decode cX6_when 16 = .ok (.iconst (-1), 1) := by decide +kernel
theorem dX6_when_17 : decode cX6_when 17 = .ok (.ireturn, 1) := by decide +kernel
theorem dX6_when_18 : decode cX6_when 18 = .ok (.aload_n 0, 1) := by decide +kernel
theorem dX6_when_19 : decode cX6_when 19 = .ok (.iconst 0, 1) := by decide +kernel
theorem dX6_when_20 : decode cX6_when 20 = .ok (.sipush 288, 3) := by decide +kernel
theorem dX6_when_23 : decode cX6_when 23 = .ok (.invokevirtual 226, 3) := by decide +kernel
theorem dX6_when_26 : decode cX6_when 26 = .ok (.iconst 0, 1) := by decide +kernel
theorem dX6_when_27 : decode cX6_when 27 = .ok (.istore_n 3, 1) := by decide +kernel
theorem dX6_when_28 : decode cX6_when 28 = .ok (.iload_n 3, 1) := by decide +kernel
theorem dX6_when_29 : decode cX6_when 29 = .ok (.bipush 24, 2) := by decide +kernel
theorem dX6_when_31 : decode cX6_when 31 = .ok (.if_icmp .ge 31, 3) := by decide +kernel
theorem dX6_when_34 : decode cX6_when 34 = .ok (.aload_n 0, 1) := by decide +kernel
theorem dX6_when_35 : decode cX6_when 35 = .ok (.getfield 7, 3) := by decide +kernel
theorem dX6_when_38 : decode cX6_when 38 = .ok (.sipush 300, 3) := by decide +kernel
theorem dX6_when_41 : decode cX6_when 41 = .ok (.iload_n 1, 1) := by decide +kernel
theorem dX6_when_42 : decode cX6_when 42 = .ok (.iadd, 1) := by decide +kernel
theorem dX6_when_43 : decode cX6_when 43 = .ok (.iload_n 3, 1) := by decide +kernel
theorem dX6_when_44 : decode cX6_when 44 = .ok (.iastore, 1) := by decide +kernel
theorem dX6_when_45 : decode cX6_when 45 = .ok (.aload_n 0, 1) := by decide +kernel
theorem dX6_when_46 : decode cX6_when 46 = .ok (.iload_n 1, 1) := by decide +kernel
theorem dX6_when_47 : decode cX6_when 47 = .ok (.iload_n 2, 1) := by decide +kernel
theorem dX6_when_48 : decode cX6_when 48 = .ok (.invokevirtual 229, 3) := by decide +kernel
theorem dX6_when_51 : decode cX6_when 51 = .ok (.ifCond .eq 5, 3) := by decide +kernel
theorem dX6_when_54 : decode cX6_when 54 = .ok (.iload_n 3, 1) := by decide +kernel
theorem dX6_when_55 : decode cX6_when 55 = .ok (.ireturn, 1) := by decide +kernel
theorem dX6_when_56 : decode cX6_when 56 = .ok (.iinc 3 1, 3) := by decide +kernel
theorem dX6_when_59 : decode cX6_when 59 = .ok (.goto (-31), 3) := by decide +kernel
theorem dX6_when_62 : decode cX6_when 62 = .ok (.bipush (-4), 2) := by decide +kernel
theorem dX6_when_64 : decode cX6_when 64 = .ok (.ireturn, 1) := by decide +kernel
theorem dX6_aim_0 : decode cX6_aim 0 = .ok (.aload_n 0, 1) := by decide +kernel
theorem dX6_aim_1 : decode cX6_aim 1 = .ok (.iload_n 1, 1) := by decide +kernel
theorem dX6_aim_2 : decode cX6_aim 2 = .ok (.invokevirtual 173, 3) := by decide +kernel
theorem dX6_aim_5 : decode cX6_aim 5 = .ok (.ifCond .eq 11, 3) := by decide +kernel
theorem dX6_aim_8 : decode cX6_aim 8 = .ok (.aload_n 0, 1) := by decide +kernel
theorem dX6_aim_9 : decode cX6_aim 9 = .ok (.iload_n 2, 1) := by decide +kernel
theorem dX6_aim_10 : decode cX6_aim 10 = .ok (.invokevirtual 179, 3) := by decide +kernel
theorem dX6_aim_13 : decode cX6_aim 13 = .ok (.ifCond .ne 5, 3) := by decide +kernel
theorem dX6_aim_16 : decode cX6_aim 16 = .ok (.iconst (-1), 1) := by decide +kernel
theorem dX6_aim_17 : decode cX6_aim 17 = .ok (.ireturn, 1) := by decide +kernel
theorem dX6_aim_18 : decode cX6_aim 18 = .ok (.aload_n 0, 1) := by decide +kernel
theorem dX6_aim_19 : decode cX6_aim 19 = .ok (.iconst 0, 1) := by decide +kernel
theorem dX6_aim_20 : decode cX6_aim 20 = .ok (.sipush 288, 3) := by decide +kernel
theorem dX6_aim_23 : decode cX6_aim 23 = .ok (.invokevirtual 226, 3) := by decide +kernel
theorem dX6_aim_26 : decode cX6_aim 26 = .ok (.iconst 0, 1) := by decide +kernel
theorem dX6_aim_27 : decode cX6_aim 27 = .ok (.istore_n 3, 1) := by decide +kernel
theorem dX6_aim_28 : decode cX6_aim 28 = .ok (.iload_n 3, 1) := by decide +kernel
theorem dX6_aim_29 : decode cX6_aim 29 = .ok (.bipush 100, 2) := by decide +kernel
theorem dX6_aim_31 : decode cX6_aim 31 = .ok (.if_icmp .ge 55, 3) := by decide +kernel
theorem dX6_aim_34 : decode cX6_aim 34 = .ok (.aload_n 0, 1) := by decide +kernel
theorem dX6_aim_35 : decode cX6_aim 35 = .ok (.getfield 7, 3) := by decide +kernel
theorem dX6_aim_38 : decode cX6_aim 38 = .ok (.sipush 292, 3) := by decide +kernel
theorem dX6_aim_41 : decode cX6_aim 41 = .ok (.iload_n 1, 1) := by decide +kernel
theorem dX6_aim_42 : decode cX6_aim 42 = .ok (.iadd, 1) := by decide +kernel
theorem dX6_aim_43 : decode cX6_aim 43 = .ok (.iload_n 3, 1) := by decide +kernel
theorem dX6_aim_44 : decode cX6_aim 44 = .ok (.bipush 10, 2) := by decide +kernel
theorem dX6_aim_46 : decode cX6_aim 46 = .ok (.idiv, 1) := by decide +kernel
theorem dX6_aim_47 : decode cX6_aim 47 = .ok (.iastore, 1) := by decide +kernel
theorem dX6_aim_48 : decode cX6_aim 48 = .ok (.aload_n 0, 1) := by decide +kernel
theorem dX6_aim_49 : decode cX6_aim 49 = .ok (.getfield 7, 3) := by decide +kernel
theorem dX6_aim_52 : decode cX6_aim 52 = .ok (.sipush 296, 3) := by decide +kernel
theorem dX6_aim_55 : decode cX6_aim 55 = .ok (.iload_n 1, 1) := by decide +kernel
theorem dX6_aim_56 : decode cX6_aim 56 = .ok (.iadd, 1) := by decide +kernel
theorem dX6_aim_57 : decode cX6_aim 57 = .ok (.iload_n 3, 1) := by decide +kernel
theorem dX6_aim_58 : decode cX6_aim 58 = .ok (.bipush 10, 2) := by decide +kernel
theorem dX6_aim_60 : decode cX6_aim 60 = .ok (.irem, 1) := by decide +kernel
theorem dX6_aim_61 : decode cX6_aim 61 = .ok (.iastore, 1) := by decide +kernel
theorem dX6_aim_62 : decode cX6_aim 62 = .ok (.iload_n 3, 1) := by decide +kernel
theorem dX6_aim_63 : decode cX6_aim 63 = .ok (.bipush 10, 2) := by decide +kernel
theorem dX6_aim_65 : decode cX6_aim 65 = .ok (.irem, 1) := by decide +kernel
theorem dX6_aim_66 : decode cX6_aim 66 = .ok (.ifCond .le 14, 3) := by decide +kernel
theorem dX6_aim_69 : decode cX6_aim 69 = .ok (.aload_n 0, 1) := by decide +kernel
theorem dX6_aim_70 : decode cX6_aim 70 = .ok (.iload_n 1, 1) := by decide +kernel
theorem dX6_aim_71 : decode cX6_aim 71 = .ok (.iload_n 2, 1) := by decide +kernel
theorem dX6_aim_72 : decode cX6_aim 72 = .ok (.invokevirtual 229, 3) := by decide +kernel
theorem dX6_aim_75 : decode cX6_aim 75 = .ok (.ifCond .eq 5, 3) := by decide +kernel
theorem dX6_aim_78 : decode cX6_aim 78 = .ok (.iload_n 3, 1) := by decide +kernel
theorem dX6_aim_79 : decode cX6_aim 79 = .ok (.ireturn, 1) := by decide +kernel
theorem dX6_aim_80 : decode cX6_aim 80 = .ok (.iinc 3 1, 3) := by decide +kernel
theorem dX6_aim_83 : decode cX6_aim 83 = .ok (.goto (-55), 3) := by decide +kernel
theorem dX6_aim_86 : decode cX6_aim 86 = .ok (.bipush (-4), 2) := by decide +kernel
theorem dX6_aim_88 : decode cX6_aim 88 = .ok (.ireturn, 1) := by decide +kernel
theorem dX6_ways_0 : decode cX6_ways 0 = .ok (.aload_n 0, 1) := by decide +kernel
theorem dX6_ways_1 : decode cX6_ways 1 = .ok (.iload_n 1, 1) := by decide +kernel
theorem dX6_ways_2 : decode cX6_ways 2 = .ok (.invokevirtual 173, 3) := by decide +kernel
theorem dX6_ways_5 : decode cX6_ways 5 = .ok (.ifCond .eq 15, 3) := by decide +kernel
theorem dX6_ways_8 : decode cX6_ways 8 = .ok (.iload_n 2, 1) := by decide +kernel
theorem dX6_ways_9 : decode cX6_ways 9 = .ok (.i2l, 1) := by decide +kernel
theorem dX6_ways_10 : decode cX6_ways 10 = .ok (.lconst 0, 1) := by decide +kernel
theorem dX6_ways_11 : decode cX6_ways 11 = .ok (.ldc2_w 182, 3) := by decide +kernel
theorem dX6_ways_14 : decode cX6_ways 14 = .ok (.invokestatic 73, 3) := by decide +kernel
theorem dX6_ways_17 : decode cX6_ways 17 = .ok (.ifCond .ne 5, 3) := by decide +kernel
theorem dX6_ways_20 : decode cX6_ways 20 = .ok (.iconst (-1), 1) := by decide +kernel
theorem dX6_ways_21 : decode cX6_ways 21 = .ok (.ireturn, 1) := by decide +kernel
theorem dX6_ways_22 : decode cX6_ways 22 = .ok (.aload_n 0, 1) := by decide +kernel
theorem dX6_ways_23 : decode cX6_ways 23 = .ok (.iconst 0, 1) := by decide +kernel
theorem dX6_ways_24 : decode cX6_ways 24 = .ok (.sipush 288, 3) := by decide +kernel
theorem dX6_ways_27 : decode cX6_ways 27 = .ok (.invokevirtual 226, 3) := by decide +kernel
theorem dX6_ways_30 : decode cX6_ways 30 = .ok (.iconst 0, 1) := by decide +kernel
theorem dX6_ways_31 : decode cX6_ways 31 = .ok (.istore_n 3, 1) := by decide +kernel
theorem dX6_ways_32 : decode cX6_ways 32 = .ok (.iconst 0, 1) := by decide +kernel
theorem dX6_ways_33 : decode cX6_ways 33 = .ok (.istore 4, 2) := by decide +kernel
theorem dX6_ways_35 : decode cX6_ways 35 = .ok (.iload 4, 2) := by decide +kernel
theorem dX6_ways_37 : decode cX6_ways 37 = .ok (.bipush 100, 2) := by decide +kernel
theorem dX6_ways_39 : decode cX6_ways 39 = .ok (.if_icmp .ge 86, 3) := by decide +kernel
theorem dX6_ways_42 : decode cX6_ways 42 = .ok (.aload_n 0, 1) := by decide +kernel
theorem dX6_ways_43 : decode cX6_ways 43 = .ok (.getfield 7, 3) := by decide +kernel
theorem dX6_ways_46 : decode cX6_ways 46 = .ok (.sipush 292, 3) := by decide +kernel
theorem dX6_ways_49 : decode cX6_ways 49 = .ok (.iload_n 1, 1) := by decide +kernel
theorem dX6_ways_50 : decode cX6_ways 50 = .ok (.iadd, 1) := by decide +kernel
theorem dX6_ways_51 : decode cX6_ways 51 = .ok (.iload 4, 2) := by decide +kernel
theorem dX6_ways_53 : decode cX6_ways 53 = .ok (.bipush 10, 2) := by decide +kernel
theorem dX6_ways_55 : decode cX6_ways 55 = .ok (.idiv, 1) := by decide +kernel
theorem dX6_ways_56 : decode cX6_ways 56 = .ok (.iastore, 1) := by decide +kernel
theorem dX6_ways_57 : decode cX6_ways 57 = .ok (.aload_n 0, 1) := by decide +kernel
theorem dX6_ways_58 : decode cX6_ways 58 = .ok (.getfield 7, 3) := by decide +kernel
theorem dX6_ways_61 : decode cX6_ways 61 = .ok (.sipush 296, 3) := by decide +kernel
theorem dX6_ways_64 : decode cX6_ways 64 = .ok (.iload_n 1, 1) := by decide +kernel
theorem dX6_ways_65 : decode cX6_ways 65 = .ok (.iadd, 1) := by decide +kernel
theorem dX6_ways_66 : decode cX6_ways 66 = .ok (.iload 4, 2) := by decide +kernel
theorem dX6_ways_68 : decode cX6_ways 68 = .ok (.bipush 10, 2) := by decide +kernel
theorem dX6_ways_70 : decode cX6_ways 70 = .ok (.irem, 1) := by decide +kernel
theorem dX6_ways_71 : decode cX6_ways 71 = .ok (.ifCond .ne 7, 3) := by decide +kernel
theorem dX6_ways_74 : decode cX6_ways 74 = .ok (.iconst 1, 1) := by decide +kernel
theorem dX6_ways_75 : decode cX6_ways 75 = .ok (.goto 8, 3) := by decide +kernel
theorem dX6_ways_78 : decode cX6_ways 78 = .ok (.iload 4, 2) := by decide +kernel
theorem dX6_ways_80 : decode cX6_ways 80 = .ok (.bipush 10, 2) := by decide +kernel
theorem dX6_ways_82 : decode cX6_ways 82 = .ok (.irem, 1) := by decide +kernel
theorem dX6_ways_83 : decode cX6_ways 83 = .ok (.iastore, 1) := by decide +kernel
theorem dX6_ways_84 : decode cX6_ways 84 = .ok (.aload_n 0, 1) := by decide +kernel
theorem dX6_ways_85 : decode cX6_ways 85 = .ok (.sipush 288, 3) := by decide +kernel
theorem dX6_ways_88 : decode cX6_ways 88 = .ok (.bipush 24, 2) := by decide +kernel
theorem dX6_ways_90 : decode cX6_ways 90 = .ok (.invokevirtual 208, 3) := by decide +kernel
theorem dX6_ways_93 : decode cX6_ways 93 = .ok (.iload_n 3, 1) := by decide +kernel
theorem dX6_ways_94 : decode cX6_ways 94 = .ok (.iload 4, 2) := by decide +kernel
theorem dX6_ways_96 : decode cX6_ways 96 = .ok (.bipush 10, 2) := by decide +kernel
theorem dX6_ways_98 : decode cX6_ways 98 = .ok (.irem, 1) := by decide +kernel
theorem dX6_ways_99 : decode cX6_ways 99 = .ok (.ifCond .le 17, 3) := by decide +kernel
theorem dX6_ways_102 : decode cX6_ways 102 = .ok (.aload_n 0, 1) := by decide +kernel
theorem dX6_ways_103 : decode cX6_ways 103 = .ok (.getfield 34, 3) := by decide +kernel
theorem dX6_ways_106 : decode cX6_ways 106 = .ok (.iload_n 1, 1) := by decide +kernel
theorem dX6_ways_107 : decode cX6_ways 107 = .ok (.iaload, 1) := by decide +kernel
theorem dX6_ways_108 : decode cX6_ways 108 = .ok (.iload_n 2, 1) := by decide +kernel
theorem dX6_ways_109 : decode cX6_ways 109 = .ok (.if_icmp .ne 7, 3) := by decide +kernel
theorem dX6_ways_112 : decode cX6_ways 112 = .ok (.iconst 1, 1) := by decide +kernel
theorem dX6_ways_113 : decode cX6_ways 113 = .ok (.goto 4, 3) := by decide +kernel
theorem dX6_ways_116 : decode cX6_ways 116 = .ok (.iconst 0, 1) := by decide +kernel
theorem dX6_ways_117 : decode cX6_ways 117 = .ok (.iadd, 1) := by decide +kernel
theorem dX6_ways_118 : decode cX6_ways 118 = .ok (.istore_n 3, 1) := by decide +kernel
theorem dX6_ways_119 : decode cX6_ways 119 = .ok (.iinc 4 1, 3) := by decide +kernel
theorem dX6_ways_122 : decode cX6_ways 122 = .ok (.goto (-87), 3) := by decide +kernel
theorem dX6_ways_125 : decode cX6_ways 125 = .ok (.iload_n 3, 1) := by decide +kernel
theorem dX6_ways_126 : decode cX6_ways 126 = .ok (.ireturn, 1) := by decide +kernel
theorem dX6_place_0 : decode cX6_place 0 = .ok (.aload_n 0, 1) := by decide +kernel
theorem dX6_place_1 : decode cX6_place 1 = .ok (.iload_n 1, 1) := by decide +kernel
theorem dX6_place_2 : decode cX6_place 2 = .ok (.invokevirtual 179, 3) := by decide +kernel
theorem dX6_place_5 : decode cX6_place 5 = .ok (.ifCond .eq 13, 3) := by decide +kernel
theorem dX6_place_8 : decode cX6_place 8 = .ok (.iload_n 2, 1) := by decide +kernel
theorem dX6_place_9 : decode cX6_place 9 = .ok (.i2l, 1) := by decide +kernel
theorem dX6_place_10 : decode cX6_place 10 = .ok (.lconst 0, 1) := by decide +kernel
theorem dX6_place_11 : decode cX6_place 11 = .ok (.lconst 1, 1) := by decide +kernel
theorem dX6_place_12 : decode cX6_place 12 = .ok (.invokestatic 73, 3) := by decide +kernel
theorem dX6_place_15 : decode cX6_place 15 = .ok (.ifCond .ne 5, 3) := by decide +kernel
theorem dX6_place_18 : decode cX6_place 18 = .ok (.iconst (-1), 1) := by decide +kernel
theorem dX6_place_19 : decode cX6_place 19 = .ok (.ireturn, 1) := by decide +kernel
theorem dX6_place_20 : decode cX6_place 20 = .ok (.aload_n 0, 1) := by decide +kernel
theorem dX6_place_21 : decode cX6_place 21 = .ok (.iconst 0, 1) := by decide +kernel
theorem dX6_place_22 : decode cX6_place 22 = .ok (.sipush 288, 3) := by decide +kernel
theorem dX6_place_25 : decode cX6_place 25 = .ok (.invokevirtual 226, 3) := by decide +kernel
theorem dX6_place_28 : decode cX6_place 28 = .ok (.iconst (-1), 1) := by decide +kernel
theorem dX6_place_29 : decode cX6_place 29 = .ok (.istore_n 3, 1) := by decide +kernel
theorem dX6_place_30 : decode cX6_place 30 = .ok (.iconst 0, 1) := by decide +kernel
theorem dX6_place_31 : decode cX6_place 31 = .ok (.istore 4, 2) := by decide +kernel
theorem dX6_place_33 : decode cX6_place 33 = .ok (.iconst 0, 1) := by decide +kernel
theorem dX6_place_34 : decode cX6_place 34 = .ok (.istore 5, 2) := by decide +kernel
theorem dX6_place_36 : decode cX6_place 36 = .ok (.iload 5, 2) := by decide +kernel
theorem dX6_place_38 : decode cX6_place 38 = .ok (.bipush 9, 2) := by decide +kernel
theorem dX6_place_40 : decode cX6_place 40 = .ok (.if_icmp .gt 61, 3) := by decide +kernel
theorem dX6_place_43 : decode cX6_place 43 = .ok (.aload_n 0, 1) := by decide +kernel
theorem dX6_place_44 : decode cX6_place 44 = .ok (.getfield 7, 3) := by decide +kernel
theorem dX6_place_47 : decode cX6_place 47 = .ok (.sipush 309, 3) := by decide +kernel
theorem dX6_place_50 : decode cX6_place 50 = .ok (.iconst 4, 1) := by decide +kernel
theorem dX6_place_51 : decode cX6_place 51 = .ok (.iload_n 1, 1) := by decide +kernel
theorem dX6_place_52 : decode cX6_place 52 = .ok (.imul, 1) := by decide +kernel
theorem dX6_place_53 : decode cX6_place 53 = .ok (.iadd, 1) := by decide +kernel
theorem dX6_place_54 : decode cX6_place 54 = .ok (.iload 5, 2) := by decide +kernel
theorem dX6_place_56 : decode cX6_place 56 = .ok (.iastore, 1) := by decide +kernel
theorem dX6_place_57 : decode cX6_place 57 = .ok (.aload_n 0, 1) := by decide +kernel
theorem dX6_place_58 : decode cX6_place 58 = .ok (.sipush 288, 3) := by decide +kernel
theorem dX6_place_61 : decode cX6_place 61 = .ok (.iload_n 1, 1) := by decide +kernel
theorem dX6_place_62 : decode cX6_place 62 = .ok (.invokevirtual 220, 3) := by decide +kernel
theorem dX6_place_65 : decode cX6_place 65 = .ok (.istore 6, 2) := by decide +kernel
theorem dX6_place_67 : decode cX6_place 67 = .ok (.iload 6, 2) := by decide +kernel
theorem dX6_place_69 : decode cX6_place 69 = .ok (.iload_n 3, 1) := by decide +kernel
theorem dX6_place_70 : decode cX6_place 70 = .ok (.if_icmp .le 8, 3) := by decide +kernel
theorem dX6_place_73 : decode cX6_place 73 = .ok (.iload 5, 2) := by decide +kernel
theorem dX6_place_75 : decode cX6_place 75 = .ok (.goto 5, 3) := by decide +kernel
theorem dX6_place_78 : decode cX6_place 78 = .ok (.iload 4, 2) := by decide +kernel
theorem dX6_place_80 : decode cX6_place 80 = .ok (.istore 4, 2) := by decide +kernel
theorem dX6_place_82 : decode cX6_place 82 = .ok (.iload 6, 2) := by decide +kernel
theorem dX6_place_84 : decode cX6_place 84 = .ok (.iload_n 3, 1) := by decide +kernel
theorem dX6_place_85 : decode cX6_place 85 = .ok (.if_icmp .le 8, 3) := by decide +kernel
theorem dX6_place_88 : decode cX6_place 88 = .ok (.iload 6, 2) := by decide +kernel
theorem dX6_place_90 : decode cX6_place 90 = .ok (.goto 4, 3) := by decide +kernel
theorem dX6_place_93 : decode cX6_place 93 = .ok (.iload_n 3, 1) := by decide +kernel
theorem dX6_place_94 : decode cX6_place 94 = .ok (.istore_n 3, 1) := by decide +kernel
theorem dX6_place_95 : decode cX6_place 95 = .ok (.iinc 5 1, 3) := by decide +kernel
theorem dX6_place_98 : decode cX6_place 98 = .ok (.goto (-62), 3) := by decide +kernel
theorem dX6_place_101 : decode cX6_place 101 = .ok (.iload_n 2, 1) := by decide +kernel
theorem dX6_place_102 : decode cX6_place 102 = .ok (.ifCond .ne 8, 3) := by decide +kernel
theorem dX6_place_105 : decode cX6_place 105 = .ok (.iload 4, 2) := by decide +kernel
theorem dX6_place_107 : decode cX6_place 107 = .ok (.goto 4, 3) := by decide +kernel
theorem dX6_place_110 : decode cX6_place 110 = .ok (.iload_n 3, 1) := by decide +kernel
theorem dX6_place_111 : decode cX6_place 111 = .ok (.ireturn, 1) := by decide +kernel
theorem dX6_hook_0 : decode cX6_hook 0 = .ok (.aload_n 0, 1) := by decide +kernel
theorem dX6_hook_1 : decode cX6_hook 1 = .ok (.iload_n 1, 1) := by decide +kernel
theorem dX6_hook_2 : decode cX6_hook 2 = .ok (.invokevirtual 179, 3) := by decide +kernel
theorem dX6_hook_5 : decode cX6_hook 5 = .ok (.ifCond .eq 15, 3) := by decide +kernel
theorem dX6_hook_8 : decode cX6_hook 8 = .ok (.iload_n 2, 1) := by decide +kernel
theorem dX6_hook_9 : decode cX6_hook 9 = .ok (.i2l, 1) := by decide +kernel
theorem dX6_hook_10 : decode cX6_hook 10 = .ok (.lconst 1, 1) := by decide +kernel
theorem dX6_hook_11 : decode cX6_hook 11 = .ok (.ldc2_w 233, 3) := by decide +kernel
theorem dX6_hook_14 : decode cX6_hook 14 = .ok (.invokestatic 73, 3) := by decide +kernel
theorem dX6_hook_17 : decode cX6_hook 17 = .ok (.ifCond .ne 5, 3) := by decide +kernel
theorem dX6_hook_20 : decode cX6_hook 20 = .ok (.iconst (-1), 1) := by decide +kernel
theorem dX6_hook_21 : decode cX6_hook 21 = .ok (.ireturn, 1) := by decide +kernel
theorem dX6_hook_22 : decode cX6_hook 22 = .ok (.aload_n 0, 1) := by decide +kernel
theorem dX6_hook_23 : decode cX6_hook 23 = .ok (.iconst 0, 1) := by decide +kernel
theorem dX6_hook_24 : decode cX6_hook 24 = .ok (.sipush 288, 3) := by decide +kernel
theorem dX6_hook_27 : decode cX6_hook 27 = .ok (.invokevirtual 226, 3) := by decide +kernel
theorem dX6_hook_30 : decode cX6_hook 30 = .ok (.iconst 0, 1) := by decide +kernel
theorem dX6_hook_31 : decode cX6_hook 31 = .ok (.istore_n 3, 1) := by decide +kernel
theorem dX6_hook_32 : decode cX6_hook 32 = .ok (.iload_n 3, 1) := by decide +kernel
theorem dX6_hook_33 : decode cX6_hook 33 = .ok (.bipush 9, 2) := by decide +kernel
theorem dX6_hook_35 : decode cX6_hook 35 = .ok (.if_icmp .gt 38, 3) := by decide +kernel
theorem dX6_hook_38 : decode cX6_hook 38 = .ok (.aload_n 0, 1) := by decide +kernel
theorem dX6_hook_39 : decode cX6_hook 39 = .ok (.getfield 7, 3) := by decide +kernel
theorem dX6_hook_42 : decode cX6_hook 42 = .ok (.sipush 309, 3) := by decide +kernel
theorem dX6_hook_45 : decode cX6_hook 45 = .ok (.iconst 4, 1) := by decide +kernel
theorem dX6_hook_46 : decode cX6_hook 46 = .ok (.iload_n 1, 1) := by decide +kernel
theorem dX6_hook_47 : decode cX6_hook 47 = .ok (.imul, 1) := by decide +kernel
theorem dX6_hook_48 : decode cX6_hook 48 = .ok (.iadd, 1) := by decide +kernel
theorem dX6_hook_49 : decode cX6_hook 49 = .ok (.iconst 3, 1) := by decide +kernel
theorem dX6_hook_50 : decode cX6_hook 50 = .ok (.iadd, 1) := by decide +kernel
theorem dX6_hook_51 : decode cX6_hook 51 = .ok (.iload_n 3, 1) := by decide +kernel
theorem dX6_hook_52 : decode cX6_hook 52 = .ok (.iastore, 1) := by decide +kernel
theorem dX6_hook_53 : decode cX6_hook 53 = .ok (.aload_n 0, 1) := by decide +kernel
theorem dX6_hook_54 : decode cX6_hook 54 = .ok (.sipush 288, 3) := by decide +kernel
theorem dX6_hook_57 : decode cX6_hook 57 = .ok (.iload_n 1, 1) := by decide +kernel
theorem dX6_hook_58 : decode cX6_hook 58 = .ok (.invokevirtual 220, 3) := by decide +kernel
theorem dX6_hook_61 : decode cX6_hook 61 = .ok (.iload_n 2, 1) := by decide +kernel
theorem dX6_hook_62 : decode cX6_hook 62 = .ok (.if_icmp .lt 5, 3) := by decide +kernel
theorem dX6_hook_65 : decode cX6_hook 65 = .ok (.iload_n 3, 1) := by decide +kernel
theorem dX6_hook_66 : decode cX6_hook 66 = .ok (.ireturn, 1) := by decide +kernel
theorem dX6_hook_67 : decode cX6_hook 67 = .ok (.iinc 3 1, 3) := by decide +kernel
theorem dX6_hook_70 : decode cX6_hook 70 = .ok (.goto (-38), 3) := by decide +kernel
theorem dX6_hook_73 : decode cX6_hook 73 = .ok (.bipush (-4), 2) := by decide +kernel
theorem dX6_hook_75 : decode cX6_hook 75 = .ok (.ireturn, 1) := by decide +kernel
theorem dX6_fire_0 : decode cX6_fire 0 = .ok (.aload_n 0, 1) := by decide +kernel
theorem dX6_fire_1 : decode cX6_fire 1 = .ok (.iload_n 1, 1) := by decide +kernel
theorem dX6_fire_2 : decode cX6_fire 2 = .ok (.invokevirtual 179, 3) := by decide +kernel
theorem dX6_fire_5 : decode cX6_fire 5 = .ok (.ifCond .eq 13, 3) := by decide +kernel
theorem dX6_fire_8 : decode cX6_fire 8 = .ok (.iload_n 2, 1) := by decide +kernel
theorem dX6_fire_9 : decode cX6_fire 9 = .ok (.i2l, 1) := by decide +kernel
theorem dX6_fire_10 : decode cX6_fire 10 = .ok (.lconst 0, 1) := by decide +kernel
theorem dX6_fire_11 : decode cX6_fire 11 = .ok (.lconst 1, 1) := by decide +kernel
theorem dX6_fire_12 : decode cX6_fire 12 = .ok (.invokestatic 73, 3) := by decide +kernel
theorem dX6_fire_15 : decode cX6_fire 15 = .ok (.ifCond .ne 5, 3) := by decide +kernel
theorem dX6_fire_18 : decode cX6_fire 18 = .ok (.iconst (-1), 1) := by decide +kernel
theorem dX6_fire_19 : decode cX6_fire 19 = .ok (.ireturn, 1) := by decide +kernel
theorem dX6_fire_20 : decode cX6_fire 20 = .ok (.aload_n 0, 1) := by decide +kernel
theorem dX6_fire_21 : decode cX6_fire 21 = .ok (.iconst 0, 1) := by decide +kernel
theorem dX6_fire_22 : decode cX6_fire 22 = .ok (.iload_n 1, 1) := by decide +kernel
theorem dX6_fire_23 : decode cX6_fire 23 = .ok (.invokevirtual 220, 3) := by decide +kernel
theorem dX6_fire_26 : decode cX6_fire 26 = .ok (.istore_n 3, 1) := by decide +kernel
theorem dX6_fire_27 : decode cX6_fire 27 = .ok (.bipush (-4), 2) := by decide +kernel
theorem dX6_fire_29 : decode cX6_fire 29 = .ok (.istore 4, 2) := by decide +kernel
theorem dX6_fire_31 : decode cX6_fire 31 = .ok (.iconst 0, 1) := by decide +kernel
theorem dX6_fire_32 : decode cX6_fire 32 = .ok (.istore 5, 2) := by decide +kernel
theorem dX6_fire_34 : decode cX6_fire 34 = .ok (.iload 5, 2) := by decide +kernel
theorem dX6_fire_36 : decode cX6_fire 36 = .ok (.bipush 24, 2) := by decide +kernel
theorem dX6_fire_38 : decode cX6_fire 38 = .ok (.if_icmp .ge 89, 3) := by decide +kernel
theorem dX6_fire_41 : decode cX6_fire 41 = .ok (.aload_n 0, 1) := by decide +kernel
theorem dX6_fire_42 : decode cX6_fire 42 = .ok (.iconst 0, 1) := by decide +kernel
theorem dX6_fire_43 : decode cX6_fire 43 = .ok (.sipush 288, 3) := by decide +kernel
theorem dX6_fire_46 : decode cX6_fire 46 = .ok (.invokevirtual 226, 3) := by decide +kernel
theorem dX6_fire_49 : decode cX6_fire 49 = .ok (.iconst 1, 1) := by decide +kernel
theorem dX6_fire_50 : decode cX6_fire 50 = .ok (.istore 6, 2) := by decide +kernel
theorem dX6_fire_52 : decode cX6_fire 52 = .ok (.iload 6, 2) := by decide +kernel
theorem dX6_fire_54 : decode cX6_fire 54 = .ok (.iconst 4, 1) := by decide +kernel
theorem dX6_fire_55 : decode cX6_fire 55 = .ok (.if_icmp .gt 66, 3) := by decide +kernel
theorem dX6_fire_58 : decode cX6_fire 58 = .ok (.aload_n 0, 1) := by decide +kernel
theorem dX6_fire_59 : decode cX6_fire 59 = .ok (.getfield 7, 3) := by decide +kernel
theorem dX6_fire_62 : decode cX6_fire 62 = .ok (.sipush 335, 3) := by decide +kernel
theorem dX6_fire_65 : decode cX6_fire 65 = .ok (.iload 5, 2) := by decide +kernel
theorem dX6_fire_67 : decode cX6_fire 67 = .ok (.iadd, 1) := by decide +kernel
theorem dX6_fire_68 : decode cX6_fire 68 = .ok (.iload 6, 2) := by decide +kernel
theorem dX6_fire_70 : decode cX6_fire 70 = .ok (.iastore, 1) := by decide +kernel
theorem dX6_fire_71 : decode cX6_fire 71 = .ok (.aload_n 0, 1) := by decide +kernel
theorem dX6_fire_72 : decode cX6_fire 72 = .ok (.sipush 288, 3) := by decide +kernel
theorem dX6_fire_75 : decode cX6_fire 75 = .ok (.iload_n 1, 1) := by decide +kernel
theorem dX6_fire_76 : decode cX6_fire 76 = .ok (.invokevirtual 220, 3) := by decide +kernel
theorem dX6_fire_79 : decode cX6_fire 79 = .ok (.istore 7, 2) := by decide +kernel
theorem dX6_fire_81 : decode cX6_fire 81 = .ok (.iload 7, 2) := by decide +kernel
theorem dX6_fire_83 : decode cX6_fire 83 = .ok (.iload_n 3, 1) := by decide +kernel
theorem dX6_fire_84 : decode cX6_fire 84 = .ok (.if_icmp .le 14, 3) := by decide +kernel
theorem dX6_fire_87 : decode cX6_fire 87 = .ok (.bipush 10, 2) := by decide +kernel
theorem dX6_fire_89 : decode cX6_fire 89 = .ok (.iload 5, 2) := by decide +kernel
theorem dX6_fire_91 : decode cX6_fire 91 = .ok (.imul, 1) := by decide +kernel
theorem dX6_fire_92 : decode cX6_fire 92 = .ok (.iload 6, 2) := by decide +kernel
theorem dX6_fire_94 : decode cX6_fire 94 = .ok (.iadd, 1) := by decide +kernel
theorem dX6_fire_95 : decode cX6_fire 95 = .ok (.goto 5, 3) := by decide +kernel
theorem dX6_fire_98 : decode cX6_fire 98 = .ok (.iload 4, 2) := by decide +kernel
theorem dX6_fire_100 : decode cX6_fire 100 = .ok (.istore 4, 2) := by decide +kernel
theorem dX6_fire_102 : decode cX6_fire 102 = .ok (.iload 7, 2) := by decide +kernel
theorem dX6_fire_104 : decode cX6_fire 104 = .ok (.iload_n 3, 1) := by decide +kernel
theorem dX6_fire_105 : decode cX6_fire 105 = .ok (.if_icmp .le 8, 3) := by decide +kernel
theorem dX6_fire_108 : decode cX6_fire 108 = .ok (.iload 7, 2) := by decide +kernel
theorem dX6_fire_110 : decode cX6_fire 110 = .ok (.goto 4, 3) := by decide +kernel
theorem dX6_fire_113 : decode cX6_fire 113 = .ok (.iload_n 3, 1) := by decide +kernel
theorem dX6_fire_114 : decode cX6_fire 114 = .ok (.istore_n 3, 1) := by decide +kernel
theorem dX6_fire_115 : decode cX6_fire 115 = .ok (.iinc 6 1, 3) := by decide +kernel
theorem dX6_fire_118 : decode cX6_fire 118 = .ok (.goto (-66), 3) := by decide +kernel
theorem dX6_fire_121 : decode cX6_fire 121 = .ok (.iinc 5 1, 3) := by decide +kernel
theorem dX6_fire_124 : decode cX6_fire 124 = .ok (.goto (-90), 3) := by decide +kernel
theorem dX6_fire_127 : decode cX6_fire 127 = .ok (.iload 4, 2) := by decide +kernel
theorem dX6_fire_129 : decode cX6_fire 129 = .ok (.bipush (-4), 2) := by decide +kernel
theorem dX6_fire_131 : decode cX6_fire 131 = .ok (.if_icmp .eq 7, 3) := by decide +kernel
theorem dX6_fire_134 : decode cX6_fire 134 = .ok (.iload_n 2, 1) := by decide +kernel
theorem dX6_fire_135 : decode cX6_fire 135 = .ok (.ifCond .ne 8, 3) := by decide +kernel
theorem dX6_fire_138 : decode cX6_fire 138 = .ok (.iload 4, 2) := by decide +kernel
theorem dX6_fire_140 : decode cX6_fire 140 = .ok (.goto 4, 3) := by decide +kernel
theorem dX6_fire_143 : decode cX6_fire 143 = .ok (.iload_n 3, 1) := by decide +kernel
theorem dX6_fire_144 : decode cX6_fire 144 = .ok (.ireturn, 1) := by decide +kernel
theorem dX6_moon_0 : decode cX6_moon 0 = .ok (.iload_n 1, 1) := by decide +kernel
theorem dX6_moon_1 : decode cX6_moon 1 = .ok (.i2l, 1) := by decide +kernel
theorem dX6_moon_2 : decode cX6_moon 2 = .ok (.lconst 0, 1) := by decide +kernel
theorem dX6_moon_3 : decode cX6_moon 3 = .ok (.lconst 1, 1) := by decide +kernel
theorem dX6_moon_4 : decode cX6_moon 4 = .ok (.invokestatic 73, 3) := by decide +kernel
theorem dX6_moon_7 : decode cX6_moon 7 = .ok (.ifCond .ne 5, 3) := by decide +kernel
theorem dX6_moon_10 : decode cX6_moon 10 = .ok (.iconst (-1), 1) := by decide +kernel
theorem dX6_moon_11 : decode cX6_moon 11 = .ok (.ireturn, 1) := by decide +kernel
theorem dX6_moon_12 : decode cX6_moon 12 = .ok (.aload_n 0, 1) := by decide +kernel
theorem dX6_moon_13 : decode cX6_moon 13 = .ok (.iconst 0, 1) := by decide +kernel
theorem dX6_moon_14 : decode cX6_moon 14 = .ok (.sipush 288, 3) := by decide +kernel
theorem dX6_moon_17 : decode cX6_moon 17 = .ok (.invokevirtual 226, 3) := by decide +kernel
theorem dX6_moon_20 : decode cX6_moon 20 = .ok (.iconst (-1), 1) := by decide +kernel
theorem dX6_moon_21 : decode cX6_moon 21 = .ok (.istore_n 2, 1) := by decide +kernel
theorem dX6_moon_22 : decode cX6_moon 22 = .ok (.iconst 0, 1) := by decide +kernel
theorem dX6_moon_23 : decode cX6_moon 23 = .ok (.istore_n 3, 1) := by decide +kernel
theorem dX6_moon_24 : decode cX6_moon 24 = .ok (.iconst 0, 1) := by decide +kernel
theorem dX6_moon_25 : decode cX6_moon 25 = .ok (.istore 4, 2) := by decide +kernel
theorem dX6_moon_27 : decode cX6_moon 27 = .ok (.iload 4, 2) := by decide +kernel
theorem dX6_moon_29 : decode cX6_moon 29 = .ok (.iconst 5, 1) := by decide +kernel
theorem dX6_moon_30 : decode cX6_moon 30 = .ok (.if_icmp .gt 56, 3) := by decide +kernel
theorem dX6_moon_33 : decode cX6_moon 33 = .ok (.aload_n 0, 1) := by decide +kernel
theorem dX6_moon_34 : decode cX6_moon 34 = .ok (.getfield 7, 3) := by decide +kernel
theorem dX6_moon_37 : decode cX6_moon 37 = .ok (.sipush 359, 3) := by decide +kernel
theorem dX6_moon_40 : decode cX6_moon 40 = .ok (.iload 4, 2) := by decide +kernel
theorem dX6_moon_42 : decode cX6_moon 42 = .ok (.iastore, 1) := by decide +kernel
theorem dX6_moon_43 : decode cX6_moon 43 = .ok (.aload_n 0, 1) := by decide +kernel
theorem dX6_moon_44 : decode cX6_moon 44 = .ok (.sipush 288, 3) := by decide +kernel
theorem dX6_moon_47 : decode cX6_moon 47 = .ok (.bipush (-4), 2) := by decide +kernel
theorem dX6_moon_49 : decode cX6_moon 49 = .ok (.invokevirtual 220, 3) := by decide +kernel
theorem dX6_moon_52 : decode cX6_moon 52 = .ok (.istore 5, 2) := by decide +kernel
theorem dX6_moon_54 : decode cX6_moon 54 = .ok (.iload 5, 2) := by decide +kernel
theorem dX6_moon_56 : decode cX6_moon 56 = .ok (.iload_n 2, 1) := by decide +kernel
theorem dX6_moon_57 : decode cX6_moon 57 = .ok (.if_icmp .le 8, 3) := by decide +kernel
theorem dX6_moon_60 : decode cX6_moon 60 = .ok (.iload 4, 2) := by decide +kernel
theorem dX6_moon_62 : decode cX6_moon 62 = .ok (.goto 4, 3) := by decide +kernel
theorem dX6_moon_65 : decode cX6_moon 65 = .ok (.iload_n 3, 1) := by decide +kernel
theorem dX6_moon_66 : decode cX6_moon 66 = .ok (.istore_n 3, 1) := by decide +kernel
theorem dX6_moon_67 : decode cX6_moon 67 = .ok (.iload 5, 2) := by decide +kernel
theorem dX6_moon_69 : decode cX6_moon 69 = .ok (.iload_n 2, 1) := by decide +kernel
theorem dX6_moon_70 : decode cX6_moon 70 = .ok (.if_icmp .le 8, 3) := by decide +kernel
theorem dX6_moon_73 : decode cX6_moon 73 = .ok (.iload 5, 2) := by decide +kernel
theorem dX6_moon_75 : decode cX6_moon 75 = .ok (.goto 4, 3) := by decide +kernel
theorem dX6_moon_78 : decode cX6_moon 78 = .ok (.iload_n 2, 1) := by decide +kernel
theorem dX6_moon_79 : decode cX6_moon 79 = .ok (.istore_n 2, 1) := by decide +kernel
theorem dX6_moon_80 : decode cX6_moon 80 = .ok (.iinc 4 1, 3) := by decide +kernel
theorem dX6_moon_83 : decode cX6_moon 83 = .ok (.goto (-56), 3) := by decide +kernel
theorem dX6_moon_86 : decode cX6_moon 86 = .ok (.iload_n 1, 1) := by decide +kernel
theorem dX6_moon_87 : decode cX6_moon 87 = .ok (.ifCond .ne 7, 3) := by decide +kernel
theorem dX6_moon_90 : decode cX6_moon 90 = .ok (.iload_n 3, 1) := by decide +kernel
theorem dX6_moon_91 : decode cX6_moon 91 = .ok (.goto 4, 3) := by decide +kernel
theorem dX6_moon_94 : decode cX6_moon 94 = .ok (.iload_n 2, 1) := by decide +kernel
theorem dX6_moon_95 : decode cX6_moon 95 = .ok (.ireturn, 1) := by decide +kernel
theorem dX6_isRest_0 : decode cX6_isRest 0 = .ok (.iconst 1, 1) := by decide +kernel
theorem dX6_isRest_1 : decode cX6_isRest 1 = .ok (.istore_n 3, 1) := by decide +kernel
theorem dX6_isRest_2 : decode cX6_isRest 2 = .ok (.iconst 0, 1) := by decide +kernel
theorem dX6_isRest_3 : decode cX6_isRest 3 = .ok (.istore 4, 2) := by decide +kernel
theorem dX6_isRest_5 : decode cX6_isRest 5 = .ok (.iload 4, 2) := by decide +kernel
theorem dX6_isRest_7 : decode cX6_isRest 7 = .ok (.bipush 9, 2) := by decide +kernel
theorem dX6_isRest_9 : decode cX6_isRest 9 = .ok (.if_icmp .gt 71, 3) := by decide +kernel
theorem dX6_isRest_12 : decode cX6_isRest 12 = .ok (.iload_n 3, 1) := by decide +kernel
theorem dX6_isRest_13 : decode cX6_isRest 13 = .ok (.ifCond .eq 59, 3) := by decide +kernel
theorem dX6_isRest_16 : decode cX6_isRest 16 = .ok (.aload_n 0, 1) := by decide +kernel
theorem dX6_isRest_17 : decode cX6_isRest 17 = .ok (.getfield 46, 3) := by decide +kernel
theorem dX6_isRest_20 : decode cX6_isRest 20 = .ok (.bipush 10, 2) := by decide +kernel
theorem dX6_isRest_22 : decode cX6_isRest 22 = .ok (.iload 4, 2) := by decide +kernel
theorem dX6_isRest_24 : decode cX6_isRest 24 = .ok (.imul, 1) := by decide +kernel
theorem dX6_isRest_25 : decode cX6_isRest 25 = .ok (.iload_n 2, 1) := by decide +kernel
theorem dX6_isRest_26 : decode cX6_isRest 26 = .ok (.iadd, 1) := by decide +kernel
theorem dX6_isRest_27 : decode cX6_isRest 27 = .ok (.iaload, 1) := by decide +kernel
theorem dX6_isRest_28 : decode cX6_isRest 28 = .ok (.aload_n 0, 1) := by decide +kernel
theorem dX6_isRest_29 : decode cX6_isRest 29 = .ok (.getfield 46, 3) := by decide +kernel
theorem dX6_isRest_32 : decode cX6_isRest 32 = .ok (.bipush 10, 2) := by decide +kernel
theorem dX6_isRest_34 : decode cX6_isRest 34 = .ok (.iload_n 1, 1) := by decide +kernel
theorem dX6_isRest_35 : decode cX6_isRest 35 = .ok (.imul, 1) := by decide +kernel
theorem dX6_isRest_36 : decode cX6_isRest 36 = .ok (.iload_n 2, 1) := by decide +kernel
theorem dX6_isRest_37 : decode cX6_isRest 37 = .ok (.iadd, 1) := by decide +kernel
theorem dX6_isRest_38 : decode cX6_isRest 38 = .ok (.iaload, 1) := by decide +kernel
theorem dX6_isRest_39 : decode cX6_isRest 39 = .ok (.if_icmp .gt 33, 3) := by decide +kernel
theorem dX6_isRest_42 : decode cX6_isRest 42 = .ok (.aload_n 0, 1) := by decide +kernel
theorem dX6_isRest_43 : decode cX6_isRest 43 = .ok (.getfield 49, 3) := by decide +kernel
theorem dX6_isRest_46 : decode cX6_isRest 46 = .ok (.bipush 10, 2) := by decide +kernel
theorem dX6_isRest_48 : decode cX6_isRest 48 = .ok (.iload_n 1, 1) := by decide +kernel
theorem dX6_isRest_49 : decode cX6_isRest 49 = .ok (.imul, 1) := by decide +kernel
theorem dX6_isRest_50 : decode cX6_isRest 50 = .ok (.iload 4, 2) := by decide +kernel
theorem dX6_isRest_52 : decode cX6_isRest 52 = .ok (.iadd, 1) := by decide +kernel
theorem dX6_isRest_53 : decode cX6_isRest 53 = .ok (.iaload, 1) := by decide +kernel
theorem dX6_isRest_54 : decode cX6_isRest 54 = .ok (.aload_n 0, 1) := by decide +kernel
theorem dX6_isRest_55 : decode cX6_isRest 55 = .ok (.getfield 49, 3) := by decide +kernel
theorem dX6_isRest_58 : decode cX6_isRest 58 = .ok (.bipush 10, 2) := by decide +kernel
theorem dX6_isRest_60 : decode cX6_isRest 60 = .ok (.iload_n 1, 1) := by decide +kernel
theorem dX6_isRest_61 : decode cX6_isRest 61 = .ok (.imul, 1) := by decide +kernel
theorem dX6_isRest_62 : decode cX6_isRest 62 = .ok (.iload_n 2, 1) := by decide +kernel
theorem dX6_isRest_63 : decode cX6_isRest 63 = .ok (.iadd, 1) := by decide +kernel
theorem dX6_isRest_64 : decode cX6_isRest 64 = .ok (.iaload, 1) := by decide +kernel
theorem dX6_isRest_65 : decode cX6_isRest 65 = .ok (.if_icmp .gt 7, 3) := by decide +kernel
theorem dX6_isRest_68 : decode cX6_isRest 68 = .ok (.iconst 1, 1) := by decide +kernel
theorem dX6_isRest_69 : decode cX6_isRest 69 = .ok (.goto 4, 3) := by decide +kernel
theorem dX6_isRest_72 : decode cX6_isRest 72 = .ok (.iconst 0, 1) := by decide +kernel
theorem dX6_isRest_73 : decode cX6_isRest 73 = .ok (.istore_n 3, 1) := by decide +kernel
theorem dX6_isRest_74 : decode cX6_isRest 74 = .ok (.iinc 4 1, 3) := by decide +kernel
theorem dX6_isRest_77 : decode cX6_isRest 77 = .ok (.goto (-72), 3) := by decide +kernel
theorem dX6_isRest_80 : decode cX6_isRest 80 = .ok (.iload_n 3, 1) := by decide +kernel
theorem dX6_isRest_81 : decode cX6_isRest 81 = .ok (.ireturn, 1) := by decide +kernel
theorem dX6_rest_0 : decode cX6_rest 0 = .ok (.aload_n 0, 1) := by decide +kernel
theorem dX6_rest_1 : decode cX6_rest 1 = .ok (.iload_n 1, 1) := by decide +kernel
theorem dX6_rest_2 : decode cX6_rest 2 = .ok (.invokevirtual 179, 3) := by decide +kernel
theorem dX6_rest_5 : decode cX6_rest 5 = .ok (.ifCond .eq 26, 3) := by decide +kernel
theorem dX6_rest_8 : decode cX6_rest 8 = .ok (.aload_n 0, 1) := by decide +kernel
theorem dX6_rest_9 : decode cX6_rest 9 = .ok (.iload_n 2, 1) := by decide +kernel
theorem dX6_rest_10 : decode cX6_rest 10 = .ok (.invokevirtual 179, 3) := by decide +kernel
theorem dX6_rest_13 : decode cX6_rest 13 = .ok (.ifCond .eq 18, 3) := by decide +kernel
theorem dX6_rest_16 : decode cX6_rest 16 = .ok (.iload_n 1, 1) := by decide +kernel
theorem dX6_rest_17 : decode cX6_rest 17 = .ok (.iload_n 2, 1) := by decide +kernel
theorem dX6_rest_18 : decode cX6_rest 18 = .ok (.if_icmp .eq 13, 3) := by decide +kernel
theorem dX6_rest_21 : decode cX6_rest 21 = .ok (.iload_n 3, 1) := by decide +kernel
theorem dX6_rest_22 : decode cX6_rest 22 = .ok (.i2l, 1) := by decide +kernel
theorem dX6_rest_23 : decode cX6_rest 23 = .ok (.lconst 0, 1) := by decide +kernel
theorem dX6_rest_24 : decode cX6_rest 24 = .ok (.lconst 1, 1) := by decide +kernel
theorem dX6_rest_25 : decode cX6_rest 25 = .ok (.invokestatic 73, 3) := by decide +kernel
theorem dX6_rest_28 : decode cX6_rest 28 = .ok (.ifCond .ne 5, 3) := by decide +kernel
theorem dX6_rest_31 : decode cX6_rest 31 = .ok (.iconst (-1), 1) := by decide +kernel
theorem dX6_rest_32 : decode cX6_rest 32 = .ok (.ireturn, 1) := by decide +kernel
theorem dX6_rest_33 : decode cX6_rest 33 = .ok (.aload_n 0, 1) := by decide +kernel
theorem dX6_rest_34 : decode cX6_rest 34 = .ok (.iconst 0, 1) := by decide +kernel
theorem dX6_rest_35 : decode cX6_rest 35 = .ok (.sipush 288, 3) := by decide +kernel
theorem dX6_rest_38 : decode cX6_rest 38 = .ok (.invokevirtual 226, 3) := by decide +kernel
theorem dX6_rest_41 : decode cX6_rest 41 = .ok (.iconst 0, 1) := by decide +kernel
theorem dX6_rest_42 : decode cX6_rest 42 = .ok (.istore 4, 2) := by decide +kernel
theorem dX6_rest_44 : decode cX6_rest 44 = .ok (.iload 4, 2) := by decide +kernel
theorem dX6_rest_46 : decode cX6_rest 46 = .ok (.bipush 100, 2) := by decide +kernel
theorem dX6_rest_48 : decode cX6_rest 48 = .ok (.if_icmp .ge 73, 3) := by decide +kernel
theorem dX6_rest_51 : decode cX6_rest 51 = .ok (.aload_n 0, 1) := by decide +kernel
theorem dX6_rest_52 : decode cX6_rest 52 = .ok (.getfield 7, 3) := by decide +kernel
theorem dX6_rest_55 : decode cX6_rest 55 = .ok (.sipush 309, 3) := by decide +kernel
theorem dX6_rest_58 : decode cX6_rest 58 = .ok (.iconst 4, 1) := by decide +kernel
theorem dX6_rest_59 : decode cX6_rest 59 = .ok (.iload_n 1, 1) := by decide +kernel
theorem dX6_rest_60 : decode cX6_rest 60 = .ok (.imul, 1) := by decide +kernel
theorem dX6_rest_61 : decode cX6_rest 61 = .ok (.iadd, 1) := by decide +kernel
theorem dX6_rest_62 : decode cX6_rest 62 = .ok (.iload 4, 2) := by decide +kernel
theorem dX6_rest_64 : decode cX6_rest 64 = .ok (.bipush 10, 2) := by decide +kernel
theorem dX6_rest_66 : decode cX6_rest 66 = .ok (.idiv, 1) := by decide +kernel
theorem dX6_rest_67 : decode cX6_rest 67 = .ok (.iastore, 1) := by decide +kernel
theorem dX6_rest_68 : decode cX6_rest 68 = .ok (.aload_n 0, 1) := by decide +kernel
theorem dX6_rest_69 : decode cX6_rest 69 = .ok (.getfield 7, 3) := by decide +kernel
theorem dX6_rest_72 : decode cX6_rest 72 = .ok (.sipush 309, 3) := by decide +kernel
theorem dX6_rest_75 : decode cX6_rest 75 = .ok (.iconst 4, 1) := by decide +kernel
theorem dX6_rest_76 : decode cX6_rest 76 = .ok (.iload_n 2, 1) := by decide +kernel
theorem dX6_rest_77 : decode cX6_rest 77 = .ok (.imul, 1) := by decide +kernel
theorem dX6_rest_78 : decode cX6_rest 78 = .ok (.iadd, 1) := by decide +kernel
theorem dX6_rest_79 : decode cX6_rest 79 = .ok (.iload 4, 2) := by decide +kernel
theorem dX6_rest_81 : decode cX6_rest 81 = .ok (.bipush 10, 2) := by decide +kernel
theorem dX6_rest_83 : decode cX6_rest 83 = .ok (.irem, 1) := by decide +kernel
theorem dX6_rest_84 : decode cX6_rest 84 = .ok (.iastore, 1) := by decide +kernel
theorem dX6_rest_85 : decode cX6_rest 85 = .ok (.aload_n 0, 1) := by decide +kernel
theorem dX6_rest_86 : decode cX6_rest 86 = .ok (.getfield 46, 3) := by decide +kernel
theorem dX6_rest_89 : decode cX6_rest 89 = .ok (.iload 4, 2) := by decide +kernel
theorem dX6_rest_91 : decode cX6_rest 91 = .ok (.aload_n 0, 1) := by decide +kernel
theorem dX6_rest_92 : decode cX6_rest 92 = .ok (.sipush 288, 3) := by decide +kernel
theorem dX6_rest_95 : decode cX6_rest 95 = .ok (.iload_n 1, 1) := by decide +kernel
theorem dX6_rest_96 : decode cX6_rest 96 = .ok (.invokevirtual 220, 3) := by decide +kernel
theorem dX6_rest_99 : decode cX6_rest 99 = .ok (.iastore, 1) := by decide +kernel
theorem dX6_rest_100 : decode cX6_rest 100 = .ok (.aload_n 0, 1) := by decide +kernel
theorem dX6_rest_101 : decode cX6_rest 101 = .ok (.getfield 49, 3) := by decide +kernel
theorem dX6_rest_104 : decode cX6_rest 104 = .ok (.iload 4, 2) := by decide +kernel
theorem dX6_rest_106 : decode cX6_rest 106 = .ok (.aload_n 0, 1) := by decide +kernel
theorem dX6_rest_107 : decode cX6_rest 107 = .ok (.sipush 288, 3) := by decide +kernel
theorem dX6_rest_110 : decode cX6_rest 110 = .ok (.iload_n 2, 1) := by decide +kernel
theorem dX6_rest_111 : decode cX6_rest 111 = .ok (.invokevirtual 212, 3) := by decide +kernel
theorem dX6_rest_114 : decode cX6_rest 114 = .ok (.iastore, 1) := by decide +kernel
theorem dX6_rest_115 : decode cX6_rest 115 = .ok (.iinc 4 1, 3) := by decide +kernel
theorem dX6_rest_118 : decode cX6_rest 118 = .ok (.goto (-74), 3) := by decide +kernel
theorem dX6_rest_121 : decode cX6_rest 121 = .ok (.iconst 0, 1) := by decide +kernel
theorem dX6_rest_122 : decode cX6_rest 122 = .ok (.istore 4, 2) := by decide +kernel
theorem dX6_rest_124 : decode cX6_rest 124 = .ok (.bipush (-4), 2) := by decide +kernel
theorem dX6_rest_126 : decode cX6_rest 126 = .ok (.istore 5, 2) := by decide +kernel
theorem dX6_rest_128 : decode cX6_rest 128 = .ok (.iconst 0, 1) := by decide +kernel
theorem dX6_rest_129 : decode cX6_rest 129 = .ok (.istore 6, 2) := by decide +kernel
theorem dX6_rest_131 : decode cX6_rest 131 = .ok (.iload 6, 2) := by decide +kernel
theorem dX6_rest_133 : decode cX6_rest 133 = .ok (.bipush 100, 2) := by decide +kernel
theorem dX6_rest_135 : decode cX6_rest 135 = .ok (.if_icmp .ge 59, 3) := by decide +kernel
theorem dX6_rest_138 : decode cX6_rest 138 = .ok (.aload_n 0, 1) := by decide +kernel
theorem dX6_rest_139 : decode cX6_rest 139 = .ok (.iload 6, 2) := by decide +kernel
theorem dX6_rest_141 : decode cX6_rest 141 = .ok (.bipush 10, 2) := by decide +kernel
theorem dX6_rest_143 : decode cX6_rest 143 = .ok (.idiv, 1) := by decide +kernel
theorem dX6_rest_144 : decode cX6_rest 144 = .ok (.iload 6, 2) := by decide +kernel
theorem dX6_rest_146 : decode cX6_rest 146 = .ok (.bipush 10, 2) := by decide +kernel
theorem dX6_rest_148 : decode cX6_rest 148 = .ok (.irem, 1) := by decide +kernel
theorem dX6_rest_149 : decode cX6_rest 149 = .ok (.invokevirtual 235, 3) := by decide +kernel
theorem dX6_rest_152 : decode cX6_rest 152 = .ok (.istore 7, 2) := by decide +kernel
theorem dX6_rest_154 : decode cX6_rest 154 = .ok (.iload 7, 2) := by decide +kernel
theorem dX6_rest_156 : decode cX6_rest 156 = .ok (.ifCond .eq 13, 3) := by decide +kernel
theorem dX6_rest_159 : decode cX6_rest 159 = .ok (.iload 4, 2) := by decide +kernel
theorem dX6_rest_161 : decode cX6_rest 161 = .ok (.ifCond .ne 8, 3) := by decide +kernel
theorem dX6_rest_164 : decode cX6_rest 164 = .ok (.iload 6, 2) := by decide +kernel
theorem dX6_rest_166 : decode cX6_rest 166 = .ok (.goto 5, 3) := by decide +kernel
theorem dX6_rest_169 : decode cX6_rest 169 = .ok (.iload 5, 2) := by decide +kernel
theorem dX6_rest_171 : decode cX6_rest 171 = .ok (.istore 5, 2) := by decide +kernel
theorem dX6_rest_173 : decode cX6_rest 173 = .ok (.iload 4, 2) := by decide +kernel
theorem dX6_rest_175 : decode cX6_rest 175 = .ok (.iload 7, 2) := by decide +kernel
theorem dX6_rest_177 : decode cX6_rest 177 = .ok (.ifCond .eq 7, 3) := by decide +kernel
theorem dX6_rest_180 : decode cX6_rest 180 = .ok (.iconst 1, 1) := by decide +kernel
theorem dX6_rest_181 : decode cX6_rest 181 = .ok (.goto 4, 3) := by decide +kernel
theorem dX6_rest_184 : decode cX6_rest 184 = .ok (.iconst 0, 1) := by decide +kernel
theorem dX6_rest_185 : decode cX6_rest 185 = .ok (.iadd, 1) := by decide +kernel
theorem dX6_rest_186 : decode cX6_rest 186 = .ok (.istore 4, 2) := by decide +kernel
theorem dX6_rest_188 : decode cX6_rest 188 = .ok (.iinc 6 1, 3) := by decide +kernel
theorem dX6_rest_191 : decode cX6_rest 191 = .ok (.goto (-60), 3) := by decide +kernel
theorem dX6_rest_194 : decode cX6_rest 194 = .ok (.iload_n 3, 1) := by decide +kernel
theorem dX6_rest_195 : decode cX6_rest 195 = .ok (.ifCond .ne 8, 3) := by decide +kernel
theorem dX6_rest_198 : decode cX6_rest 198 = .ok (.iload 4, 2) := by decide +kernel
theorem dX6_rest_200 : decode cX6_rest 200 = .ok (.goto 5, 3) := by decide +kernel
theorem dX6_rest_203 : decode cX6_rest 203 = .ok (.iload 5, 2) := by decide +kernel
theorem dX6_rest_205 : decode cX6_rest 205 = .ok (.ireturn, 1) := by decide +kernel
theorem dX6_lowest_0 : decode cX6_lowest 0 = .ok (.lload_n 0, 1) := by decide +kernel
theorem dX6_lowest_1 : decode cX6_lowest 1 = .ok (.lstore 5, 2) := by decide +kernel
theorem dX6_lowest_3 : decode cX6_lowest 3 = .ok (.lload_n 2, 1) := by decide +kernel
theorem dX6_lowest_4 : decode cX6_lowest 4 = .ok (.lstore 7, 2) := by decide +kernel
theorem dX6_lowest_6 : decode cX6_lowest 6 = .ok (.lload 7, 2) := by decide +kernel
theorem dX6_lowest_8 : decode cX6_lowest 8 = .ok (.lconst 0, 1) := by decide +kernel
theorem dX6_lowest_9 : decode cX6_lowest 9 = .ok (.lcmp, 1) := by decide +kernel
theorem dX6_lowest_10 : decode cX6_lowest 10 = .ok (.ifCond .eq 21, 3) := by decide +kernel
theorem dX6_lowest_13 : decode cX6_lowest 13 = .ok (.lload 5, 2) := by decide +kernel
theorem dX6_lowest_15 : decode cX6_lowest 15 = .ok (.lload 7, 2) := by decide +kernel
theorem dX6_lowest_17 : decode cX6_lowest 17 = .ok (.lrem, 1) := by decide +kernel
theorem dX6_lowest_18 : decode cX6_lowest 18 = .ok (.lstore 9, 2) := by decide +kernel
theorem dX6_lowest_20 : decode cX6_lowest 20 = .ok (.lload 7, 2) := by decide +kernel
theorem dX6_lowest_22 : decode cX6_lowest 22 = .ok (.lstore 5, 2) := by decide +kernel
theorem dX6_lowest_24 : decode cX6_lowest 24 = .ok (.lload 9, 2) := by decide +kernel
theorem dX6_lowest_26 : decode cX6_lowest 26 = .ok (.lstore 7, 2) := by decide +kernel
theorem dX6_lowest_28 : decode cX6_lowest 28 = .ok (.goto (-22), 3) := by decide +kernel
theorem dX6_lowest_31 : decode cX6_lowest 31 = .ok (.iload 4, 2) := by decide +kernel
theorem dX6_lowest_33 : decode cX6_lowest 33 = .ok (.ifCond .ne 7, 3) := by decide +kernel
theorem dX6_lowest_36 : decode cX6_lowest 36 = .ok (.lload_n 0, 1) := by decide +kernel
theorem dX6_lowest_37 : decode cX6_lowest 37 = .ok (.goto 4, 3) := by decide +kernel
theorem dX6_lowest_40 : decode cX6_lowest 40 = .ok (.lload_n 2, 1) := by decide +kernel
theorem dX6_lowest_41 : decode cX6_lowest 41 = .ok (.lload 5, 2) := by decide +kernel
theorem dX6_lowest_43 : decode cX6_lowest 43 = .ok (.ldiv, 1) := by decide +kernel
theorem dX6_lowest_44 : decode cX6_lowest 44 = .ok (.lreturn, 1) := by decide +kernel
theorem dX6_byDrops_0 : decode cX6_byDrops 0 = .ok (.aload_n 0, 1) := by decide +kernel
theorem dX6_byDrops_1 : decode cX6_byDrops 1 = .ok (.invokevirtual 167, 3) := by decide +kernel
theorem dX6_byDrops_4 : decode cX6_byDrops 4 = .ok (.istore 5, 2) := by decide +kernel
theorem dX6_byDrops_6 : decode cX6_byDrops 6 = .ok (.lconst 0, 1) := by decide +kernel
theorem dX6_byDrops_7 : decode cX6_byDrops 7 = .ok (.lstore 6, 2) := by decide +kernel
theorem dX6_byDrops_9 : decode cX6_byDrops 9 = .ok (.lconst 1, 1) := by decide +kernel
theorem dX6_byDrops_10 : decode cX6_byDrops 10 = .ok (.lstore 8, 2) := by decide +kernel
theorem dX6_byDrops_12 : decode cX6_byDrops 12 = .ok (.iconst 0, 1) := by decide +kernel
theorem dX6_byDrops_13 : decode cX6_byDrops 13 = .ok (.istore 10, 2) := by decide +kernel
theorem dX6_byDrops_15 : decode cX6_byDrops 15 = .ok (.iload 10, 2) := by decide +kernel
theorem dX6_byDrops_17 : decode cX6_byDrops 17 = .ok (.iload 5, 2) := by decide +kernel
theorem dX6_byDrops_19 : decode cX6_byDrops 19 = .ok (.invokestatic 170, 3) := by decide +kernel
theorem dX6_byDrops_22 : decode cX6_byDrops 22 = .ok (.if_icmp .ge 17, 3) := by decide +kernel
theorem dX6_byDrops_25 : decode cX6_byDrops 25 = .ok (.lload 8, 2) := by decide +kernel
theorem dX6_byDrops_27 : decode cX6_byDrops 27 = .ok (.ldc2_w 238, 3) := by decide +kernel
theorem dX6_byDrops_30 : decode cX6_byDrops 30 = .ok (.lmul, 1) := by decide +kernel
theorem dX6_byDrops_31 : decode cX6_byDrops 31 = .ok (.lstore 8, 2) := by decide +kernel
theorem dX6_byDrops_33 : decode cX6_byDrops 33 = .ok (.iinc 10 1, 3) := by decide +kernel
theorem dX6_byDrops_36 : decode cX6_byDrops 36 = .ok (.goto (-21), 3) := by decide +kernel
theorem dX6_byDrops_39 : decode cX6_byDrops 39 = .ok (.iconst 0, 1) := by decide +kernel
theorem dX6_byDrops_40 : decode cX6_byDrops 40 = .ok (.istore 10, 2) := by decide +kernel
theorem dX6_byDrops_42 : decode cX6_byDrops 42 = .ok (.iload 10, 2) := by decide +kernel
theorem dX6_byDrops_44 : decode cX6_byDrops 44 = .ok (.iconst 1, 1) := by decide +kernel
theorem dX6_byDrops_45 : decode cX6_byDrops 45 = .ok (.iload 5, 2) := by decide +kernel
theorem dX6_byDrops_47 : decode cX6_byDrops 47 = .ok (.invokestatic 170, 3) := by decide +kernel
theorem dX6_byDrops_50 : decode cX6_byDrops 50 = .ok (.ishl, 1) := by decide +kernel
theorem dX6_byDrops_51 : decode cX6_byDrops 51 = .ok (.if_icmp .ge 163, 3) := by decide +kernel
theorem dX6_byDrops_54 : decode cX6_byDrops 54 = .ok (.lconst 1, 1) := by decide +kernel
theorem dX6_byDrops_55 : decode cX6_byDrops 55 = .ok (.lstore 11, 2) := by decide +kernel
theorem dX6_byDrops_57 : decode cX6_byDrops 57 = .ok (.iconst 0, 1) := by decide +kernel
theorem dX6_byDrops_58 : decode cX6_byDrops 58 = .ok (.istore 13, 2) := by decide +kernel
theorem dX6_byDrops_60 : decode cX6_byDrops 60 = .ok (.aload_n 0, 1) := by decide +kernel
theorem dX6_byDrops_61 : decode cX6_byDrops 61 = .ok (.iconst 0, 1) := by decide +kernel
theorem dX6_byDrops_62 : decode cX6_byDrops 62 = .ok (.putfield 198, 3) := by decide +kernel
theorem dX6_byDrops_65 : decode cX6_byDrops 65 = .ok (.iconst 0, 1) := by decide +kernel
theorem dX6_byDrops_66 : decode cX6_byDrops 66 = .ok (.istore 14, 2) := by decide +kernel
theorem dX6_byDrops_68 : decode cX6_byDrops 68 = .ok (.iload 14, 2) := by decide +kernel
theorem dX6_byDrops_70 : decode cX6_byDrops 70 = .ok (.bipush 24, 2) := by decide +kernel
theorem dX6_byDrops_72 : decode cX6_byDrops 72 = .ok (.if_icmp .ge 83, 3) := by decide +kernel
theorem dX6_byDrops_75 : decode cX6_byDrops 75 = .ok (.iload 5, 2) := by decide +kernel
theorem dX6_byDrops_77 : decode cX6_byDrops 77 = .ok (.iload 14, 2) := by decide +kernel
theorem dX6_byDrops_79 : decode cX6_byDrops 79 = .ok (.ishr, 1) := by decide +kernel
theorem dX6_byDrops_80 : decode cX6_byDrops 80 = .ok (.iconst 1, 1) := by decide +kernel
theorem dX6_byDrops_81 : decode cX6_byDrops 81 = .ok (.iand, 1) := by decide +kernel
theorem dX6_byDrops_82 : decode cX6_byDrops 82 = .ok (.iconst 1, 1) := by decide +kernel
theorem dX6_byDrops_83 : decode cX6_byDrops 83 = .ok (.if_icmp .ne 66, 3) := by decide +kernel
theorem dX6_byDrops_86 : decode cX6_byDrops 86 = .ok (.iload 10, 2) := by decide +kernel
theorem dX6_byDrops_88 : decode cX6_byDrops 88 = .ok (.iload 13, 2) := by decide +kernel
theorem dX6_byDrops_90 : decode cX6_byDrops 90 = .ok (.ishr, 1) := by decide +kernel
theorem dX6_byDrops_91 : decode cX6_byDrops 91 = .ok (.iconst 1, 1) := by decide +kernel
theorem dX6_byDrops_92 : decode cX6_byDrops 92 = .ok (.iand, 1) := by decide +kernel
theorem dX6_byDrops_93 : decode cX6_byDrops 93 = .ok (.iconst 1, 1) := by decide +kernel
theorem dX6_byDrops_94 : decode cX6_byDrops 94 = .ok (.if_icmp .ne 7, 3) := by decide +kernel
theorem dX6_byDrops_97 : decode cX6_byDrops 97 = .ok (.iconst 1, 1) := by decide +kernel
theorem dX6_byDrops_98 : decode cX6_byDrops 98 = .ok (.goto 4, 3) := by decide +kernel
theorem dX6_byDrops_101 : decode cX6_byDrops 101 = .ok (.iconst 0, 1) := by decide +kernel
theorem dX6_byDrops_102 : decode cX6_byDrops 102 = .ok (.istore 15, 2) := by decide +kernel
theorem dX6_byDrops_104 : decode cX6_byDrops 104 = .ok (.lload 11, 2) := by decide +kernel
theorem dX6_byDrops_106 : decode cX6_byDrops 106 = .ok (.iload 15, 2) := by decide +kernel
theorem dX6_byDrops_108 : decode cX6_byDrops 108 = .ok (.ifCond .eq 8, 3) := by decide +kernel
theorem dX6_byDrops_111 : decode cX6_byDrops 111 = .ok (.iload_n 1, 1) := by decide +kernel
theorem dX6_byDrops_112 : decode cX6_byDrops 112 = .ok (.i2l, 1) := by decide +kernel
theorem dX6_byDrops_113 : decode cX6_byDrops 113 = .ok (.goto 8, 3) := by decide +kernel
theorem dX6_byDrops_116 : decode cX6_byDrops 116 = .ok (.bipush 10, 2) := by decide +kernel
theorem dX6_byDrops_118 : decode cX6_byDrops 118 = .ok (.iload_n 1, 1) := by decide +kernel
theorem dX6_byDrops_119 : decode cX6_byDrops 119 = .ok (.isub, 1) := by decide +kernel
theorem dX6_byDrops_120 : decode cX6_byDrops 120 = .ok (.i2l, 1) := by decide +kernel
theorem dX6_byDrops_121 : decode cX6_byDrops 121 = .ok (.lmul, 1) := by decide +kernel
theorem dX6_byDrops_122 : decode cX6_byDrops 122 = .ok (.lstore 11, 2) := by decide +kernel
theorem dX6_byDrops_124 : decode cX6_byDrops 124 = .ok (.aload_n 0, 1) := by decide +kernel
theorem dX6_byDrops_125 : decode cX6_byDrops 125 = .ok (.dup, 1) := by decide +kernel
theorem dX6_byDrops_126 : decode cX6_byDrops 126 = .ok (.getfield 198, 3) := by decide +kernel
theorem dX6_byDrops_129 : decode cX6_byDrops 129 = .ok (.iload 15, 2) := by decide +kernel
theorem dX6_byDrops_131 : decode cX6_byDrops 131 = .ok (.ifCond .eq 10, 3) := by decide +kernel
theorem dX6_byDrops_134 : decode cX6_byDrops 134 = .ok (.iconst 1, 1) := by decide +kernel
theorem dX6_byDrops_135 : decode cX6_byDrops 135 = .ok (.iload 14, 2) := by decide +kernel
theorem dX6_byDrops_137 : decode cX6_byDrops 137 = .ok (.ishl, 1) := by decide +kernel
theorem dX6_byDrops_138 : decode cX6_byDrops 138 = .ok (.goto 4, 3) := by decide +kernel
theorem dX6_byDrops_141 : decode cX6_byDrops 141 = .ok (.iconst 0, 1) := by decide +kernel
theorem dX6_byDrops_142 : decode cX6_byDrops 142 = .ok (.ior, 1) := by decide +kernel
theorem dX6_byDrops_143 : decode cX6_byDrops 143 = .ok (.putfield 198, 3) := by decide +kernel
theorem dX6_byDrops_146 : decode cX6_byDrops 146 = .ok (.iinc 13 1, 3) := by decide +kernel
theorem dX6_byDrops_149 : decode cX6_byDrops 149 = .ok (.iinc 14 1, 3) := by decide +kernel
theorem dX6_byDrops_152 : decode cX6_byDrops 152 = .ok (.goto (-84), 3) := by decide +kernel
theorem dX6_byDrops_155 : decode cX6_byDrops 155 = .ok (.aload_n 0, 1) := by decide +kernel
theorem dX6_byDrops_156 : decode cX6_byDrops 156 = .ok (.iconst 0, 1) := by decide +kernel
theorem dX6_byDrops_157 : decode cX6_byDrops 157 = .ok (.iload_n 3, 1) := by decide +kernel
theorem dX6_byDrops_158 : decode cX6_byDrops 158 = .ok (.invokevirtual 220, 3) := by decide +kernel
theorem dX6_byDrops_161 : decode cX6_byDrops 161 = .ok (.istore 14, 2) := by decide +kernel
theorem dX6_byDrops_163 : decode cX6_byDrops 163 = .ok (.lload 6, 2) := by decide +kernel
theorem dX6_byDrops_165 : decode cX6_byDrops 165 = .ok (.lload 11, 2) := by decide +kernel
theorem dX6_byDrops_167 : decode cX6_byDrops 167 = .ok (.iload_n 2, 1) := by decide +kernel
theorem dX6_byDrops_168 : decode cX6_byDrops 168 = .ok (.bipush (-4), 2) := by decide +kernel
theorem dX6_byDrops_170 : decode cX6_byDrops 170 = .ok (.if_icmp .ne 8, 3) := by decide +kernel
theorem dX6_byDrops_173 : decode cX6_byDrops 173 = .ok (.iload 14, 2) := by decide +kernel
theorem dX6_byDrops_175 : decode cX6_byDrops 175 = .ok (.goto 28, 3) := by decide +kernel
theorem dX6_byDrops_178 : decode cX6_byDrops 178 = .ok (.aload_n 0, 1) := by decide +kernel
theorem dX6_byDrops_179 : decode cX6_byDrops 179 = .ok (.getfield 34, 3) := by decide +kernel
theorem dX6_byDrops_182 : decode cX6_byDrops 182 = .ok (.iload_n 2, 1) := by decide +kernel
theorem dX6_byDrops_183 : decode cX6_byDrops 183 = .ok (.iaload, 1) := by decide +kernel
theorem dX6_byDrops_184 : decode cX6_byDrops 184 = .ok (.iconst 1, 1) := by decide +kernel
theorem dX6_byDrops_185 : decode cX6_byDrops 185 = .ok (.if_icmp .ne 17, 3) := by decide +kernel
theorem dX6_byDrops_188 : decode cX6_byDrops 188 = .ok (.aload_n 0, 1) := by decide +kernel
theorem dX6_byDrops_189 : decode cX6_byDrops 189 = .ok (.getfield 40, 3) := by decide +kernel
theorem dX6_byDrops_192 : decode cX6_byDrops 192 = .ok (.iload_n 2, 1) := by decide +kernel
theorem dX6_byDrops_193 : decode cX6_byDrops 193 = .ok (.iaload, 1) := by decide +kernel
theorem dX6_byDrops_194 : decode cX6_byDrops 194 = .ok (.iload_n 3, 1) := by decide +kernel
theorem dX6_byDrops_195 : decode cX6_byDrops 195 = .ok (.if_icmp .ne 7, 3) := by decide +kernel
theorem dX6_byDrops_198 : decode cX6_byDrops 198 = .ok (.iconst 1, 1) := by decide +kernel
theorem dX6_byDrops_199 : decode cX6_byDrops 199 = .ok (.goto 4, 3) := by decide +kernel
theorem dX6_byDrops_202 : decode cX6_byDrops 202 = .ok (.iconst 0, 1) := by decide +kernel
theorem dX6_byDrops_203 : decode cX6_byDrops 203 = .ok (.i2l, 1) := by decide +kernel
theorem dX6_byDrops_204 : decode cX6_byDrops 204 = .ok (.lmul, 1) := by decide +kernel
theorem dX6_byDrops_205 : decode cX6_byDrops 205 = .ok (.ladd, 1) := by decide +kernel
theorem dX6_byDrops_206 : decode cX6_byDrops 206 = .ok (.lstore 6, 2) := by decide +kernel
theorem dX6_byDrops_208 : decode cX6_byDrops 208 = .ok (.iinc 10 1, 3) := by decide +kernel
theorem dX6_byDrops_211 : decode cX6_byDrops 211 = .ok (.goto (-169), 3) := by decide +kernel
theorem dX6_byDrops_214 : decode cX6_byDrops 214 = .ok (.aload_n 0, 1) := by decide +kernel
theorem dX6_byDrops_215 : decode cX6_byDrops 215 = .ok (.iconst 0, 1) := by decide +kernel
theorem dX6_byDrops_216 : decode cX6_byDrops 216 = .ok (.putfield 198, 3) := by decide +kernel
theorem dX6_byDrops_219 : decode cX6_byDrops 219 = .ok (.lload 6, 2) := by decide +kernel
theorem dX6_byDrops_221 : decode cX6_byDrops 221 = .ok (.lload 8, 2) := by decide +kernel
theorem dX6_byDrops_223 : decode cX6_byDrops 223 = .ok (.iload 4, 2) := by decide +kernel
theorem dX6_byDrops_225 : decode cX6_byDrops 225 = .ok (.invokestatic 240, 3) := by decide +kernel
theorem dX6_byDrops_228 : decode cX6_byDrops 228 = .ok (.lreturn, 1) := by decide +kernel
theorem dX6_luck_0 : decode cX6_luck 0 = .ok (.iload_n 1, 1) := by decide +kernel
theorem dX6_luck_1 : decode cX6_luck 1 = .ok (.i2l, 1) := by decide +kernel
theorem dX6_luck_2 : decode cX6_luck 2 = .ok (.lconst 0, 1) := by decide +kernel
theorem dX6_luck_3 : decode cX6_luck 3 = .ok (.ldc2_w 238, 3) := by decide +kernel
theorem dX6_luck_6 : decode cX6_luck 6 = .ok (.invokestatic 73, 3) := by decide +kernel
theorem dX6_luck_9 : decode cX6_luck 9 = .ok (.ifCond .eq 30, 3) := by decide +kernel
theorem dX6_luck_12 : decode cX6_luck 12 = .ok (.aload_n 0, 1) := by decide +kernel
theorem dX6_luck_13 : decode cX6_luck 13 = .ok (.iload_n 2, 1) := by decide +kernel
theorem dX6_luck_14 : decode cX6_luck 14 = .ok (.invokevirtual 173, 3) := by decide +kernel
theorem dX6_luck_17 : decode cX6_luck 17 = .ok (.ifCond .eq 22, 3) := by decide +kernel
theorem dX6_luck_20 : decode cX6_luck 20 = .ok (.aload_n 0, 1) := by decide +kernel
theorem dX6_luck_21 : decode cX6_luck 21 = .ok (.iload_n 3, 1) := by decide +kernel
theorem dX6_luck_22 : decode cX6_luck 22 = .ok (.invokevirtual 179, 3) := by decide +kernel
theorem dX6_luck_25 : decode cX6_luck 25 = .ok (.ifCond .eq 14, 3) := by decide +kernel
theorem dX6_luck_28 : decode cX6_luck 28 = .ok (.iload 4, 2) := by decide +kernel
theorem dX6_luck_30 : decode cX6_luck 30 = .ok (.i2l, 1) := by decide +kernel
theorem dX6_luck_31 : decode cX6_luck 31 = .ok (.lconst 0, 1) := by decide +kernel
theorem dX6_luck_32 : decode cX6_luck 32 = .ok (.lconst 1, 1) := by decide +kernel
theorem dX6_luck_33 : decode cX6_luck 33 = .ok (.invokestatic 73, 3) := by decide +kernel
theorem dX6_luck_36 : decode cX6_luck 36 = .ok (.ifCond .ne 7, 3) := by decide +kernel
theorem dX6_luck_39 : decode cX6_luck 39 = .ok (.ldc2_w 244, 3) := by decide +kernel
theorem dX6_luck_42 : decode cX6_luck 42 = .ok (.lreturn, 1) := by decide +kernel
theorem dX6_luck_43 : decode cX6_luck 43 = .ok (.aload_n 0, 1) := by decide +kernel
theorem dX6_luck_44 : decode cX6_luck 44 = .ok (.invokevirtual 167, 3) := by decide +kernel
theorem dX6_luck_47 : decode cX6_luck 47 = .ok (.invokestatic 170, 3) := by decide +kernel
theorem dX6_luck_50 : decode cX6_luck 50 = .ok (.bipush 8, 2) := by decide +kernel
theorem dX6_luck_52 : decode cX6_luck 52 = .ok (.if_icmp .le 9, 3) := by decide +kernel
theorem dX6_luck_55 : decode cX6_luck 55 = .ok (.ldc2_w 246, 3) := by decide +kernel
theorem dX6_luck_58 : decode cX6_luck 58 = .ok (.goto 12, 3) := by decide +kernel
theorem dX6_luck_61 : decode cX6_luck 61 = .ok (.aload_n 0, 1) := by decide +kernel
theorem dX6_luck_62 : decode cX6_luck 62 = .ok (.iload_n 1, 1) := by decide +kernel
theorem dX6_luck_63 : decode cX6_luck 63 = .ok (.iload_n 2, 1) := by decide +kernel
theorem dX6_luck_64 : decode cX6_luck 64 = .ok (.iload_n 3, 1) := by decide +kernel
theorem dX6_luck_65 : decode cX6_luck 65 = .ok (.iload 4, 2) := by decide +kernel
theorem dX6_luck_67 : decode cX6_luck 67 = .ok (.invokevirtual 248, 3) := by decide +kernel
theorem dX6_luck_70 : decode cX6_luck 70 = .ok (.lreturn, 1) := by decide +kernel
theorem dX6_mean_0 : decode cX6_mean 0 = .ok (.iload_n 1, 1) := by decide +kernel
theorem dX6_mean_1 : decode cX6_mean 1 = .ok (.i2l, 1) := by decide +kernel
theorem dX6_mean_2 : decode cX6_mean 2 = .ok (.lconst 0, 1) := by decide +kernel
theorem dX6_mean_3 : decode cX6_mean 3 = .ok (.ldc2_w 238, 3) := by decide +kernel
theorem dX6_mean_6 : decode cX6_mean 6 = .ok (.invokestatic 73, 3) := by decide +kernel
theorem dX6_mean_9 : decode cX6_mean 9 = .ok (.ifCond .eq 21, 3) := by decide +kernel
theorem dX6_mean_12 : decode cX6_mean 12 = .ok (.aload_n 0, 1) := by decide +kernel
theorem dX6_mean_13 : decode cX6_mean 13 = .ok (.iload_n 2, 1) := by decide +kernel
theorem dX6_mean_14 : decode cX6_mean 14 = .ok (.invokevirtual 179, 3) := by decide +kernel
theorem dX6_mean_17 : decode cX6_mean 17 = .ok (.ifCond .eq 13, 3) := by decide +kernel
theorem dX6_mean_20 : decode cX6_mean 20 = .ok (.iload_n 3, 1) := by decide +kernel
theorem dX6_mean_21 : decode cX6_mean 21 = .ok (.i2l, 1) := by decide +kernel
theorem dX6_mean_22 : decode cX6_mean 22 = .ok (.lconst 0, 1) := by decide +kernel
theorem dX6_mean_23 : decode cX6_mean 23 = .ok (.lconst 1, 1) := by decide +kernel
theorem dX6_mean_24 : decode cX6_mean 24 = .ok (.invokestatic 73, 3) := by decide +kernel
theorem dX6_mean_27 : decode cX6_mean 27 = .ok (.ifCond .ne 7, 3) := by decide +kernel
theorem dX6_mean_30 : decode cX6_mean 30 = .ok (.ldc2_w 244, 3) := by decide +kernel
theorem dX6_mean_33 : decode cX6_mean 33 = .ok (.lreturn, 1) := by decide +kernel
theorem dX6_mean_34 : decode cX6_mean 34 = .ok (.aload_n 0, 1) := by decide +kernel
theorem dX6_mean_35 : decode cX6_mean 35 = .ok (.invokevirtual 167, 3) := by decide +kernel
theorem dX6_mean_38 : decode cX6_mean 38 = .ok (.invokestatic 170, 3) := by decide +kernel
theorem dX6_mean_41 : decode cX6_mean 41 = .ok (.bipush 8, 2) := by decide +kernel
theorem dX6_mean_43 : decode cX6_mean 43 = .ok (.if_icmp .le 9, 3) := by decide +kernel
theorem dX6_mean_46 : decode cX6_mean 46 = .ok (.ldc2_w 246, 3) := by decide +kernel
theorem dX6_mean_49 : decode cX6_mean 49 = .ok (.goto 12, 3) := by decide +kernel
theorem dX6_mean_52 : decode cX6_mean 52 = .ok (.aload_n 0, 1) := by decide +kernel
theorem dX6_mean_53 : decode cX6_mean 53 = .ok (.iload_n 1, 1) := by decide +kernel
theorem dX6_mean_54 : decode cX6_mean 54 = .ok (.bipush (-4), 2) := by decide +kernel
theorem dX6_mean_56 : decode cX6_mean 56 = .ok (.iload_n 2, 1) := by decide +kernel
theorem dX6_mean_57 : decode cX6_mean 57 = .ok (.iload_n 3, 1) := by decide +kernel
theorem dX6_mean_58 : decode cX6_mean 58 = .ok (.invokevirtual 248, 3) := by decide +kernel
theorem dX6_mean_61 : decode cX6_mean 61 = .ok (.lreturn, 1) := by decide +kernel
theorem dX6_see_0 : decode cX6_see 0 = .ok (.aload_n 0, 1) := by decide +kernel
theorem dX6_see_1 : decode cX6_see 1 = .ok (.iload_n 1, 1) := by decide +kernel
theorem dX6_see_2 : decode cX6_see 2 = .ok (.invokevirtual 173, 3) := by decide +kernel
theorem dX6_see_5 : decode cX6_see 5 = .ok (.ifCond .eq 27, 3) := by decide +kernel
theorem dX6_see_8 : decode cX6_see 8 = .ok (.iload_n 2, 1) := by decide +kernel
theorem dX6_see_9 : decode cX6_see 9 = .ok (.i2l, 1) := by decide +kernel
theorem dX6_see_10 : decode cX6_see 10 = .ok (.lconst 0, 1) := by decide +kernel
theorem dX6_see_11 : decode cX6_see 11 = .ok (.ldc2_w 216, 3) := by decide +kernel
theorem dX6_see_14 : decode cX6_see 14 = .ok (.invokestatic 73, 3) := by decide +kernel
theorem dX6_see_17 : decode cX6_see 17 = .ok (.ifCond .eq 15, 3) := by decide +kernel
theorem dX6_see_20 : decode cX6_see 20 = .ok (.iload_n 3, 1) := by decide +kernel
theorem dX6_see_21 : decode cX6_see 21 = .ok (.i2l, 1) := by decide +kernel
theorem dX6_see_22 : decode cX6_see 22 = .ok (.lconst 0, 1) := by decide +kernel
theorem dX6_see_23 : decode cX6_see 23 = .ok (.ldc2_w 252, 3) := by decide +kernel
theorem dX6_see_26 : decode cX6_see 26 = .ok (.invokestatic 73, 3) := by decide +kernel
theorem dX6_see_29 : decode cX6_see 29 = .ok (.ifCond .ne 5, 3) := by decide +kernel
theorem dX6_see_32 : decode cX6_see 32 = .ok (.iconst (-1), 1) := by decide +kernel
theorem dX6_see_33 : decode cX6_see 33 = .ok (.ireturn, 1) := by decide +kernel
theorem dX6_see_34 : decode cX6_see 34 = .ok (.aload_n 0, 1) := by decide +kernel
theorem dX6_see_35 : decode cX6_see 35 = .ok (.getfield 159, 3) := by decide +kernel
theorem dX6_see_38 : decode cX6_see 38 = .ok (.bipush 6, 2) := by decide +kernel
theorem dX6_see_40 : decode cX6_see 40 = .ok (.if_icmp .ne 6, 3) := by decide +kernel
theorem dX6_see_43 : decode cX6_see 43 = .ok (.bipush (-3), 2) := by decide +kernel
theorem dX6_see_45 : decode cX6_see 45 = .ok (.ireturn, 1) := by decide +kernel
theorem dX6_see_46 : decode cX6_see 46 = .ok (.aload_n 0, 1) := by decide +kernel
theorem dX6_see_47 : decode cX6_see 47 = .ok (.getfield 52, 3) := by decide +kernel
theorem dX6_see_50 : decode cX6_see 50 = .ok (.iconst 3, 1) := by decide +kernel
theorem dX6_see_51 : decode cX6_see 51 = .ok (.aload_n 0, 1) := by decide +kernel
theorem dX6_see_52 : decode cX6_see 52 = .ok (.getfield 159, 3) := by decide +kernel
theorem dX6_see_55 : decode cX6_see 55 = .ok (.imul, 1) := by decide +kernel
theorem dX6_see_56 : decode cX6_see 56 = .ok (.iload_n 1, 1) := by decide +kernel
theorem dX6_see_57 : decode cX6_see 57 = .ok (.iastore, 1) := by decide +kernel
theorem dX6_see_58 : decode cX6_see 58 = .ok (.aload_n 0, 1) := by decide +kernel
theorem dX6_see_59 : decode cX6_see 59 = .ok (.getfield 52, 3) := by decide +kernel
theorem dX6_see_62 : decode cX6_see 62 = .ok (.iconst 3, 1) := by decide +kernel
theorem dX6_see_63 : decode cX6_see 63 = .ok (.aload_n 0, 1) := by decide +kernel
theorem dX6_see_64 : decode cX6_see 64 = .ok (.getfield 159, 3) := by decide +kernel
theorem dX6_see_67 : decode cX6_see 67 = .ok (.imul, 1) := by decide +kernel
theorem dX6_see_68 : decode cX6_see 68 = .ok (.iconst 1, 1) := by decide +kernel
theorem dX6_see_69 : decode cX6_see 69 = .ok (.iadd, 1) := by decide +kernel
theorem dX6_see_70 : decode cX6_see 70 = .ok (.iload_n 2, 1) := by decide +kernel
theorem dX6_see_71 : decode cX6_see 71 = .ok (.iastore, 1) := by decide +kernel
theorem dX6_see_72 : decode cX6_see 72 = .ok (.aload_n 0, 1) := by decide +kernel
theorem dX6_see_73 : decode cX6_see 73 = .ok (.getfield 52, 3) := by decide +kernel
theorem dX6_see_76 : decode cX6_see 76 = .ok (.iconst 3, 1) := by decide +kernel
theorem dX6_see_77 : decode cX6_see 77 = .ok (.aload_n 0, 1) := by decide +kernel
theorem dX6_see_78 : decode cX6_see 78 = .ok (.getfield 159, 3) := by decide +kernel
theorem dX6_see_81 : decode cX6_see 81 = .ok (.imul, 1) := by decide +kernel
theorem dX6_see_82 : decode cX6_see 82 = .ok (.iconst 2, 1) := by decide +kernel
theorem dX6_see_83 : decode cX6_see 83 = .ok (.iadd, 1) := by decide +kernel
theorem dX6_see_84 : decode cX6_see 84 = .ok (.iload_n 3, 1) := by decide +kernel
theorem dX6_see_85 : decode cX6_see 85 = .ok (.iastore, 1) := by decide +kernel
theorem dX6_see_86 : decode cX6_see 86 = .ok (.aload_n 0, 1) := by decide +kernel
theorem dX6_see_87 : decode cX6_see 87 = .ok (.dup, 1) := by decide +kernel
theorem dX6_see_88 : decode cX6_see 88 = .ok (.getfield 159, 3) := by decide +kernel
theorem dX6_see_91 : decode cX6_see 91 = .ok (.iconst 1, 1) := by decide +kernel
theorem dX6_see_92 : decode cX6_see 92 = .ok (.iadd, 1) := by decide +kernel
theorem dX6_see_93 : decode cX6_see 93 = .ok (.putfield 159, 3) := by decide +kernel
theorem dX6_see_96 : decode cX6_see 96 = .ok (.aload_n 0, 1) := by decide +kernel
theorem dX6_see_97 : decode cX6_see 97 = .ok (.getfield 159, 3) := by decide +kernel
theorem dX6_see_100 : decode cX6_see 100 = .ok (.ireturn, 1) := by decide +kernel
theorem dX6_forget_0 : decode cX6_forget 0 = .ok (.iload_n 1, 1) := by decide +kernel
theorem dX6_forget_1 : decode cX6_forget 1 = .ok (.i2l, 1) := by decide +kernel
theorem dX6_forget_2 : decode cX6_forget 2 = .ok (.lconst 0, 1) := by decide +kernel
theorem dX6_forget_3 : decode cX6_forget 3 = .ok (.aload_n 0, 1) := by decide +kernel
theorem dX6_forget_4 : decode cX6_forget 4 = .ok (.getfield 159, 3) := by decide +kernel
theorem dX6_forget_7 : decode cX6_forget 7 = .ok (.i2l, 1) := by decide +kernel
theorem dX6_forget_8 : decode cX6_forget 8 = .ok (.invokestatic 73, 3) := by decide +kernel
theorem dX6_forget_11 : decode cX6_forget 11 = .ok (.ifCond .ne 5, 3) := by decide +kernel
theorem dX6_forget_14 : decode cX6_forget 14 = .ok (.iconst (-1), 1) := by decide +kernel
theorem dX6_forget_15 : decode cX6_forget 15 = .ok (.ireturn, 1) := by decide +kernel
theorem dX6_forget_16 : decode cX6_forget 16 = .ok (.aload_n 0, 1) := by decide +kernel
theorem dX6_forget_17 : decode cX6_forget 17 = .ok (.getfield 159, 3) := by decide +kernel
theorem dX6_forget_20 : decode cX6_forget 20 = .ok (.istore_n 2, 1) := by decide +kernel
theorem dX6_forget_21 : decode cX6_forget 21 = .ok (.aload_n 0, 1) := by decide +kernel
theorem dX6_forget_22 : decode cX6_forget 22 = .ok (.iload_n 1, 1) := by decide +kernel
theorem dX6_forget_23 : decode cX6_forget 23 = .ok (.putfield 159, 3) := by decide +kernel
theorem dX6_forget_26 : decode cX6_forget 26 = .ok (.iload_n 2, 1) := by decide +kernel
theorem dX6_forget_27 : decode cX6_forget 27 = .ok (.ireturn, 1) := by decide +kernel
theorem dX6_isAsSeen_0 : decode cX6_isAsSeen 0 = .ok (.iconst 1, 1) := by decide +kernel
theorem dX6_isAsSeen_1 : decode cX6_isAsSeen 1 = .ok (.istore_n 1, 1) := by decide +kernel
theorem dX6_isAsSeen_2 : decode cX6_isAsSeen 2 = .ok (.iconst 0, 1) := by decide +kernel
theorem dX6_isAsSeen_3 : decode cX6_isAsSeen 3 = .ok (.istore_n 2, 1) := by decide +kernel
theorem dX6_isAsSeen_4 : decode cX6_isAsSeen 4 = .ok (.iload_n 2, 1) := by decide +kernel
theorem dX6_isAsSeen_5 : decode cX6_isAsSeen 5 = .ok (.aload_n 0, 1) := by decide +kernel
theorem dX6_isAsSeen_6 : decode cX6_isAsSeen 6 = .ok (.getfield 159, 3) := by decide +kernel
theorem dX6_isAsSeen_9 : decode cX6_isAsSeen 9 = .ok (.if_icmp .ge 78, 3) := by decide +kernel
theorem dX6_isAsSeen_12 : decode cX6_isAsSeen 12 = .ok (.iload_n 1, 1) := by decide +kernel
theorem dX6_isAsSeen_13 : decode cX6_isAsSeen 13 = .ok (.ifCond .eq 74, 3) := by decide +kernel
theorem dX6_isAsSeen_16 : decode cX6_isAsSeen 16 = .ok (.aload_n 0, 1) := by decide +kernel
theorem dX6_isAsSeen_17 : decode cX6_isAsSeen 17 = .ok (.iconst 0, 1) := by decide +kernel
theorem dX6_isAsSeen_18 : decode cX6_isAsSeen 18 = .ok (.aload_n 0, 1) := by decide +kernel
theorem dX6_isAsSeen_19 : decode cX6_isAsSeen 19 = .ok (.getfield 52, 3) := by decide +kernel
theorem dX6_isAsSeen_22 : decode cX6_isAsSeen 22 = .ok (.iconst 3, 1) := by decide +kernel
theorem dX6_isAsSeen_23 : decode cX6_isAsSeen 23 = .ok (.iload_n 2, 1) := by decide +kernel
theorem dX6_isAsSeen_24 : decode cX6_isAsSeen 24 = .ok (.imul, 1) := by decide +kernel
theorem dX6_isAsSeen_25 : decode cX6_isAsSeen 25 = .ok (.iconst 1, 1) := by decide +kernel
theorem dX6_isAsSeen_26 : decode cX6_isAsSeen 26 = .ok (.iadd, 1) := by decide +kernel
theorem dX6_isAsSeen_27 : decode cX6_isAsSeen 27 = .ok (.iaload, 1) := by decide +kernel
theorem dX6_isAsSeen_28 : decode cX6_isAsSeen 28 = .ok (.invokevirtual 208, 3) := by decide +kernel
theorem dX6_isAsSeen_31 : decode cX6_isAsSeen 31 = .ok (.aload_n 0, 1) := by decide +kernel
theorem dX6_isAsSeen_32 : decode cX6_isAsSeen 32 = .ok (.aload_n 0, 1) := by decide +kernel
theorem dX6_isAsSeen_33 : decode cX6_isAsSeen 33 = .ok (.getfield 52, 3) := by decide +kernel
theorem dX6_isAsSeen_36 : decode cX6_isAsSeen 36 = .ok (.iconst 3, 1) := by decide +kernel
theorem dX6_isAsSeen_37 : decode cX6_isAsSeen 37 = .ok (.iload_n 2, 1) := by decide +kernel
theorem dX6_isAsSeen_38 : decode cX6_isAsSeen 38 = .ok (.imul, 1) := by decide +kernel
theorem dX6_isAsSeen_39 : decode cX6_isAsSeen 39 = .ok (.iaload, 1) := by decide +kernel
theorem dX6_isAsSeen_40 : decode cX6_isAsSeen 40 = .ok (.invokevirtual 173, 3) := by decide +kernel
theorem dX6_isAsSeen_43 : decode cX6_isAsSeen 43 = .ok (.ifCond .eq 36, 3) := by decide +kernel
theorem dX6_isAsSeen_46 : decode cX6_isAsSeen 46 = .ok (.bipush 10, 2) := by decide +kernel
theorem dX6_isAsSeen_48 : decode cX6_isAsSeen 48 = .ok (.aload_n 0, 1) := by decide +kernel
theorem dX6_isAsSeen_49 : decode cX6_isAsSeen 49 = .ok (.getfield 28, 3) := by decide +kernel
theorem dX6_isAsSeen_52 : decode cX6_isAsSeen 52 = .ok (.aload_n 0, 1) := by decide +kernel
theorem dX6_isAsSeen_53 : decode cX6_isAsSeen 53 = .ok (.getfield 52, 3) := by decide +kernel
theorem dX6_isAsSeen_56 : decode cX6_isAsSeen 56 = .ok (.iconst 3, 1) := by decide +kernel
theorem dX6_isAsSeen_57 : decode cX6_isAsSeen 57 = .ok (.iload_n 2, 1) := by decide +kernel
theorem dX6_isAsSeen_58 : decode cX6_isAsSeen 58 = .ok (.imul, 1) := by decide +kernel
theorem dX6_isAsSeen_59 : decode cX6_isAsSeen 59 = .ok (.iaload, 1) := by decide +kernel
theorem dX6_isAsSeen_60 : decode cX6_isAsSeen 60 = .ok (.iaload, 1) := by decide +kernel
theorem dX6_isAsSeen_61 : decode cX6_isAsSeen 61 = .ok (.iadd, 1) := by decide +kernel
theorem dX6_isAsSeen_62 : decode cX6_isAsSeen 62 = .ok (.aload_n 0, 1) := by decide +kernel
theorem dX6_isAsSeen_63 : decode cX6_isAsSeen 63 = .ok (.getfield 52, 3) := by decide +kernel
theorem dX6_isAsSeen_66 : decode cX6_isAsSeen 66 = .ok (.iconst 3, 1) := by decide +kernel
theorem dX6_isAsSeen_67 : decode cX6_isAsSeen 67 = .ok (.iload_n 2, 1) := by decide +kernel
theorem dX6_isAsSeen_68 : decode cX6_isAsSeen 68 = .ok (.imul, 1) := by decide +kernel
theorem dX6_isAsSeen_69 : decode cX6_isAsSeen 69 = .ok (.iconst 2, 1) := by decide +kernel
theorem dX6_isAsSeen_70 : decode cX6_isAsSeen 70 = .ok (.iadd, 1) := by decide +kernel
theorem dX6_isAsSeen_71 : decode cX6_isAsSeen 71 = .ok (.iaload, 1) := by decide +kernel
theorem dX6_isAsSeen_72 : decode cX6_isAsSeen 72 = .ok (.if_icmp .ne 7, 3) := by decide +kernel
theorem dX6_isAsSeen_75 : decode cX6_isAsSeen 75 = .ok (.iconst 1, 1) := by decide +kernel
theorem dX6_isAsSeen_76 : decode cX6_isAsSeen 76 = .ok (.goto 4, 3) := by decide +kernel
theorem dX6_isAsSeen_79 : decode cX6_isAsSeen 79 = .ok (.iconst 0, 1) := by decide +kernel
theorem dX6_isAsSeen_80 : decode cX6_isAsSeen 80 = .ok (.istore_n 1, 1) := by decide +kernel
theorem dX6_isAsSeen_81 : decode cX6_isAsSeen 81 = .ok (.iinc 2 1, 3) := by decide +kernel
theorem dX6_isAsSeen_84 : decode cX6_isAsSeen 84 = .ok (.goto (-80), 3) := by decide +kernel
theorem dX6_isAsSeen_87 : decode cX6_isAsSeen 87 = .ok (.iload_n 1, 1) := by decide +kernel
theorem dX6_isAsSeen_88 : decode cX6_isAsSeen 88 = .ok (.ireturn, 1) := by decide +kernel
theorem dX6_kindsOf_0 : decode cX6_kindsOf 0 = .ok (.aload_n 0, 1) := by decide +kernel
theorem dX6_kindsOf_1 : decode cX6_kindsOf 1 = .ok (.getfield 7, 3) := by decide +kernel
theorem dX6_kindsOf_4 : decode cX6_kindsOf 4 = .ok (.iload_n 1, 1) := by decide +kernel
theorem dX6_kindsOf_5 : decode cX6_kindsOf 5 = .ok (.iaload, 1) := by decide +kernel
theorem dX6_kindsOf_6 : decode cX6_kindsOf 6 = .ok (.istore_n 2, 1) := by decide +kernel
theorem dX6_kindsOf_7 : decode cX6_kindsOf 7 = .ok (.iconst 0, 1) := by decide +kernel
theorem dX6_kindsOf_8 : decode cX6_kindsOf 8 = .ok (.istore_n 3, 1) := by decide +kernel
theorem dX6_kindsOf_9 : decode cX6_kindsOf 9 = .ok (.iconst 0, 1) := by decide +kernel
theorem dX6_kindsOf_10 : decode cX6_kindsOf 10 = .ok (.istore 4, 2) := by decide +kernel
theorem dX6_kindsOf_12 : decode cX6_kindsOf 12 = .ok (.iload 4, 2) := by decide +kernel
theorem dX6_kindsOf_14 : decode cX6_kindsOf 14 = .ok (.iconst 4, 1) := by decide +kernel
theorem dX6_kindsOf_15 : decode cX6_kindsOf 15 = .ok (.if_icmp .ge 77, 3) := by decide +kernel
theorem dX6_kindsOf_18 : decode cX6_kindsOf 18 = .ok (.aload_n 0, 1) := by decide +kernel
theorem dX6_kindsOf_19 : decode cX6_kindsOf 19 = .ok (.getfield 7, 3) := by decide +kernel
theorem dX6_kindsOf_22 : decode cX6_kindsOf 22 = .ok (.iload_n 1, 1) := by decide +kernel
theorem dX6_kindsOf_23 : decode cX6_kindsOf 23 = .ok (.iload 4, 2) := by decide +kernel
theorem dX6_kindsOf_25 : decode cX6_kindsOf 25 = .ok (.iastore, 1) := by decide +kernel
theorem dX6_kindsOf_26 : decode cX6_kindsOf 26 = .ok (.iload_n 3, 1) := by decide +kernel
theorem dX6_kindsOf_27 : decode cX6_kindsOf 27 = .ok (.aload_n 0, 1) := by decide +kernel
theorem dX6_kindsOf_28 : decode cX6_kindsOf 28 = .ok (.invokevirtual 254, 3) := by decide +kernel
theorem dX6_kindsOf_31 : decode cX6_kindsOf 31 = .ok (.ifCond .eq 10, 3) := by decide +kernel
theorem dX6_kindsOf_34 : decode cX6_kindsOf 34 = .ok (.iconst 1, 1) := by decide +kernel
theorem dX6_kindsOf_35 : decode cX6_kindsOf 35 = .ok (.iload 4, 2) := by decide +kernel
theorem dX6_kindsOf_37 : decode cX6_kindsOf 37 = .ok (.ishl, 1) := by decide +kernel
theorem dX6_kindsOf_38 : decode cX6_kindsOf 38 = .ok (.goto 4, 3) := by decide +kernel
theorem dX6_kindsOf_41 : decode cX6_kindsOf 41 = .ok (.iconst 0, 1) := by decide +kernel
theorem dX6_kindsOf_42 : decode cX6_kindsOf 42 = .ok (.ior, 1) := by decide +kernel
theorem dX6_kindsOf_43 : decode cX6_kindsOf 43 = .ok (.istore_n 3, 1) := by decide +kernel
theorem dX6_kindsOf_44 : decode cX6_kindsOf 44 = .ok (.iconst 0, 1) := by decide +kernel
theorem dX6_kindsOf_45 : decode cX6_kindsOf 45 = .ok (.istore 5, 2) := by decide +kernel
theorem dX6_kindsOf_47 : decode cX6_kindsOf 47 = .ok (.iload 5, 2) := by decide +kernel
theorem dX6_kindsOf_49 : decode cX6_kindsOf 49 = .ok (.bipush 24, 2) := by decide +kernel
theorem dX6_kindsOf_51 : decode cX6_kindsOf 51 = .ok (.if_icmp .gt 35, 3) := by decide +kernel
theorem dX6_kindsOf_54 : decode cX6_kindsOf 54 = .ok (.aload_n 0, 1) := by decide +kernel
theorem dX6_kindsOf_55 : decode cX6_kindsOf 55 = .ok (.iconst 0, 1) := by decide +kernel
theorem dX6_kindsOf_56 : decode cX6_kindsOf 56 = .ok (.iload 5, 2) := by decide +kernel
theorem dX6_kindsOf_58 : decode cX6_kindsOf 58 = .ok (.invokevirtual 208, 3) := by decide +kernel
theorem dX6_kindsOf_61 : decode cX6_kindsOf 61 = .ok (.aload_n 0, 1) := by decide +kernel
theorem dX6_kindsOf_62 : decode cX6_kindsOf 62 = .ok (.getfield 55, 3) := by decide +kernel
theorem dX6_kindsOf_65 : decode cX6_kindsOf 65 = .ok (.bipush 25, 2) := by decide +kernel
theorem dX6_kindsOf_67 : decode cX6_kindsOf 67 = .ok (.iload 4, 2) := by decide +kernel
theorem dX6_kindsOf_69 : decode cX6_kindsOf 69 = .ok (.imul, 1) := by decide +kernel
theorem dX6_kindsOf_70 : decode cX6_kindsOf 70 = .ok (.iload 5, 2) := by decide +kernel
theorem dX6_kindsOf_72 : decode cX6_kindsOf 72 = .ok (.iadd, 1) := by decide +kernel
theorem dX6_kindsOf_73 : decode cX6_kindsOf 73 = .ok (.aload_n 0, 1) := by decide +kernel
theorem dX6_kindsOf_74 : decode cX6_kindsOf 74 = .ok (.getfield 28, 3) := by decide +kernel
theorem dX6_kindsOf_77 : decode cX6_kindsOf 77 = .ok (.iload_n 1, 1) := by decide +kernel
theorem dX6_kindsOf_78 : decode cX6_kindsOf 78 = .ok (.iaload, 1) := by decide +kernel
theorem dX6_kindsOf_79 : decode cX6_kindsOf 79 = .ok (.iastore, 1) := by decide +kernel
theorem dX6_kindsOf_80 : decode cX6_kindsOf 80 = .ok (.iinc 5 1, 3) := by decide +kernel
theorem dX6_kindsOf_83 : decode cX6_kindsOf 83 = .ok (.goto (-36), 3) := by decide +kernel
theorem dX6_kindsOf_86 : decode cX6_kindsOf 86 = .ok (.iinc 4 1, 3) := by decide +kernel
theorem dX6_kindsOf_89 : decode cX6_kindsOf 89 = .ok (.goto (-77), 3) := by decide +kernel
theorem dX6_kindsOf_92 : decode cX6_kindsOf 92 = .ok (.aload_n 0, 1) := by decide +kernel
theorem dX6_kindsOf_93 : decode cX6_kindsOf 93 = .ok (.getfield 7, 3) := by decide +kernel
theorem dX6_kindsOf_96 : decode cX6_kindsOf 96 = .ok (.iload_n 1, 1) := by decide +kernel
theorem dX6_kindsOf_97 : decode cX6_kindsOf 97 = .ok (.iload_n 2, 1) := by decide +kernel
theorem dX6_kindsOf_98 : decode cX6_kindsOf 98 = .ok (.iastore, 1) := by decide +kernel
theorem dX6_kindsOf_99 : decode cX6_kindsOf 99 = .ok (.iload_n 3, 1) := by decide +kernel
theorem dX6_kindsOf_100 : decode cX6_kindsOf 100 = .ok (.ireturn, 1) := by decide +kernel
theorem dX6_kinds_0 : decode cX6_kinds 0 = .ok (.aload_n 0, 1) := by decide +kernel
theorem dX6_kinds_1 : decode cX6_kinds 1 = .ok (.iload_n 1, 1) := by decide +kernel
theorem dX6_kinds_2 : decode cX6_kinds 2 = .ok (.invokevirtual 173, 3) := by decide +kernel
theorem dX6_kinds_5 : decode cX6_kinds 5 = .ok (.ifCond .eq 11, 3) := by decide +kernel
theorem dX6_kinds_8 : decode cX6_kinds 8 = .ok (.aload_n 0, 1) := by decide +kernel
theorem dX6_kinds_9 : decode cX6_kinds 9 = .ok (.iload_n 1, 1) := by decide +kernel
theorem dX6_kinds_10 : decode cX6_kinds 10 = .ok (.invokevirtual 258, 3) := by decide +kernel
theorem dX6_kinds_13 : decode cX6_kinds 13 = .ok (.goto 4, 3) := by decide +kernel
theorem dX6_kinds_16 : decode cX6_kinds 16 = .ok (.iconst (-1), 1) := by decide +kernel
theorem dX6_kinds_17 : decode cX6_kinds 17 = .ok (.ireturn, 1) := by decide +kernel
theorem dX6_sets_0 : decode cX6_sets 0 = .ok (.iload_n 1, 1) := by decide +kernel
theorem dX6_sets_1 : decode cX6_sets 1 = .ok (.i2l, 1) := by decide +kernel
theorem dX6_sets_2 : decode cX6_sets 2 = .ok (.lconst 0, 1) := by decide +kernel
theorem dX6_sets_3 : decode cX6_sets 3 = .ok (.ldc2_w 184, 3) := by decide +kernel
theorem dX6_sets_6 : decode cX6_sets 6 = .ok (.invokestatic 73, 3) := by decide +kernel
theorem dX6_sets_9 : decode cX6_sets 9 = .ok (.ifCond .ne 5, 3) := by decide +kernel
theorem dX6_sets_12 : decode cX6_sets 12 = .ok (.iconst (-1), 1) := by decide +kernel
theorem dX6_sets_13 : decode cX6_sets 13 = .ok (.ireturn, 1) := by decide +kernel
theorem dX6_sets_14 : decode cX6_sets 14 = .ok (.aload_n 0, 1) := by decide +kernel
theorem dX6_sets_15 : decode cX6_sets 15 = .ok (.getfield 7, 3) := by decide +kernel
theorem dX6_sets_18 : decode cX6_sets 18 = .ok (.bipush 37, 2) := by decide +kernel
theorem dX6_sets_20 : decode cX6_sets 20 = .ok (.iload_n 1, 1) := by decide +kernel
theorem dX6_sets_21 : decode cX6_sets 21 = .ok (.iadd, 1) := by decide +kernel
theorem dX6_sets_22 : decode cX6_sets 22 = .ok (.iaload, 1) := by decide +kernel
theorem dX6_sets_23 : decode cX6_sets 23 = .ok (.istore_n 2, 1) := by decide +kernel
theorem dX6_sets_24 : decode cX6_sets 24 = .ok (.iconst 0, 1) := by decide +kernel
theorem dX6_sets_25 : decode cX6_sets 25 = .ok (.istore_n 3, 1) := by decide +kernel
theorem dX6_sets_26 : decode cX6_sets 26 = .ok (.iconst 0, 1) := by decide +kernel
theorem dX6_sets_27 : decode cX6_sets 27 = .ok (.istore 4, 2) := by decide +kernel
theorem dX6_sets_29 : decode cX6_sets 29 = .ok (.iload 4, 2) := by decide +kernel
theorem dX6_sets_31 : decode cX6_sets 31 = .ok (.iconst 4, 1) := by decide +kernel
theorem dX6_sets_32 : decode cX6_sets 32 = .ok (.if_icmp .gt 40, 3) := by decide +kernel
theorem dX6_sets_35 : decode cX6_sets 35 = .ok (.aload_n 0, 1) := by decide +kernel
theorem dX6_sets_36 : decode cX6_sets 36 = .ok (.getfield 7, 3) := by decide +kernel
theorem dX6_sets_39 : decode cX6_sets 39 = .ok (.bipush 37, 2) := by decide +kernel
theorem dX6_sets_41 : decode cX6_sets 41 = .ok (.iload_n 1, 1) := by decide +kernel
theorem dX6_sets_42 : decode cX6_sets 42 = .ok (.iadd, 1) := by decide +kernel
theorem dX6_sets_43 : decode cX6_sets 43 = .ok (.iload 4, 2) := by decide +kernel
theorem dX6_sets_45 : decode cX6_sets 45 = .ok (.iconst 2, 1) := by decide +kernel
theorem dX6_sets_46 : decode cX6_sets 46 = .ok (.isub, 1) := by decide +kernel
theorem dX6_sets_47 : decode cX6_sets 47 = .ok (.iastore, 1) := by decide +kernel
theorem dX6_sets_48 : decode cX6_sets 48 = .ok (.iload_n 3, 1) := by decide +kernel
theorem dX6_sets_49 : decode cX6_sets 49 = .ok (.aload_n 0, 1) := by decide +kernel
theorem dX6_sets_50 : decode cX6_sets 50 = .ok (.invokevirtual 254, 3) := by decide +kernel
theorem dX6_sets_53 : decode cX6_sets 53 = .ok (.ifCond .eq 10, 3) := by decide +kernel
theorem dX6_sets_56 : decode cX6_sets 56 = .ok (.iconst 1, 1) := by decide +kernel
theorem dX6_sets_57 : decode cX6_sets 57 = .ok (.iload 4, 2) := by decide +kernel
theorem dX6_sets_59 : decode cX6_sets 59 = .ok (.ishl, 1) := by decide +kernel
theorem dX6_sets_60 : decode cX6_sets 60 = .ok (.goto 4, 3) := by decide +kernel
theorem dX6_sets_63 : decode cX6_sets 63 = .ok (.iconst 0, 1) := by decide +kernel
theorem dX6_sets_64 : decode cX6_sets 64 = .ok (.ior, 1) := by decide +kernel
theorem dX6_sets_65 : decode cX6_sets 65 = .ok (.istore_n 3, 1) := by decide +kernel
theorem dX6_sets_66 : decode cX6_sets 66 = .ok (.iinc 4 1, 3) := by decide +kernel
theorem dX6_sets_69 : decode cX6_sets 69 = .ok (.goto (-40), 3) := by decide +kernel
theorem dX6_sets_72 : decode cX6_sets 72 = .ok (.aload_n 0, 1) := by decide +kernel
theorem dX6_sets_73 : decode cX6_sets 73 = .ok (.getfield 7, 3) := by decide +kernel
theorem dX6_sets_76 : decode cX6_sets 76 = .ok (.bipush 37, 2) := by decide +kernel
theorem dX6_sets_78 : decode cX6_sets 78 = .ok (.iload_n 1, 1) := by decide +kernel
theorem dX6_sets_79 : decode cX6_sets 79 = .ok (.iadd, 1) := by decide +kernel
theorem dX6_sets_80 : decode cX6_sets 80 = .ok (.iload_n 2, 1) := by decide +kernel
theorem dX6_sets_81 : decode cX6_sets 81 = .ok (.iastore, 1) := by decide +kernel
theorem dX6_sets_82 : decode cX6_sets 82 = .ok (.iload_n 3, 1) := by decide +kernel
theorem dX6_sets_83 : decode cX6_sets 83 = .ok (.ireturn, 1) := by decide +kernel
theorem dX6_look_0 : decode cX6_look 0 = .ok (.aload_n 0, 1) := by decide +kernel
theorem dX6_look_1 : decode cX6_look 1 = .ok (.iload_n 1, 1) := by decide +kernel
theorem dX6_look_2 : decode cX6_look 2 = .ok (.invokevirtual 173, 3) := by decide +kernel
theorem dX6_look_5 : decode cX6_look 5 = .ok (.ifCond .eq 13, 3) := by decide +kernel
theorem dX6_look_8 : decode cX6_look 8 = .ok (.iload_n 2, 1) := by decide +kernel
theorem dX6_look_9 : decode cX6_look 9 = .ok (.i2l, 1) := by decide +kernel
theorem dX6_look_10 : decode cX6_look 10 = .ok (.lconst 0, 1) := by decide +kernel
theorem dX6_look_11 : decode cX6_look 11 = .ok (.lconst 1, 1) := by decide +kernel
theorem dX6_look_12 : decode cX6_look 12 = .ok (.invokestatic 73, 3) := by decide +kernel
theorem dX6_look_15 : decode cX6_look 15 = .ok (.ifCond .ne 5, 3) := by decide +kernel
theorem dX6_look_18 : decode cX6_look 18 = .ok (.iconst (-1), 1) := by decide +kernel
theorem dX6_look_19 : decode cX6_look 19 = .ok (.ireturn, 1) := by decide +kernel
theorem dX6_look_20 : decode cX6_look 20 = .ok (.aload_n 0, 1) := by decide +kernel
theorem dX6_look_21 : decode cX6_look 21 = .ok (.iload_n 1, 1) := by decide +kernel
theorem dX6_look_22 : decode cX6_look 22 = .ok (.invokevirtual 258, 3) := by decide +kernel
theorem dX6_look_25 : decode cX6_look 25 = .ok (.istore_n 3, 1) := by decide +kernel
theorem dX6_look_26 : decode cX6_look 26 = .ok (.iload_n 3, 1) := by decide +kernel
theorem dX6_look_27 : decode cX6_look 27 = .ok (.invokestatic 170, 3) := by decide +kernel
theorem dX6_look_30 : decode cX6_look 30 = .ok (.istore 4, 2) := by decide +kernel
theorem dX6_look_32 : decode cX6_look 32 = .ok (.bipush (-4), 2) := by decide +kernel
theorem dX6_look_34 : decode cX6_look 34 = .ok (.istore 5, 2) := by decide +kernel
theorem dX6_look_36 : decode cX6_look 36 = .ok (.iconst 0, 1) := by decide +kernel
theorem dX6_look_37 : decode cX6_look 37 = .ok (.istore 6, 2) := by decide +kernel
theorem dX6_look_39 : decode cX6_look 39 = .ok (.iload 6, 2) := by decide +kernel
theorem dX6_look_41 : decode cX6_look 41 = .ok (.bipush 24, 2) := by decide +kernel
theorem dX6_look_43 : decode cX6_look 43 = .ok (.if_icmp .gt 152, 3) := by decide +kernel
theorem dX6_look_46 : decode cX6_look 46 = .ok (.iconst 0, 1) := by decide +kernel
theorem dX6_look_47 : decode cX6_look 47 = .ok (.istore 7, 2) := by decide +kernel
theorem dX6_look_49 : decode cX6_look 49 = .ok (.iconst 0, 1) := by decide +kernel
theorem dX6_look_50 : decode cX6_look 50 = .ok (.istore 8, 2) := by decide +kernel
theorem dX6_look_52 : decode cX6_look 52 = .ok (.iload 8, 2) := by decide +kernel
theorem dX6_look_54 : decode cX6_look 54 = .ok (.iconst 4, 1) := by decide +kernel
theorem dX6_look_55 : decode cX6_look 55 = .ok (.if_icmp .ge 102, 3) := by decide +kernel
theorem dX6_look_58 : decode cX6_look 58 = .ok (.iconst 0, 1) := by decide +kernel
theorem dX6_look_59 : decode cX6_look 59 = .ok (.istore 9, 2) := by decide +kernel
theorem dX6_look_61 : decode cX6_look 61 = .ok (.iconst 0, 1) := by decide +kernel
theorem dX6_look_62 : decode cX6_look 62 = .ok (.istore 10, 2) := by decide +kernel
theorem dX6_look_64 : decode cX6_look 64 = .ok (.iload 10, 2) := by decide +kernel
theorem dX6_look_66 : decode cX6_look 66 = .ok (.iconst 4, 1) := by decide +kernel
theorem dX6_look_67 : decode cX6_look 67 = .ok (.if_icmp .ge 68, 3) := by decide +kernel
theorem dX6_look_70 : decode cX6_look 70 = .ok (.iload_n 3, 1) := by decide +kernel
theorem dX6_look_71 : decode cX6_look 71 = .ok (.iload 8, 2) := by decide +kernel
theorem dX6_look_73 : decode cX6_look 73 = .ok (.ishr, 1) := by decide +kernel
theorem dX6_look_74 : decode cX6_look 74 = .ok (.iconst 1, 1) := by decide +kernel
theorem dX6_look_75 : decode cX6_look 75 = .ok (.iand, 1) := by decide +kernel
theorem dX6_look_76 : decode cX6_look 76 = .ok (.iconst 1, 1) := by decide +kernel
theorem dX6_look_77 : decode cX6_look 77 = .ok (.if_icmp .ne 58, 3) := by decide +kernel
theorem dX6_look_80 : decode cX6_look 80 = .ok (.iload 9, 2) := by decide +kernel
theorem dX6_look_82 : decode cX6_look 82 = .ok (.iload_n 3, 1) := by decide +kernel
theorem dX6_look_83 : decode cX6_look 83 = .ok (.iload 10, 2) := by decide +kernel
theorem dX6_look_85 : decode cX6_look 85 = .ok (.ishr, 1) := by decide +kernel
theorem dX6_look_86 : decode cX6_look 86 = .ok (.iconst 1, 1) := by decide +kernel
theorem dX6_look_87 : decode cX6_look 87 = .ok (.iand, 1) := by decide +kernel
theorem dX6_look_88 : decode cX6_look 88 = .ok (.iconst 1, 1) := by decide +kernel
theorem dX6_look_89 : decode cX6_look 89 = .ok (.if_icmp .ne 36, 3) := by decide +kernel
theorem dX6_look_92 : decode cX6_look 92 = .ok (.aload_n 0, 1) := by decide +kernel
theorem dX6_look_93 : decode cX6_look 93 = .ok (.getfield 55, 3) := by decide +kernel
theorem dX6_look_96 : decode cX6_look 96 = .ok (.bipush 25, 2) := by decide +kernel
theorem dX6_look_98 : decode cX6_look 98 = .ok (.iload 8, 2) := by decide +kernel
theorem dX6_look_100 : decode cX6_look 100 = .ok (.imul, 1) := by decide +kernel
theorem dX6_look_101 : decode cX6_look 101 = .ok (.iload 6, 2) := by decide +kernel
theorem dX6_look_103 : decode cX6_look 103 = .ok (.iadd, 1) := by decide +kernel
theorem dX6_look_104 : decode cX6_look 104 = .ok (.iaload, 1) := by decide +kernel
theorem dX6_look_105 : decode cX6_look 105 = .ok (.aload_n 0, 1) := by decide +kernel
theorem dX6_look_106 : decode cX6_look 106 = .ok (.getfield 55, 3) := by decide +kernel
theorem dX6_look_109 : decode cX6_look 109 = .ok (.bipush 25, 2) := by decide +kernel
theorem dX6_look_111 : decode cX6_look 111 = .ok (.iload 10, 2) := by decide +kernel
theorem dX6_look_113 : decode cX6_look 113 = .ok (.imul, 1) := by decide +kernel
theorem dX6_look_114 : decode cX6_look 114 = .ok (.iload 6, 2) := by decide +kernel
theorem dX6_look_116 : decode cX6_look 116 = .ok (.iadd, 1) := by decide +kernel
theorem dX6_look_117 : decode cX6_look 117 = .ok (.iaload, 1) := by decide +kernel
theorem dX6_look_118 : decode cX6_look 118 = .ok (.if_icmp .ne 7, 3) := by decide +kernel
theorem dX6_look_121 : decode cX6_look 121 = .ok (.iconst 1, 1) := by decide +kernel
theorem dX6_look_122 : decode cX6_look 122 = .ok (.goto 4, 3) := by decide +kernel
theorem dX6_look_125 : decode cX6_look 125 = .ok (.iconst 0, 1) := by decide +kernel
theorem dX6_look_126 : decode cX6_look 126 = .ok (.iadd, 1) := by decide +kernel
theorem dX6_look_127 : decode cX6_look 127 = .ok (.istore 9, 2) := by decide +kernel
theorem dX6_look_129 : decode cX6_look 129 = .ok (.iinc 10 1, 3) := by decide +kernel
theorem dX6_look_132 : decode cX6_look 132 = .ok (.goto (-68), 3) := by decide +kernel
theorem dX6_look_135 : decode cX6_look 135 = .ok (.iload 9, 2) := by decide +kernel
theorem dX6_look_137 : decode cX6_look 137 = .ok (.iload 7, 2) := by decide +kernel
theorem dX6_look_139 : decode cX6_look 139 = .ok (.if_icmp .le 8, 3) := by decide +kernel
theorem dX6_look_142 : decode cX6_look 142 = .ok (.iload 9, 2) := by decide +kernel
theorem dX6_look_144 : decode cX6_look 144 = .ok (.goto 5, 3) := by decide +kernel
theorem dX6_look_147 : decode cX6_look 147 = .ok (.iload 7, 2) := by decide +kernel
theorem dX6_look_149 : decode cX6_look 149 = .ok (.istore 7, 2) := by decide +kernel
theorem dX6_look_151 : decode cX6_look 151 = .ok (.iinc 8 1, 3) := by decide +kernel
theorem dX6_look_154 : decode cX6_look 154 = .ok (.goto (-102), 3) := by decide +kernel
theorem dX6_look_157 : decode cX6_look 157 = .ok (.iload 7, 2) := by decide +kernel
theorem dX6_look_159 : decode cX6_look 159 = .ok (.iload 4, 2) := by decide +kernel
theorem dX6_look_161 : decode cX6_look 161 = .ok (.if_icmp .ge 8, 3) := by decide +kernel
theorem dX6_look_164 : decode cX6_look 164 = .ok (.iload 6, 2) := by decide +kernel
theorem dX6_look_166 : decode cX6_look 166 = .ok (.goto 5, 3) := by decide +kernel
theorem dX6_look_169 : decode cX6_look 169 = .ok (.iload 5, 2) := by decide +kernel
theorem dX6_look_171 : decode cX6_look 171 = .ok (.istore 5, 2) := by decide +kernel
theorem dX6_look_173 : decode cX6_look 173 = .ok (.iload 7, 2) := by decide +kernel
theorem dX6_look_175 : decode cX6_look 175 = .ok (.iload 4, 2) := by decide +kernel
theorem dX6_look_177 : decode cX6_look 177 = .ok (.if_icmp .ge 8, 3) := by decide +kernel
theorem dX6_look_180 : decode cX6_look 180 = .ok (.iload 7, 2) := by decide +kernel
theorem dX6_look_182 : decode cX6_look 182 = .ok (.goto 5, 3) := by decide +kernel
theorem dX6_look_185 : decode cX6_look 185 = .ok (.iload 4, 2) := by decide +kernel
theorem dX6_look_187 : decode cX6_look 187 = .ok (.istore 4, 2) := by decide +kernel
theorem dX6_look_189 : decode cX6_look 189 = .ok (.iinc 6 1, 3) := by decide +kernel
theorem dX6_look_192 : decode cX6_look 192 = .ok (.goto (-153), 3) := by decide +kernel
theorem dX6_look_195 : decode cX6_look 195 = .ok (.iload 5, 2) := by decide +kernel
theorem dX6_look_197 : decode cX6_look 197 = .ok (.bipush (-4), 2) := by decide +kernel
theorem dX6_look_199 : decode cX6_look 199 = .ok (.if_icmp .eq 7, 3) := by decide +kernel
theorem dX6_look_202 : decode cX6_look 202 = .ok (.iload_n 2, 1) := by decide +kernel
theorem dX6_look_203 : decode cX6_look 203 = .ok (.ifCond .ne 8, 3) := by decide +kernel
theorem dX6_look_206 : decode cX6_look 206 = .ok (.iload 5, 2) := by decide +kernel
theorem dX6_look_208 : decode cX6_look 208 = .ok (.goto 5, 3) := by decide +kernel
theorem dX6_look_211 : decode cX6_look 211 = .ok (.iload 4, 2) := by decide +kernel
theorem dX6_look_213 : decode cX6_look 213 = .ok (.ireturn, 1) := by decide +kernel
theorem dX6_drift_0 : decode cX6_drift 0 = .ok (.iload_n 2, 1) := by decide +kernel
theorem dX6_drift_1 : decode cX6_drift 1 = .ok (.i2l, 1) := by decide +kernel
theorem dX6_drift_2 : decode cX6_drift 2 = .ok (.lconst 1, 1) := by decide +kernel
theorem dX6_drift_3 : decode cX6_drift 3 = .ok (.ldc2_w 261, 3) := by decide +kernel
theorem dX6_drift_6 : decode cX6_drift 6 = .ok (.invokestatic 73, 3) := by decide +kernel
theorem dX6_drift_9 : decode cX6_drift 9 = .ok (.ifCond .eq 13, 3) := by decide +kernel
theorem dX6_drift_12 : decode cX6_drift 12 = .ok (.iload_n 3, 1) := by decide +kernel
theorem dX6_drift_13 : decode cX6_drift 13 = .ok (.i2l, 1) := by decide +kernel
theorem dX6_drift_14 : decode cX6_drift 14 = .ok (.lconst 0, 1) := by decide +kernel
theorem dX6_drift_15 : decode cX6_drift 15 = .ok (.lconst 1, 1) := by decide +kernel
theorem dX6_drift_16 : decode cX6_drift 16 = .ok (.invokestatic 73, 3) := by decide +kernel
theorem dX6_drift_19 : decode cX6_drift 19 = .ok (.ifCond .ne 5, 3) := by decide +kernel
theorem dX6_drift_22 : decode cX6_drift 22 = .ok (.iconst (-1), 1) := by decide +kernel
theorem dX6_drift_23 : decode cX6_drift 23 = .ok (.ireturn, 1) := by decide +kernel
theorem dX6_drift_24 : decode cX6_drift 24 = .ok (.aload_n 0, 1) := by decide +kernel
theorem dX6_drift_25 : decode cX6_drift 25 = .ok (.getfield 7, 3) := by decide +kernel
theorem dX6_drift_28 : decode cX6_drift 28 = .ok (.bipush 20, 2) := by decide +kernel
theorem dX6_drift_30 : decode cX6_drift 30 = .ok (.iaload, 1) := by decide +kernel
theorem dX6_drift_31 : decode cX6_drift 31 = .ok (.ifCond .ne 6, 3) := by decide +kernel
theorem dX6_drift_34 : decode cX6_drift 34 = .ok (.bipush (-2), 2) := by decide +kernel
theorem dX6_drift_36 : decode cX6_drift 36 = .ok (.ireturn, 1) := by decide +kernel
theorem dX6_drift_37 : decode cX6_drift 37 = .ok (.aload_n 0, 1) := by decide +kernel
theorem dX6_drift_38 : decode cX6_drift 38 = .ok (.iconst 0, 1) := by decide +kernel
theorem dX6_drift_39 : decode cX6_drift 39 = .ok (.sipush 288, 3) := by decide +kernel
theorem dX6_drift_42 : decode cX6_drift 42 = .ok (.invokevirtual 226, 3) := by decide +kernel
theorem dX6_drift_45 : decode cX6_drift 45 = .ok (.iload_n 1, 1) := by decide +kernel
theorem dX6_drift_46 : decode cX6_drift 46 = .ok (.istore 4, 2) := by decide +kernel
theorem dX6_drift_48 : decode cX6_drift 48 = .ok (.iconst 0, 1) := by decide +kernel
theorem dX6_drift_49 : decode cX6_drift 49 = .ok (.istore 5, 2) := by decide +kernel
theorem dX6_drift_51 : decode cX6_drift 51 = .ok (.iconst 0, 1) := by decide +kernel
theorem dX6_drift_52 : decode cX6_drift 52 = .ok (.istore 6, 2) := by decide +kernel
theorem dX6_drift_54 : decode cX6_drift 54 = .ok (.iload 6, 2) := by decide +kernel
theorem dX6_drift_56 : decode cX6_drift 56 = .ok (.iload_n 2, 1) := by decide +kernel
theorem dX6_drift_57 : decode cX6_drift 57 = .ok (.if_icmp .ge 99, 3) := by decide +kernel
theorem dX6_drift_60 : decode cX6_drift 60 = .ok (.iload 4, 2) := by decide +kernel
theorem dX6_drift_62 : decode cX6_drift 62 = .ok (.ldc_w 263, 3) := by decide +kernel
theorem dX6_drift_65 : decode cX6_drift 65 = .ok (.imul, 1) := by decide +kernel
theorem dX6_drift_66 : decode cX6_drift 66 = .ok (.sipush 12345, 3) := by decide +kernel
theorem dX6_drift_69 : decode cX6_drift 69 = .ok (.iadd, 1) := by decide +kernel
theorem dX6_drift_70 : decode cX6_drift 70 = .ok (.istore 4, 2) := by decide +kernel
theorem dX6_drift_72 : decode cX6_drift 72 = .ok (.iload 4, 2) := by decide +kernel
theorem dX6_drift_74 : decode cX6_drift 74 = .ok (.bipush 16, 2) := by decide +kernel
theorem dX6_drift_76 : decode cX6_drift 76 = .ok (.ishr, 1) := by decide +kernel
theorem dX6_drift_77 : decode cX6_drift 77 = .ok (.sipush 32767, 3) := by decide +kernel
theorem dX6_drift_80 : decode cX6_drift 80 = .ok (.iand, 1) := by decide +kernel
theorem dX6_drift_81 : decode cX6_drift 81 = .ok (.istore 7, 2) := by decide +kernel
theorem dX6_drift_83 : decode cX6_drift 83 = .ok (.iload 7, 2) := by decide +kernel
theorem dX6_drift_85 : decode cX6_drift 85 = .ok (.aload_n 0, 1) := by decide +kernel
theorem dX6_drift_86 : decode cX6_drift 86 = .ok (.getfield 7, 3) := by decide +kernel
theorem dX6_drift_89 : decode cX6_drift 89 = .ok (.bipush 20, 2) := by decide +kernel
theorem dX6_drift_91 : decode cX6_drift 91 = .ok (.iaload, 1) := by decide +kernel
theorem dX6_drift_92 : decode cX6_drift 92 = .ok (.irem, 1) := by decide +kernel
theorem dX6_drift_93 : decode cX6_drift 93 = .ok (.istore 8, 2) := by decide +kernel
theorem dX6_drift_95 : decode cX6_drift 95 = .ok (.aload_n 0, 1) := by decide +kernel
theorem dX6_drift_96 : decode cX6_drift 96 = .ok (.getfield 7, 3) := by decide +kernel
theorem dX6_drift_99 : decode cX6_drift 99 = .ok (.sipush 292, 3) := by decide +kernel
theorem dX6_drift_102 : decode cX6_drift 102 = .ok (.iload 8, 2) := by decide +kernel
theorem dX6_drift_104 : decode cX6_drift 104 = .ok (.iadd, 1) := by decide +kernel
theorem dX6_drift_105 : decode cX6_drift 105 = .ok (.iload 7, 2) := by decide +kernel
theorem dX6_drift_107 : decode cX6_drift 107 = .ok (.bipush 8, 2) := by decide +kernel
theorem dX6_drift_109 : decode cX6_drift 109 = .ok (.idiv, 1) := by decide +kernel
theorem dX6_drift_110 : decode cX6_drift 110 = .ok (.bipush 10, 2) := by decide +kernel
theorem dX6_drift_112 : decode cX6_drift 112 = .ok (.irem, 1) := by decide +kernel
theorem dX6_drift_113 : decode cX6_drift 113 = .ok (.iastore, 1) := by decide +kernel
theorem dX6_drift_114 : decode cX6_drift 114 = .ok (.aload_n 0, 1) := by decide +kernel
theorem dX6_drift_115 : decode cX6_drift 115 = .ok (.getfield 7, 3) := by decide +kernel
theorem dX6_drift_118 : decode cX6_drift 118 = .ok (.sipush 296, 3) := by decide +kernel
theorem dX6_drift_121 : decode cX6_drift 121 = .ok (.iload 8, 2) := by decide +kernel
theorem dX6_drift_123 : decode cX6_drift 123 = .ok (.iadd, 1) := by decide +kernel
theorem dX6_drift_124 : decode cX6_drift 124 = .ok (.iconst 1, 1) := by decide +kernel
theorem dX6_drift_125 : decode cX6_drift 125 = .ok (.iload 7, 2) := by decide +kernel
theorem dX6_drift_127 : decode cX6_drift 127 = .ok (.sipush 128, 3) := by decide +kernel
theorem dX6_drift_130 : decode cX6_drift 130 = .ok (.idiv, 1) := by decide +kernel
theorem dX6_drift_131 : decode cX6_drift 131 = .ok (.bipush 9, 2) := by decide +kernel
theorem dX6_drift_133 : decode cX6_drift 133 = .ok (.irem, 1) := by decide +kernel
theorem dX6_drift_134 : decode cX6_drift 134 = .ok (.iadd, 1) := by decide +kernel
theorem dX6_drift_135 : decode cX6_drift 135 = .ok (.iastore, 1) := by decide +kernel
theorem dX6_drift_136 : decode cX6_drift 136 = .ok (.iload 5, 2) := by decide +kernel
theorem dX6_drift_138 : decode cX6_drift 138 = .ok (.aload_n 0, 1) := by decide +kernel
theorem dX6_drift_139 : decode cX6_drift 139 = .ok (.sipush 288, 3) := by decide +kernel
theorem dX6_drift_142 : decode cX6_drift 142 = .ok (.bipush (-4), 2) := by decide +kernel
theorem dX6_drift_144 : decode cX6_drift 144 = .ok (.invokevirtual 220, 3) := by decide +kernel
theorem dX6_drift_147 : decode cX6_drift 147 = .ok (.iadd, 1) := by decide +kernel
theorem dX6_drift_148 : decode cX6_drift 148 = .ok (.istore 5, 2) := by decide +kernel
theorem dX6_drift_150 : decode cX6_drift 150 = .ok (.iinc 6 1, 3) := by decide +kernel
theorem dX6_drift_153 : decode cX6_drift 153 = .ok (.goto (-99), 3) := by decide +kernel
theorem dX6_drift_156 : decode cX6_drift 156 = .ok (.iload_n 3, 1) := by decide +kernel
theorem dX6_drift_157 : decode cX6_drift 157 = .ok (.ifCond .ne 8, 3) := by decide +kernel
theorem dX6_drift_160 : decode cX6_drift 160 = .ok (.iload 5, 2) := by decide +kernel
theorem dX6_drift_162 : decode cX6_drift 162 = .ok (.goto 10, 3) := by decide +kernel
theorem dX6_drift_165 : decode cX6_drift 165 = .ok (.aload_n 0, 1) := by decide +kernel
theorem dX6_drift_166 : decode cX6_drift 166 = .ok (.iconst 1, 1) := by decide +kernel
theorem dX6_drift_167 : decode cX6_drift 167 = .ok (.bipush (-4), 2) := by decide +kernel
theorem dX6_drift_169 : decode cX6_drift 169 = .ok (.invokevirtual 223, 3) := by decide +kernel
theorem dX6_drift_172 : decode cX6_drift 172 = .ok (.ireturn, 1) := by decide +kernel
theorem dX6_keep_0 : decode cX6_keep 0 = .ok (.iload_n 1, 1) := by decide +kernel
theorem dX6_keep_1 : decode cX6_keep 1 = .ok (.i2l, 1) := by decide +kernel
theorem dX6_keep_2 : decode cX6_keep 2 = .ok (.lconst 0, 1) := by decide +kernel
theorem dX6_keep_3 : decode cX6_keep 3 = .ok (.lconst 1, 1) := by decide +kernel
theorem dX6_keep_4 : decode cX6_keep 4 = .ok (.invokestatic 73, 3) := by decide +kernel
theorem dX6_keep_7 : decode cX6_keep 7 = .ok (.ifCond .ne 5, 3) := by decide +kernel
theorem dX6_keep_10 : decode cX6_keep 10 = .ok (.iconst (-1), 1) := by decide +kernel
theorem dX6_keep_11 : decode cX6_keep 11 = .ok (.ireturn, 1) := by decide +kernel
theorem dX6_keep_12 : decode cX6_keep 12 = .ok (.aload_n 0, 1) := by decide +kernel
theorem dX6_keep_13 : decode cX6_keep 13 = .ok (.iconst 0, 1) := by decide +kernel
theorem dX6_keep_14 : decode cX6_keep 14 = .ok (.bipush 72, 2) := by decide +kernel
theorem dX6_keep_16 : decode cX6_keep 16 = .ok (.iload_n 1, 1) := by decide +kernel
theorem dX6_keep_17 : decode cX6_keep 17 = .ok (.iconst 1, 1) := by decide +kernel
theorem dX6_keep_18 : decode cX6_keep 18 = .ok (.iadd, 1) := by decide +kernel
theorem dX6_keep_19 : decode cX6_keep 19 = .ok (.imul, 1) := by decide +kernel
theorem dX6_keep_20 : decode cX6_keep 20 = .ok (.invokevirtual 226, 3) := by decide +kernel
theorem dX6_keep_23 : decode cX6_keep 23 = .ok (.aload_n 0, 1) := by decide +kernel
theorem dX6_keep_24 : decode cX6_keep 24 = .ok (.getfield 58, 3) := by decide +kernel
theorem dX6_keep_27 : decode cX6_keep 27 = .ok (.iload_n 1, 1) := by decide +kernel
theorem dX6_keep_28 : decode cX6_keep 28 = .ok (.baload, 1) := by decide +kernel
theorem dX6_keep_29 : decode cX6_keep 29 = .ok (.ifCond .eq 7, 3) := by decide +kernel
theorem dX6_keep_32 : decode cX6_keep 32 = .ok (.iconst 1, 1) := by decide +kernel
theorem dX6_keep_33 : decode cX6_keep 33 = .ok (.goto 4, 3) := by decide +kernel
theorem dX6_keep_36 : decode cX6_keep 36 = .ok (.iconst 0, 1) := by decide +kernel
theorem dX6_keep_37 : decode cX6_keep 37 = .ok (.istore_n 2, 1) := by decide +kernel
theorem dX6_keep_38 : decode cX6_keep 38 = .ok (.aload_n 0, 1) := by decide +kernel
theorem dX6_keep_39 : decode cX6_keep 39 = .ok (.getfield 58, 3) := by decide +kernel
theorem dX6_keep_42 : decode cX6_keep 42 = .ok (.iload_n 1, 1) := by decide +kernel
theorem dX6_keep_43 : decode cX6_keep 43 = .ok (.iconst 1, 1) := by decide +kernel
theorem dX6_keep_44 : decode cX6_keep 44 = .ok (.bastore, 1) := by decide +kernel
theorem dX6_keep_45 : decode cX6_keep 45 = .ok (.iload_n 2, 1) := by decide +kernel
theorem dX6_keep_46 : decode cX6_keep 46 = .ok (.ireturn, 1) := by decide +kernel
theorem dX6_back_0 : decode cX6_back 0 = .ok (.iload_n 1, 1) := by decide +kernel
theorem dX6_back_1 : decode cX6_back 1 = .ok (.i2l, 1) := by decide +kernel
theorem dX6_back_2 : decode cX6_back 2 = .ok (.lconst 0, 1) := by decide +kernel
theorem dX6_back_3 : decode cX6_back 3 = .ok (.lconst 1, 1) := by decide +kernel
theorem dX6_back_4 : decode cX6_back 4 = .ok (.invokestatic 73, 3) := by decide +kernel
theorem dX6_back_7 : decode cX6_back 7 = .ok (.ifCond .ne 5, 3) := by decide +kernel
theorem dX6_back_10 : decode cX6_back 10 = .ok (.iconst (-1), 1) := by decide +kernel
theorem dX6_back_11 : decode cX6_back 11 = .ok (.ireturn, 1) := by decide +kernel
theorem dX6_back_12 : decode cX6_back 12 = .ok (.aload_n 0, 1) := by decide +kernel
theorem dX6_back_13 : decode cX6_back 13 = .ok (.getfield 58, 3) := by decide +kernel
theorem dX6_back_16 : decode cX6_back 16 = .ok (.iload_n 1, 1) := by decide +kernel
theorem dX6_back_17 : decode cX6_back 17 = .ok (.baload, 1) := by decide +kernel
theorem dX6_back_18 : decode cX6_back 18 = .ok (.ifCond .ne 6, 3) := by decide +kernel
theorem dX6_back_21 : decode cX6_back 21 = .ok (.bipush (-2), 2) := by decide +kernel
theorem dX6_back_23 : decode cX6_back 23 = .ok (.ireturn, 1) := by decide +kernel
theorem dX6_back_24 : decode cX6_back 24 = .ok (.aload_n 0, 1) := by decide +kernel
theorem dX6_back_25 : decode cX6_back 25 = .ok (.bipush 72, 2) := by decide +kernel
theorem dX6_back_27 : decode cX6_back 27 = .ok (.iload_n 1, 1) := by decide +kernel
theorem dX6_back_28 : decode cX6_back 28 = .ok (.iconst 1, 1) := by decide +kernel
theorem dX6_back_29 : decode cX6_back 29 = .ok (.iadd, 1) := by decide +kernel
theorem dX6_back_30 : decode cX6_back 30 = .ok (.imul, 1) := by decide +kernel
theorem dX6_back_31 : decode cX6_back 31 = .ok (.iconst 0, 1) := by decide +kernel
theorem dX6_back_32 : decode cX6_back 32 = .ok (.invokevirtual 226, 3) := by decide +kernel
theorem dX6_back_35 : decode cX6_back 35 = .ok (.aload_n 0, 1) := by decide +kernel
theorem dX6_back_36 : decode cX6_back 36 = .ok (.invokevirtual 164, 3) := by decide +kernel
theorem dX6_back_39 : decode cX6_back 39 = .ok (.ireturn, 1) := by decide +kernel
theorem dX6_sheet_0 : decode cX6_sheet 0 = .ok (.iload_n 1, 1) := by decide +kernel
theorem dX6_sheet_1 : decode cX6_sheet 1 = .ok (.i2l, 1) := by decide +kernel
theorem dX6_sheet_2 : decode cX6_sheet 2 = .ok (.lconst 0, 1) := by decide +kernel
theorem dX6_sheet_3 : decode cX6_sheet 3 = .ok (.ldc2_w 182, 3) := by decide +kernel
theorem dX6_sheet_6 : decode cX6_sheet 6 = .ok (.invokestatic 73, 3) := by decide +kernel
theorem dX6_sheet_9 : decode cX6_sheet 9 = .ok (.ifCond .eq 21, 3) := by decide +kernel
theorem dX6_sheet_12 : decode cX6_sheet 12 = .ok (.iload_n 2, 1) := by decide +kernel
theorem dX6_sheet_13 : decode cX6_sheet 13 = .ok (.i2l, 1) := by decide +kernel
theorem dX6_sheet_14 : decode cX6_sheet 14 = .ok (.lconst 0, 1) := by decide +kernel
theorem dX6_sheet_15 : decode cX6_sheet 15 = .ok (.ldc2_w 218, 3) := by decide +kernel
theorem dX6_sheet_18 : decode cX6_sheet 18 = .ok (.invokestatic 73, 3) := by decide +kernel
theorem dX6_sheet_21 : decode cX6_sheet 21 = .ok (.ifCond .eq 9, 3) := by decide +kernel
theorem dX6_sheet_24 : decode cX6_sheet 24 = .ok (.iload_n 3, 1) := by decide +kernel
theorem dX6_sheet_25 : decode cX6_sheet 25 = .ok (.bipush 40, 2) := by decide +kernel
theorem dX6_sheet_27 : decode cX6_sheet 27 = .ok (.if_icmp .le 5, 3) := by decide +kernel
theorem dX6_sheet_30 : decode cX6_sheet 30 = .ok (.iconst (-1), 1) := by decide +kernel
theorem dX6_sheet_31 : decode cX6_sheet 31 = .ok (.ireturn, 1) := by decide +kernel
theorem dX6_sheet_32 : decode cX6_sheet 32 = .ok (.iload_n 3, 1) := by decide +kernel
theorem dX6_sheet_33 : decode cX6_sheet 33 = .ok (.ifCond .ge 6, 3) := by decide +kernel
theorem dX6_sheet_36 : decode cX6_sheet 36 = .ok (.bipush (-14), 2) := by decide +kernel
theorem dX6_sheet_38 : decode cX6_sheet 38 = .ok (.ireturn, 1) := by decide +kernel
theorem dX6_sheet_39 : decode cX6_sheet 39 = .ok (.aload_n 0, 1) := by decide +kernel
theorem dX6_sheet_40 : decode cX6_sheet 40 = .ok (.getfield 62, 3) := by decide +kernel
theorem dX6_sheet_43 : decode cX6_sheet 43 = .ok (.iload_n 1, 1) := by decide +kernel
theorem dX6_sheet_44 : decode cX6_sheet 44 = .ok (.iload_n 2, 1) := by decide +kernel
theorem dX6_sheet_45 : decode cX6_sheet 45 = .ok (.iastore, 1) := by decide +kernel
theorem dX6_sheet_46 : decode cX6_sheet 46 = .ok (.aload_n 0, 1) := by decide +kernel
theorem dX6_sheet_47 : decode cX6_sheet 47 = .ok (.getfield 65, 3) := by decide +kernel
theorem dX6_sheet_50 : decode cX6_sheet 50 = .ok (.iload_n 1, 1) := by decide +kernel
theorem dX6_sheet_51 : decode cX6_sheet 51 = .ok (.iload_n 3, 1) := by decide +kernel
theorem dX6_sheet_52 : decode cX6_sheet 52 = .ok (.iastore, 1) := by decide +kernel
theorem dX6_sheet_53 : decode cX6_sheet 53 = .ok (.iconst 0, 1) := by decide +kernel
theorem dX6_sheet_54 : decode cX6_sheet 54 = .ok (.istore 4, 2) := by decide +kernel
theorem dX6_sheet_56 : decode cX6_sheet 56 = .ok (.iload 4, 2) := by decide +kernel
theorem dX6_sheet_58 : decode cX6_sheet 58 = .ok (.bipush 40, 2) := by decide +kernel
theorem dX6_sheet_60 : decode cX6_sheet 60 = .ok (.if_icmp .ge 22, 3) := by decide +kernel
theorem dX6_sheet_63 : decode cX6_sheet 63 = .ok (.aload_n 0, 1) := by decide +kernel
theorem dX6_sheet_64 : decode cX6_sheet 64 = .ok (.getfield 68, 3) := by decide +kernel
theorem dX6_sheet_67 : decode cX6_sheet 67 = .ok (.bipush 40, 2) := by decide +kernel
theorem dX6_sheet_69 : decode cX6_sheet 69 = .ok (.iload_n 1, 1) := by decide +kernel
theorem dX6_sheet_70 : decode cX6_sheet 70 = .ok (.imul, 1) := by decide +kernel
theorem dX6_sheet_71 : decode cX6_sheet 71 = .ok (.iload 4, 2) := by decide +kernel
theorem dX6_sheet_73 : decode cX6_sheet 73 = .ok (.iadd, 1) := by decide +kernel
theorem dX6_sheet_74 : decode cX6_sheet 74 = .ok (.iconst 0, 1) := by decide +kernel
theorem dX6_sheet_75 : decode cX6_sheet 75 = .ok (.iastore, 1) := by decide +kernel
theorem dX6_sheet_76 : decode cX6_sheet 76 = .ok (.iinc 4 1, 3) := by decide +kernel
theorem dX6_sheet_79 : decode cX6_sheet 79 = .ok (.goto (-23), 3) := by decide +kernel
theorem dX6_sheet_82 : decode cX6_sheet 82 = .ok (.iconst 1, 1) := by decide +kernel
theorem dX6_sheet_83 : decode cX6_sheet 83 = .ok (.ireturn, 1) := by decide +kernel
theorem dX6_lay_0 : decode cX6_lay 0 = .ok (.iload_n 1, 1) := by decide +kernel
theorem dX6_lay_1 : decode cX6_lay 1 = .ok (.i2l, 1) := by decide +kernel
theorem dX6_lay_2 : decode cX6_lay 2 = .ok (.lconst 0, 1) := by decide +kernel
theorem dX6_lay_3 : decode cX6_lay 3 = .ok (.ldc2_w 182, 3) := by decide +kernel
theorem dX6_lay_6 : decode cX6_lay 6 = .ok (.invokestatic 73, 3) := by decide +kernel
theorem dX6_lay_9 : decode cX6_lay 9 = .ok (.ifCond .ne 5, 3) := by decide +kernel
theorem dX6_lay_12 : decode cX6_lay 12 = .ok (.iconst (-1), 1) := by decide +kernel
theorem dX6_lay_13 : decode cX6_lay 13 = .ok (.ireturn, 1) := by decide +kernel
theorem dX6_lay_14 : decode cX6_lay 14 = .ok (.aload_n 0, 1) := by decide +kernel
theorem dX6_lay_15 : decode cX6_lay 15 = .ok (.getfield 62, 3) := by decide +kernel
theorem dX6_lay_18 : decode cX6_lay 18 = .ok (.iload_n 1, 1) := by decide +kernel
theorem dX6_lay_19 : decode cX6_lay 19 = .ok (.iaload, 1) := by decide +kernel
theorem dX6_lay_20 : decode cX6_lay 20 = .ok (.bipush (-4), 2) := by decide +kernel
theorem dX6_lay_22 : decode cX6_lay 22 = .ok (.if_icmp .ne 6, 3) := by decide +kernel
theorem dX6_lay_25 : decode cX6_lay 25 = .ok (.bipush (-11), 2) := by decide +kernel
theorem dX6_lay_27 : decode cX6_lay 27 = .ok (.ireturn, 1) := by decide +kernel
theorem dX6_lay_28 : decode cX6_lay 28 = .ok (.iload_n 2, 1) := by decide +kernel
theorem dX6_lay_29 : decode cX6_lay 29 = .ok (.i2l, 1) := by decide +kernel
theorem dX6_lay_30 : decode cX6_lay 30 = .ok (.lconst 0, 1) := by decide +kernel
theorem dX6_lay_31 : decode cX6_lay 31 = .ok (.aload_n 0, 1) := by decide +kernel
theorem dX6_lay_32 : decode cX6_lay 32 = .ok (.getfield 65, 3) := by decide +kernel
theorem dX6_lay_35 : decode cX6_lay 35 = .ok (.iload_n 1, 1) := by decide +kernel
theorem dX6_lay_36 : decode cX6_lay 36 = .ok (.iaload, 1) := by decide +kernel
theorem dX6_lay_37 : decode cX6_lay 37 = .ok (.iconst 1, 1) := by decide +kernel
theorem dX6_lay_38 : decode cX6_lay 38 = .ok (.isub, 1) := by decide +kernel
theorem dX6_lay_39 : decode cX6_lay 39 = .ok (.i2l, 1) := by decide +kernel
theorem dX6_lay_40 : decode cX6_lay 40 = .ok (.invokestatic 73, 3) := by decide +kernel
theorem dX6_lay_43 : decode cX6_lay 43 = .ok (.ifCond .ne 6, 3) := by decide +kernel
theorem dX6_lay_46 : decode cX6_lay 46 = .ok (.bipush (-12), 2) := by decide +kernel
theorem dX6_lay_48 : decode cX6_lay 48 = .ok (.ireturn, 1) := by decide +kernel
theorem dX6_lay_49 : decode cX6_lay 49 = .ok (.aload_n 0, 1) := by decide +kernel
theorem dX6_lay_50 : decode cX6_lay 50 = .ok (.getfield 68, 3) := by decide +kernel
theorem dX6_lay_53 : decode cX6_lay 53 = .ok (.bipush 40, 2) := by decide +kernel
theorem dX6_lay_55 : decode cX6_lay 55 = .ok (.iload_n 1, 1) := by decide +kernel
theorem dX6_lay_56 : decode cX6_lay 56 = .ok (.imul, 1) := by decide +kernel
theorem dX6_lay_57 : decode cX6_lay 57 = .ok (.iload_n 2, 1) := by decide +kernel
theorem dX6_lay_58 : decode cX6_lay 58 = .ok (.iadd, 1) := by decide +kernel
theorem dX6_lay_59 : decode cX6_lay 59 = .ok (.aload_n 0, 1) := by decide +kernel
theorem dX6_lay_60 : decode cX6_lay 60 = .ok (.getfield 62, 3) := by decide +kernel
theorem dX6_lay_63 : decode cX6_lay 63 = .ok (.iload_n 1, 1) := by decide +kernel
theorem dX6_lay_64 : decode cX6_lay 64 = .ok (.iaload, 1) := by decide +kernel
theorem dX6_lay_65 : decode cX6_lay 65 = .ok (.ifCond .ne 13, 3) := by decide +kernel
theorem dX6_lay_68 : decode cX6_lay 68 = .ok (.iload_n 3, 1) := by decide +kernel
theorem dX6_lay_69 : decode cX6_lay 69 = .ok (.bipush 24, 2) := by decide +kernel
theorem dX6_lay_71 : decode cX6_lay 71 = .ok (.ishl, 1) := by decide +kernel
theorem dX6_lay_72 : decode cX6_lay 72 = .ok (.bipush 24, 2) := by decide +kernel
theorem dX6_lay_74 : decode cX6_lay 74 = .ok (.ishr, 1) := by decide +kernel
theorem dX6_lay_75 : decode cX6_lay 75 = .ok (.goto 24, 3) := by decide +kernel
theorem dX6_lay_78 : decode cX6_lay 78 = .ok (.aload_n 0, 1) := by decide +kernel
theorem dX6_lay_79 : decode cX6_lay 79 = .ok (.getfield 62, 3) := by decide +kernel
theorem dX6_lay_82 : decode cX6_lay 82 = .ok (.iload_n 1, 1) := by decide +kernel
theorem dX6_lay_83 : decode cX6_lay 83 = .ok (.iaload, 1) := by decide +kernel
theorem dX6_lay_84 : decode cX6_lay 84 = .ok (.iconst 1, 1) := by decide +kernel
theorem dX6_lay_85 : decode cX6_lay 85 = .ok (.if_icmp .ne 13, 3) := by decide +kernel
theorem dX6_lay_88 : decode cX6_lay 88 = .ok (.iload_n 3, 1) := by decide +kernel
theorem dX6_lay_89 : decode cX6_lay 89 = .ok (.bipush 16, 2) := by decide +kernel
theorem dX6_lay_91 : decode cX6_lay 91 = .ok (.ishl, 1) := by decide +kernel
theorem dX6_lay_92 : decode cX6_lay 92 = .ok (.bipush 16, 2) := by decide +kernel
theorem dX6_lay_94 : decode cX6_lay 94 = .ok (.ishr, 1) := by decide +kernel
theorem dX6_lay_95 : decode cX6_lay 95 = .ok (.goto 4, 3) := by decide +kernel
theorem dX6_lay_98 : decode cX6_lay 98 = .ok (.iload_n 3, 1) := by decide +kernel
theorem dX6_lay_99 : decode cX6_lay 99 = .ok (.iastore, 1) := by decide +kernel
theorem dX6_lay_100 : decode cX6_lay 100 = .ok (.iconst 1, 1) := by decide +kernel
theorem dX6_lay_101 : decode cX6_lay 101 = .ok (.ireturn, 1) := by decide +kernel
theorem dX6_read_0 : decode cX6_read 0 = .ok (.iload_n 1, 1) := by decide +kernel
theorem dX6_read_1 : decode cX6_read 1 = .ok (.i2l, 1) := by decide +kernel
theorem dX6_read_2 : decode cX6_read 2 = .ok (.lconst 0, 1) := by decide +kernel
theorem dX6_read_3 : decode cX6_read 3 = .ok (.ldc2_w 182, 3) := by decide +kernel
theorem dX6_read_6 : decode cX6_read 6 = .ok (.invokestatic 73, 3) := by decide +kernel
theorem dX6_read_9 : decode cX6_read 9 = .ok (.ifCond .eq 28, 3) := by decide +kernel
theorem dX6_read_12 : decode cX6_read 12 = .ok (.iload_n 2, 1) := by decide +kernel
theorem dX6_read_13 : decode cX6_read 13 = .ok (.i2l, 1) := by decide +kernel
theorem dX6_read_14 : decode cX6_read 14 = .ok (.lconst 0, 1) := by decide +kernel
theorem dX6_read_15 : decode cX6_read 15 = .ok (.ldc2_w 218, 3) := by decide +kernel
theorem dX6_read_18 : decode cX6_read 18 = .ok (.invokestatic 73, 3) := by decide +kernel
theorem dX6_read_21 : decode cX6_read 21 = .ok (.ifCond .eq 16, 3) := by decide +kernel
theorem dX6_read_24 : decode cX6_read 24 = .ok (.iload 4, 2) := by decide +kernel
theorem dX6_read_26 : decode cX6_read 26 = .ok (.i2l, 1) := by decide +kernel
theorem dX6_read_27 : decode cX6_read 27 = .ok (.lconst 0, 1) := by decide +kernel
theorem dX6_read_28 : decode cX6_read 28 = .ok (.ldc2_w 264, 3) := by decide +kernel
theorem dX6_read_31 : decode cX6_read 31 = .ok (.invokestatic 73, 3) := by decide +kernel
theorem dX6_read_34 : decode cX6_read 34 = .ok (.ifCond .ne 5, 3) := by decide +kernel
theorem dX6_read_37 : decode cX6_read 37 = .ok (.iconst (-1), 1) := by decide +kernel
theorem dX6_read_38 : decode cX6_read 38 = .ok (.ireturn, 1) := by decide +kernel
theorem dX6_read_39 : decode cX6_read 39 = .ok (.aload_n 0, 1) := by decide +kernel
theorem dX6_read_40 : decode cX6_read 40 = .ok (.iconst 0, 1) := by decide +kernel
theorem dX6_read_41 : decode cX6_read 41 = .ok (.sipush 216, 3) := by decide +kernel
theorem dX6_read_44 : decode cX6_read 44 = .ok (.invokevirtual 226, 3) := by decide +kernel
theorem dX6_read_47 : decode cX6_read 47 = .ok (.iconst 0, 1) := by decide +kernel
theorem dX6_read_48 : decode cX6_read 48 = .ok (.istore 5, 2) := by decide +kernel
theorem dX6_read_50 : decode cX6_read 50 = .ok (.iconst 0, 1) := by decide +kernel
theorem dX6_read_51 : decode cX6_read 51 = .ok (.istore 6, 2) := by decide +kernel
theorem dX6_read_53 : decode cX6_read 53 = .ok (.iconst 0, 1) := by decide +kernel
theorem dX6_read_54 : decode cX6_read 54 = .ok (.istore 7, 2) := by decide +kernel
theorem dX6_read_56 : decode cX6_read 56 = .ok (.iload 7, 2) := by decide +kernel
theorem dX6_read_58 : decode cX6_read 58 = .ok (.iconst 3, 1) := by decide +kernel
theorem dX6_read_59 : decode cX6_read 59 = .ok (.iload 4, 2) := by decide +kernel
theorem dX6_read_61 : decode cX6_read 61 = .ok (.imul, 1) := by decide +kernel
theorem dX6_read_62 : decode cX6_read 62 = .ok (.if_icmp .ge 145, 3) := by decide +kernel
theorem dX6_read_65 : decode cX6_read 65 = .ok (.iload 5, 2) := by decide +kernel
theorem dX6_read_67 : decode cX6_read 67 = .ok (.ifCond .ne 140, 3) := by decide +kernel
theorem dX6_read_70 : decode cX6_read 70 = .ok (.aload_n 0, 1) := by decide +kernel
theorem dX6_read_71 : decode cX6_read 71 = .ok (.getfield 62, 3) := by decide +kernel
theorem dX6_read_74 : decode cX6_read 74 = .ok (.iload_n 1, 1) := by decide +kernel
theorem dX6_read_75 : decode cX6_read 75 = .ok (.iaload, 1) := by decide +kernel
theorem dX6_read_76 : decode cX6_read 76 = .ok (.bipush (-4), 2) := by decide +kernel
theorem dX6_read_78 : decode cX6_read 78 = .ok (.if_icmp .ne 7, 3) := by decide +kernel
theorem dX6_read_81 : decode cX6_read 81 = .ok (.iconst 1, 1) := by decide +kernel
theorem dX6_read_82 : decode cX6_read 82 = .ok (.goto 44, 3) := by decide +kernel
theorem dX6_read_85 : decode cX6_read 85 = .ok (.aload_n 0, 1) := by decide +kernel
theorem dX6_read_86 : decode cX6_read 86 = .ok (.getfield 62, 3) := by decide +kernel
theorem dX6_read_89 : decode cX6_read 89 = .ok (.iload_n 1, 1) := by decide +kernel
theorem dX6_read_90 : decode cX6_read 90 = .ok (.iaload, 1) := by decide +kernel
theorem dX6_read_91 : decode cX6_read 91 = .ok (.iload_n 2, 1) := by decide +kernel
theorem dX6_read_92 : decode cX6_read 92 = .ok (.if_icmp .eq 7, 3) := by decide +kernel
theorem dX6_read_95 : decode cX6_read 95 = .ok (.iconst 3, 1) := by decide +kernel
theorem dX6_read_96 : decode cX6_read 96 = .ok (.goto 30, 3) := by decide +kernel
theorem dX6_read_99 : decode cX6_read 99 = .ok (.iload_n 3, 1) := by decide +kernel
theorem dX6_read_100 : decode cX6_read 100 = .ok (.i2l, 1) := by decide +kernel
theorem dX6_read_101 : decode cX6_read 101 = .ok (.iload 7, 2) := by decide +kernel
theorem dX6_read_103 : decode cX6_read 103 = .ok (.i2l, 1) := by decide +kernel
theorem dX6_read_104 : decode cX6_read 104 = .ok (.ladd, 1) := by decide +kernel
theorem dX6_read_105 : decode cX6_read 105 = .ok (.lconst 0, 1) := by decide +kernel
theorem dX6_read_106 : decode cX6_read 106 = .ok (.aload_n 0, 1) := by decide +kernel
theorem dX6_read_107 : decode cX6_read 107 = .ok (.getfield 65, 3) := by decide +kernel
theorem dX6_read_110 : decode cX6_read 110 = .ok (.iload_n 1, 1) := by decide +kernel
theorem dX6_read_111 : decode cX6_read 111 = .ok (.iaload, 1) := by decide +kernel
theorem dX6_read_112 : decode cX6_read 112 = .ok (.iconst 1, 1) := by decide +kernel
theorem dX6_read_113 : decode cX6_read 113 = .ok (.isub, 1) := by decide +kernel
theorem dX6_read_114 : decode cX6_read 114 = .ok (.i2l, 1) := by decide +kernel
theorem dX6_read_115 : decode cX6_read 115 = .ok (.invokestatic 73, 3) := by decide +kernel
theorem dX6_read_118 : decode cX6_read 118 = .ok (.ifCond .ne 7, 3) := by decide +kernel
theorem dX6_read_121 : decode cX6_read 121 = .ok (.iconst 2, 1) := by decide +kernel
theorem dX6_read_122 : decode cX6_read 122 = .ok (.goto 4, 3) := by decide +kernel
theorem dX6_read_125 : decode cX6_read 125 = .ok (.iconst 0, 1) := by decide +kernel
theorem dX6_read_126 : decode cX6_read 126 = .ok (.istore 5, 2) := by decide +kernel
theorem dX6_read_128 : decode cX6_read 128 = .ok (.iload 5, 2) := by decide +kernel
theorem dX6_read_130 : decode cX6_read 130 = .ok (.ifCond .ne 71, 3) := by decide +kernel
theorem dX6_read_133 : decode cX6_read 133 = .ok (.iload 7, 2) := by decide +kernel
theorem dX6_read_135 : decode cX6_read 135 = .ok (.iconst 3, 1) := by decide +kernel
theorem dX6_read_136 : decode cX6_read 136 = .ok (.irem, 1) := by decide +kernel
theorem dX6_read_137 : decode cX6_read 137 = .ok (.iconst 2, 1) := by decide +kernel
theorem dX6_read_138 : decode cX6_read 138 = .ok (.if_icmp .ne 63, 3) := by decide +kernel
theorem dX6_read_141 : decode cX6_read 141 = .ok (.bipush 40, 2) := by decide +kernel
theorem dX6_read_143 : decode cX6_read 143 = .ok (.iload_n 1, 1) := by decide +kernel
theorem dX6_read_144 : decode cX6_read 144 = .ok (.imul, 1) := by decide +kernel
theorem dX6_read_145 : decode cX6_read 145 = .ok (.iload_n 3, 1) := by decide +kernel
theorem dX6_read_146 : decode cX6_read 146 = .ok (.iadd, 1) := by decide +kernel
theorem dX6_read_147 : decode cX6_read 147 = .ok (.iload 7, 2) := by decide +kernel
theorem dX6_read_149 : decode cX6_read 149 = .ok (.iadd, 1) := by decide +kernel
theorem dX6_read_150 : decode cX6_read 150 = .ok (.istore 8, 2) := by decide +kernel
theorem dX6_read_152 : decode cX6_read 152 = .ok (.aload_n 0, 1) := by decide +kernel
theorem dX6_read_153 : decode cX6_read 153 = .ok (.aload_n 0, 1) := by decide +kernel
theorem dX6_read_154 : decode cX6_read 154 = .ok (.getfield 68, 3) := by decide +kernel
theorem dX6_read_157 : decode cX6_read 157 = .ok (.iload 8, 2) := by decide +kernel
theorem dX6_read_159 : decode cX6_read 159 = .ok (.iconst 2, 1) := by decide +kernel
theorem dX6_read_160 : decode cX6_read 160 = .ok (.isub, 1) := by decide +kernel
theorem dX6_read_161 : decode cX6_read 161 = .ok (.iaload, 1) := by decide +kernel
theorem dX6_read_162 : decode cX6_read 162 = .ok (.aload_n 0, 1) := by decide +kernel
theorem dX6_read_163 : decode cX6_read 163 = .ok (.getfield 68, 3) := by decide +kernel
theorem dX6_read_166 : decode cX6_read 166 = .ok (.iload 8, 2) := by decide +kernel
theorem dX6_read_168 : decode cX6_read 168 = .ok (.iconst 1, 1) := by decide +kernel
theorem dX6_read_169 : decode cX6_read 169 = .ok (.isub, 1) := by decide +kernel
theorem dX6_read_170 : decode cX6_read 170 = .ok (.iaload, 1) := by decide +kernel
theorem dX6_read_171 : decode cX6_read 171 = .ok (.aload_n 0, 1) := by decide +kernel
theorem dX6_read_172 : decode cX6_read 172 = .ok (.getfield 68, 3) := by decide +kernel
theorem dX6_read_175 : decode cX6_read 175 = .ok (.iload 8, 2) := by decide +kernel
theorem dX6_read_177 : decode cX6_read 177 = .ok (.iaload, 1) := by decide +kernel
theorem dX6_read_178 : decode cX6_read 178 = .ok (.invokevirtual 195, 3) := by decide +kernel
theorem dX6_read_181 : decode cX6_read 181 = .ok (.ifCond .ge 17, 3) := by decide +kernel
theorem dX6_read_184 : decode cX6_read 184 = .ok (.aload_n 0, 1) := by decide +kernel
theorem dX6_read_185 : decode cX6_read 185 = .ok (.sipush 216, 3) := by decide +kernel
theorem dX6_read_188 : decode cX6_read 188 = .ok (.iconst 0, 1) := by decide +kernel
theorem dX6_read_189 : decode cX6_read 189 = .ok (.invokevirtual 226, 3) := by decide +kernel
theorem dX6_read_192 : decode cX6_read 192 = .ok (.bipush (-20), 2) := by decide +kernel
theorem dX6_read_194 : decode cX6_read 194 = .ok (.iload 6, 2) := by decide +kernel
theorem dX6_read_196 : decode cX6_read 196 = .ok (.isub, 1) := by decide +kernel
theorem dX6_read_197 : decode cX6_read 197 = .ok (.ireturn, 1) := by decide +kernel
theorem dX6_read_198 : decode cX6_read 198 = .ok (.iinc 6 1, 3) := by decide +kernel
theorem dX6_read_201 : decode cX6_read 201 = .ok (.iinc 7 1, 3) := by decide +kernel
theorem dX6_read_204 : decode cX6_read 204 = .ok (.goto (-148), 3) := by decide +kernel
theorem dX6_read_207 : decode cX6_read 207 = .ok (.aload_n 0, 1) := by decide +kernel
theorem dX6_read_208 : decode cX6_read 208 = .ok (.iload 5, 2) := by decide +kernel
theorem dX6_read_210 : decode cX6_read 210 = .ok (.putfield 266, 3) := by decide +kernel
theorem dX6_read_213 : decode cX6_read 213 = .ok (.iload 6, 2) := by decide +kernel
theorem dX6_read_215 : decode cX6_read 215 = .ok (.ireturn, 1) := by decide +kernel
theorem dX6_torn_0 : decode cX6_torn 0 = .ok (.aload_n 0, 1) := by decide +kernel
theorem dX6_torn_1 : decode cX6_torn 1 = .ok (.getfield 266, 3) := by decide +kernel
theorem dX6_torn_4 : decode cX6_torn 4 = .ok (.ireturn, 1) := by decide +kernel
theorem dX6_count_0 : decode cX6_count 0 = .ok (.iconst 0, 1) := by decide +kernel
theorem dX6_count_1 : decode cX6_count 1 = .ok (.istore_n 2, 1) := by decide +kernel
theorem dX6_count_2 : decode cX6_count 2 = .ok (.iconst 0, 1) := by decide +kernel
theorem dX6_count_3 : decode cX6_count 3 = .ok (.istore_n 3, 1) := by decide +kernel
theorem dX6_count_4 : decode cX6_count 4 = .ok (.iconst 0, 1) := by decide +kernel
theorem dX6_count_5 : decode cX6_count 5 = .ok (.istore 4, 2) := by decide +kernel
theorem dX6_count_7 : decode cX6_count 7 = .ok (.iload 4, 2) := by decide +kernel
theorem dX6_count_9 : decode cX6_count 9 = .ok (.aload_n 0, 1) := by decide +kernel
theorem dX6_count_10 : decode cX6_count 10 = .ok (.getfield 156, 3) := by decide +kernel
theorem dX6_count_13 : decode cX6_count 13 = .ok (.if_icmp .ge 26, 3) := by decide +kernel
theorem dX6_count_16 : decode cX6_count 16 = .ok (.iload_n 2, 1) := by decide +kernel
theorem dX6_count_17 : decode cX6_count 17 = .ok (.aload_n 0, 1) := by decide +kernel
theorem dX6_count_18 : decode cX6_count 18 = .ok (.getfield 7, 3) := by decide +kernel
theorem dX6_count_21 : decode cX6_count 21 = .ok (.bipush 21, 2) := by decide +kernel
theorem dX6_count_23 : decode cX6_count 23 = .ok (.iconst 4, 1) := by decide +kernel
theorem dX6_count_24 : decode cX6_count 24 = .ok (.iload 4, 2) := by decide +kernel
theorem dX6_count_26 : decode cX6_count 26 = .ok (.imul, 1) := by decide +kernel
theorem dX6_count_27 : decode cX6_count 27 = .ok (.iadd, 1) := by decide +kernel
theorem dX6_count_28 : decode cX6_count 28 = .ok (.iconst 3, 1) := by decide +kernel
theorem dX6_count_29 : decode cX6_count 29 = .ok (.iadd, 1) := by decide +kernel
theorem dX6_count_30 : decode cX6_count 30 = .ok (.iaload, 1) := by decide +kernel
theorem dX6_count_31 : decode cX6_count 31 = .ok (.iadd, 1) := by decide +kernel
theorem dX6_count_32 : decode cX6_count 32 = .ok (.istore_n 2, 1) := by decide +kernel
theorem dX6_count_33 : decode cX6_count 33 = .ok (.iinc 4 1, 3) := by decide +kernel
theorem dX6_count_36 : decode cX6_count 36 = .ok (.goto (-29), 3) := by decide +kernel
theorem dX6_count_39 : decode cX6_count 39 = .ok (.iconst 0, 1) := by decide +kernel
theorem dX6_count_40 : decode cX6_count 40 = .ok (.istore 4, 2) := by decide +kernel
theorem dX6_count_42 : decode cX6_count 42 = .ok (.iload 4, 2) := by decide +kernel
theorem dX6_count_44 : decode cX6_count 44 = .ok (.bipush 10, 2) := by decide +kernel
theorem dX6_count_46 : decode cX6_count 46 = .ok (.if_icmp .ge 30, 3) := by decide +kernel
theorem dX6_count_49 : decode cX6_count 49 = .ok (.iload_n 3, 1) := by decide +kernel
theorem dX6_count_50 : decode cX6_count 50 = .ok (.aload_n 0, 1) := by decide +kernel
theorem dX6_count_51 : decode cX6_count 51 = .ok (.getfield 7, 3) := by decide +kernel
theorem dX6_count_54 : decode cX6_count 54 = .ok (.bipush 37, 2) := by decide +kernel
theorem dX6_count_56 : decode cX6_count 56 = .ok (.iload 4, 2) := by decide +kernel
theorem dX6_count_58 : decode cX6_count 58 = .ok (.iadd, 1) := by decide +kernel
theorem dX6_count_59 : decode cX6_count 59 = .ok (.iaload, 1) := by decide +kernel
theorem dX6_count_60 : decode cX6_count 60 = .ok (.ifCond .eq 7, 3) := by decide +kernel
theorem dX6_count_63 : decode cX6_count 63 = .ok (.iconst 1, 1) := by decide +kernel
theorem dX6_count_64 : decode cX6_count 64 = .ok (.goto 4, 3) := by decide +kernel
theorem dX6_count_67 : decode cX6_count 67 = .ok (.iconst 0, 1) := by decide +kernel
theorem dX6_count_68 : decode cX6_count 68 = .ok (.iadd, 1) := by decide +kernel
theorem dX6_count_69 : decode cX6_count 69 = .ok (.istore_n 3, 1) := by decide +kernel
theorem dX6_count_70 : decode cX6_count 70 = .ok (.iinc 4 1, 3) := by decide +kernel
theorem dX6_count_73 : decode cX6_count 73 = .ok (.goto (-31), 3) := by decide +kernel
theorem dX6_count_76 : decode cX6_count 76 = .ok (.iload_n 1, 1) := by decide +kernel
theorem dX6_count_77 : decode cX6_count 77 = .ok (.tableswitch 106 0 5 #[39, 44, 74, 79, 102, 104], 39) := by decide +kernel
theorem dX6_count_116 : decode cX6_count 116 = .ok (.aload_n 0, 1) := by decide +kernel
theorem dX6_count_117 : decode cX6_count 117 = .ok (.getfield 159, 3) := by decide +kernel
theorem dX6_count_120 : decode cX6_count 120 = .ok (.ireturn, 1) := by decide +kernel
theorem dX6_count_121 : decode cX6_count 121 = .ok (.aload_n 0, 1) := by decide +kernel
theorem dX6_count_122 : decode cX6_count 122 = .ok (.getfield 58, 3) := by decide +kernel
theorem dX6_count_125 : decode cX6_count 125 = .ok (.iconst 0, 1) := by decide +kernel
theorem dX6_count_126 : decode cX6_count 126 = .ok (.baload, 1) := by decide +kernel
theorem dX6_count_127 : decode cX6_count 127 = .ok (.ifCond .eq 7, 3) := by decide +kernel
theorem dX6_count_130 : decode cX6_count 130 = .ok (.iconst 1, 1) := by decide +kernel
theorem dX6_count_131 : decode cX6_count 131 = .ok (.goto 4, 3) := by decide +kernel
theorem dX6_count_134 : decode cX6_count 134 = .ok (.iconst 0, 1) := by decide +kernel
theorem dX6_count_135 : decode cX6_count 135 = .ok (.aload_n 0, 1) := by decide +kernel
theorem dX6_count_136 : decode cX6_count 136 = .ok (.getfield 58, 3) := by decide +kernel
theorem dX6_count_139 : decode cX6_count 139 = .ok (.iconst 1, 1) := by decide +kernel
theorem dX6_count_140 : decode cX6_count 140 = .ok (.baload, 1) := by decide +kernel
theorem dX6_count_141 : decode cX6_count 141 = .ok (.ifCond .eq 7, 3) := by decide +kernel
theorem dX6_count_144 : decode cX6_count 144 = .ok (.iconst 1, 1) := by decide +kernel
theorem dX6_count_145 : decode cX6_count 145 = .ok (.goto 4, 3) := by decide +kernel
theorem dX6_count_148 : decode cX6_count 148 = .ok (.iconst 0, 1) := by decide +kernel
theorem dX6_count_149 : decode cX6_count 149 = .ok (.iadd, 1) := by decide +kernel
theorem dX6_count_150 : decode cX6_count 150 = .ok (.ireturn, 1) := by decide +kernel
theorem dX6_count_151 : decode cX6_count 151 = .ok (.aload_n 0, 1) := by decide +kernel
theorem dX6_count_152 : decode cX6_count 152 = .ok (.getfield 77, 3) := by decide +kernel
theorem dX6_count_155 : decode cX6_count 155 = .ok (.ireturn, 1) := by decide +kernel
theorem dX6_count_156 : decode cX6_count 156 = .ok (.aload_n 0, 1) := by decide +kernel
theorem dX6_count_157 : decode cX6_count 157 = .ok (.getfield 62, 3) := by decide +kernel
theorem dX6_count_160 : decode cX6_count 160 = .ok (.iconst 0, 1) := by decide +kernel
theorem dX6_count_161 : decode cX6_count 161 = .ok (.iaload, 1) := by decide +kernel
theorem dX6_count_162 : decode cX6_count 162 = .ok (.bipush (-4), 2) := by decide +kernel
theorem dX6_count_164 : decode cX6_count 164 = .ok (.if_icmp .ne 8, 3) := by decide +kernel
theorem dX6_count_167 : decode cX6_count 167 = .ok (.bipush (-4), 2) := by decide +kernel
theorem dX6_count_169 : decode cX6_count 169 = .ok (.goto 9, 3) := by decide +kernel
theorem dX6_count_172 : decode cX6_count 172 = .ok (.aload_n 0, 1) := by decide +kernel
theorem dX6_count_173 : decode cX6_count 173 = .ok (.getfield 65, 3) := by decide +kernel
theorem dX6_count_176 : decode cX6_count 176 = .ok (.iconst 0, 1) := by decide +kernel
theorem dX6_count_177 : decode cX6_count 177 = .ok (.iaload, 1) := by decide +kernel
theorem dX6_count_178 : decode cX6_count 178 = .ok (.ireturn, 1) := by decide +kernel
theorem dX6_count_179 : decode cX6_count 179 = .ok (.iload_n 2, 1) := by decide +kernel
theorem dX6_count_180 : decode cX6_count 180 = .ok (.ireturn, 1) := by decide +kernel
theorem dX6_count_181 : decode cX6_count 181 = .ok (.iload_n 3, 1) := by decide +kernel
theorem dX6_count_182 : decode cX6_count 182 = .ok (.ireturn, 1) := by decide +kernel
theorem dX6_count_183 : decode cX6_count 183 = .ok (.iconst (-1), 1) := by decide +kernel
theorem dX6_count_184 : decode cX6_count 184 = .ok (.ireturn, 1) := by decide +kernel
end
section
theorem dL_law_0 : decode cL_law 0 = .ok (.new 7, 3) := by decide +kernel
theorem dL_law_3 : decode cL_law 3 = .ok (.dup, 1) := by decide +kernel
theorem dL_law_4 : decode cL_law 4 = .ok (.invokespecial 9, 3) := by decide +kernel
theorem dL_law_7 : decode cL_law 7 = .ok (.astore_n 1, 1) := by decide +kernel
theorem dL_law_8 : decode cL_law 8 = .ok (.new 10, 3) := by decide +kernel
theorem dL_law_11 : decode cL_law 11 = .ok (.dup, 1) := by decide +kernel
theorem dL_law_12 : decode cL_law 12 = .ok (.invokespecial 12, 3) := by decide +kernel
theorem dL_law_15 : decode cL_law 15 = .ok (.astore_n 2, 1) := by decide +kernel
theorem dL_law_16 : decode cL_law 16 = .ok (.iconst 0, 1) := by decide +kernel
theorem dL_law_17 : decode cL_law 17 = .ok (.istore_n 3, 1) := by decide +kernel
theorem dL_law_18 : decode cL_law 18 = .ok (.iload_n 3, 1) := by decide +kernel
theorem dL_law_19 : decode cL_law 19 = .ok (.aload_n 0, 1) := by decide +kernel
theorem dL_law_20 : decode cL_law 20 = .ok (.arraylength, 1) := by decide +kernel
theorem dL_law_21 : decode cL_law 21 = .ok (.iconst 5, 1) := by decide +kernel
theorem dL_law_22 : decode cL_law 22 = .ok (.isub, 1) := by decide +kernel
theorem dL_law_23 : decode cL_law 23 = .ok (.if_icmp .gt 1554, 3) := by decide +kernel
theorem dL_law_26 : decode cL_law 26 = .ok (.aload_n 0, 1) := by decide +kernel
theorem dL_law_27 : decode cL_law 27 = .ok (.iload_n 3, 1) := by decide +kernel
theorem dL_law_28 : decode cL_law 28 = .ok (.iaload, 1) := by decide +kernel
theorem dL_law_29 : decode cL_law 29 = .ok (.bipush 63, 2) := by decide +kernel
theorem dL_law_31 : decode cL_law 31 = .ok (.iand, 1) := by decide +kernel
theorem dL_law_32 : decode cL_law 32 = .ok (.tableswitch 1539 0 42 #[188, 211, 234, 247, 260, 283, 316, 349, 372, 395, 438, 481, 514, 547, 570, 613, 636, 669, 712, 745, 768, 801, 834, 867, 900, 933, 966, 989, 1032, 1086, 1130, 1173, 1196, 1219, 1242, 1275, 1318, 1341, 1364, 1407, 1450, 1503, 1516], 188) := by decide +kernel
theorem dL_law_220 : decode cL_law 220 = .ok (.aload_n 1, 1) := by decide +kernel
theorem dL_law_221 : decode cL_law 221 = .ok (.aload_n 0, 1) := by decide +kernel
theorem dL_law_222 : decode cL_law 222 = .ok (.iload_n 3, 1) := by decide +kernel
theorem dL_law_223 : decode cL_law 223 = .ok (.iconst 1, 1) := by decide +kernel
theorem dL_law_224 : decode cL_law 224 = .ok (.iadd, 1) := by decide +kernel
theorem dL_law_225 : decode cL_law 225 = .ok (.iaload, 1) := by decide +kernel
theorem dL_law_226 : decode cL_law 226 = .ok (.invokevirtual 13, 3) := by decide +kernel
theorem dL_law_229 : decode cL_law 229 = .ok (.aload_n 2, 1) := by decide +kernel
theorem dL_law_230 : decode cL_law 230 = .ok (.aload_n 0, 1) := by decide +kernel
theorem dL_law_231 : decode cL_law 231 = .ok (.iload_n 3, 1) := by decide +kernel
theorem dL_law_232 : decode cL_law 232 = .ok (.iconst 1, 1) := by decide +kernel
theorem dL_law_233 : decode cL_law 233 = .ok (.iadd, 1) := by decide +kernel
theorem dL_law_234 : decode cL_law 234 = .ok (.iaload, 1) := by decide +kernel
theorem dL_law_235 : decode cL_law 235 = .ok (.invokevirtual 17, 3) := by decide +kernel
theorem dL_law_238 : decode cL_law 238 = .ok (.if_icmp .eq 1333, 3) := by decide +kernel
theorem dL_law_241 : decode cL_law 241 = .ok (.iconst 0, 1) := by decide +kernel
theorem dL_law_242 : decode cL_law 242 = .ok (.ireturn, 1) := by decide +kernel
theorem dL_law_243 : decode cL_law 243 = .ok (.aload_n 1, 1) := by decide +kernel
theorem dL_law_244 : decode cL_law 244 = .ok (.aload_n 0, 1) := by decide +kernel
theorem dL_law_245 : decode cL_law 245 = .ok (.iload_n 3, 1) := by decide +kernel
theorem dL_law_246 : decode cL_law 246 = .ok (.iconst 1, 1) := by decide +kernel
theorem dL_law_247 : decode cL_law 247 = .ok (.iadd, 1) := by decide +kernel
theorem dL_law_248 : decode cL_law 248 = .ok (.iaload, 1) := by decide +kernel
theorem dL_law_249 : decode cL_law 249 = .ok (.invokevirtual 18, 3) := by decide +kernel
theorem dL_law_252 : decode cL_law 252 = .ok (.aload_n 2, 1) := by decide +kernel
theorem dL_law_253 : decode cL_law 253 = .ok (.aload_n 0, 1) := by decide +kernel
theorem dL_law_254 : decode cL_law 254 = .ok (.iload_n 3, 1) := by decide +kernel
theorem dL_law_255 : decode cL_law 255 = .ok (.iconst 1, 1) := by decide +kernel
theorem dL_law_256 : decode cL_law 256 = .ok (.iadd, 1) := by decide +kernel
theorem dL_law_257 : decode cL_law 257 = .ok (.iaload, 1) := by decide +kernel
theorem dL_law_258 : decode cL_law 258 = .ok (.invokevirtual 21, 3) := by decide +kernel
theorem dL_law_261 : decode cL_law 261 = .ok (.if_icmp .eq 1310, 3) := by decide +kernel
theorem dL_law_264 : decode cL_law 264 = .ok (.iconst 0, 1) := by decide +kernel
theorem dL_law_265 : decode cL_law 265 = .ok (.ireturn, 1) := by decide +kernel
theorem dL_law_266 : decode cL_law 266 = .ok (.aload_n 1, 1) := by decide +kernel
theorem dL_law_267 : decode cL_law 267 = .ok (.invokevirtual 22, 3) := by decide +kernel
theorem dL_law_270 : decode cL_law 270 = .ok (.aload_n 2, 1) := by decide +kernel
theorem dL_law_271 : decode cL_law 271 = .ok (.invokevirtual 26, 3) := by decide +kernel
theorem dL_law_274 : decode cL_law 274 = .ok (.if_icmp .eq 1297, 3) := by decide +kernel
theorem dL_law_277 : decode cL_law 277 = .ok (.iconst 0, 1) := by decide +kernel
theorem dL_law_278 : decode cL_law 278 = .ok (.ireturn, 1) := by decide +kernel
theorem dL_law_279 : decode cL_law 279 = .ok (.aload_n 1, 1) := by decide +kernel
theorem dL_law_280 : decode cL_law 280 = .ok (.invokevirtual 27, 3) := by decide +kernel
theorem dL_law_283 : decode cL_law 283 = .ok (.aload_n 2, 1) := by decide +kernel
theorem dL_law_284 : decode cL_law 284 = .ok (.invokevirtual 30, 3) := by decide +kernel
theorem dL_law_287 : decode cL_law 287 = .ok (.if_icmp .eq 1284, 3) := by decide +kernel
theorem dL_law_290 : decode cL_law 290 = .ok (.iconst 0, 1) := by decide +kernel
theorem dL_law_291 : decode cL_law 291 = .ok (.ireturn, 1) := by decide +kernel
theorem dL_law_292 : decode cL_law 292 = .ok (.aload_n 1, 1) := by decide +kernel
theorem dL_law_293 : decode cL_law 293 = .ok (.aload_n 0, 1) := by decide +kernel
theorem dL_law_294 : decode cL_law 294 = .ok (.iload_n 3, 1) := by decide +kernel
theorem dL_law_295 : decode cL_law 295 = .ok (.iconst 1, 1) := by decide +kernel
theorem dL_law_296 : decode cL_law 296 = .ok (.iadd, 1) := by decide +kernel
theorem dL_law_297 : decode cL_law 297 = .ok (.iaload, 1) := by decide +kernel
theorem dL_law_298 : decode cL_law 298 = .ok (.invokevirtual 31, 3) := by decide +kernel
theorem dL_law_301 : decode cL_law 301 = .ok (.aload_n 2, 1) := by decide +kernel
theorem dL_law_302 : decode cL_law 302 = .ok (.aload_n 0, 1) := by decide +kernel
theorem dL_law_303 : decode cL_law 303 = .ok (.iload_n 3, 1) := by decide +kernel
theorem dL_law_304 : decode cL_law 304 = .ok (.iconst 1, 1) := by decide +kernel
theorem dL_law_305 : decode cL_law 305 = .ok (.iadd, 1) := by decide +kernel
theorem dL_law_306 : decode cL_law 306 = .ok (.iaload, 1) := by decide +kernel
theorem dL_law_307 : decode cL_law 307 = .ok (.invokevirtual 34, 3) := by decide +kernel
theorem dL_law_310 : decode cL_law 310 = .ok (.if_icmp .eq 1261, 3) := by decide +kernel
theorem dL_law_313 : decode cL_law 313 = .ok (.iconst 0, 1) := by decide +kernel
theorem dL_law_314 : decode cL_law 314 = .ok (.ireturn, 1) := by decide +kernel
theorem dL_law_315 : decode cL_law 315 = .ok (.aload_n 1, 1) := by decide +kernel
theorem dL_law_316 : decode cL_law 316 = .ok (.aload_n 0, 1) := by decide +kernel
theorem dL_law_317 : decode cL_law 317 = .ok (.iload_n 3, 1) := by decide +kernel
theorem dL_law_318 : decode cL_law 318 = .ok (.iconst 1, 1) := by decide +kernel
theorem dL_law_319 : decode cL_law 319 = .ok (.iadd, 1) := by decide +kernel
theorem dL_law_320 : decode cL_law 320 = .ok (.iaload, 1) := by decide +kernel
theorem dL_law_321 : decode cL_law 321 = .ok (.aload_n 0, 1) := by decide +kernel
theorem dL_law_322 : decode cL_law 322 = .ok (.iload_n 3, 1) := by decide +kernel
theorem dL_law_323 : decode cL_law 323 = .ok (.iconst 2, 1) := by decide +kernel
theorem dL_law_324 : decode cL_law 324 = .ok (.iadd, 1) := by decide +kernel
theorem dL_law_325 : decode cL_law 325 = .ok (.iaload, 1) := by decide +kernel
theorem dL_law_326 : decode cL_law 326 = .ok (.invokevirtual 35, 3) := by decide +kernel
theorem dL_law_329 : decode cL_law 329 = .ok (.aload_n 2, 1) := by decide +kernel
theorem dL_law_330 : decode cL_law 330 = .ok (.aload_n 0, 1) := by decide +kernel
theorem dL_law_331 : decode cL_law 331 = .ok (.iload_n 3, 1) := by decide +kernel
theorem dL_law_332 : decode cL_law 332 = .ok (.iconst 1, 1) := by decide +kernel
theorem dL_law_333 : decode cL_law 333 = .ok (.iadd, 1) := by decide +kernel
theorem dL_law_334 : decode cL_law 334 = .ok (.iaload, 1) := by decide +kernel
theorem dL_law_335 : decode cL_law 335 = .ok (.aload_n 0, 1) := by decide +kernel
theorem dL_law_336 : decode cL_law 336 = .ok (.iload_n 3, 1) := by decide +kernel
theorem dL_law_337 : decode cL_law 337 = .ok (.iconst 2, 1) := by decide +kernel
theorem dL_law_338 : decode cL_law 338 = .ok (.iadd, 1) := by decide +kernel
theorem dL_law_339 : decode cL_law 339 = .ok (.iaload, 1) := by decide +kernel
theorem dL_law_340 : decode cL_law 340 = .ok (.invokevirtual 39, 3) := by decide +kernel
theorem dL_law_343 : decode cL_law 343 = .ok (.if_icmp .eq 1228, 3) := by decide +kernel
theorem dL_law_346 : decode cL_law 346 = .ok (.iconst 0, 1) := by decide +kernel
theorem dL_law_347 : decode cL_law 347 = .ok (.ireturn, 1) := by decide +kernel
theorem dL_law_348 : decode cL_law 348 = .ok (.aload_n 1, 1) := by decide +kernel
theorem dL_law_349 : decode cL_law 349 = .ok (.aload_n 0, 1) := by decide +kernel
theorem dL_law_350 : decode cL_law 350 = .ok (.iload_n 3, 1) := by decide +kernel
theorem dL_law_351 : decode cL_law 351 = .ok (.iconst 1, 1) := by decide +kernel
theorem dL_law_352 : decode cL_law 352 = .ok (.iadd, 1) := by decide +kernel
theorem dL_law_353 : decode cL_law 353 = .ok (.iaload, 1) := by decide +kernel
theorem dL_law_354 : decode cL_law 354 = .ok (.aload_n 0, 1) := by decide +kernel
theorem dL_law_355 : decode cL_law 355 = .ok (.iload_n 3, 1) := by decide +kernel
theorem dL_law_356 : decode cL_law 356 = .ok (.iconst 2, 1) := by decide +kernel
theorem dL_law_357 : decode cL_law 357 = .ok (.iadd, 1) := by decide +kernel
theorem dL_law_358 : decode cL_law 358 = .ok (.iaload, 1) := by decide +kernel
theorem dL_law_359 : decode cL_law 359 = .ok (.invokevirtual 40, 3) := by decide +kernel
theorem dL_law_362 : decode cL_law 362 = .ok (.aload_n 2, 1) := by decide +kernel
theorem dL_law_363 : decode cL_law 363 = .ok (.aload_n 0, 1) := by decide +kernel
theorem dL_law_364 : decode cL_law 364 = .ok (.iload_n 3, 1) := by decide +kernel
theorem dL_law_365 : decode cL_law 365 = .ok (.iconst 1, 1) := by decide +kernel
theorem dL_law_366 : decode cL_law 366 = .ok (.iadd, 1) := by decide +kernel
theorem dL_law_367 : decode cL_law 367 = .ok (.iaload, 1) := by decide +kernel
theorem dL_law_368 : decode cL_law 368 = .ok (.aload_n 0, 1) := by decide +kernel
theorem dL_law_369 : decode cL_law 369 = .ok (.iload_n 3, 1) := by decide +kernel
theorem dL_law_370 : decode cL_law 370 = .ok (.iconst 2, 1) := by decide +kernel
theorem dL_law_371 : decode cL_law 371 = .ok (.iadd, 1) := by decide +kernel
theorem dL_law_372 : decode cL_law 372 = .ok (.iaload, 1) := by decide +kernel
theorem dL_law_373 : decode cL_law 373 = .ok (.invokevirtual 43, 3) := by decide +kernel
theorem dL_law_376 : decode cL_law 376 = .ok (.if_icmp .eq 1195, 3) := by decide +kernel
theorem dL_law_379 : decode cL_law 379 = .ok (.iconst 0, 1) := by decide +kernel
theorem dL_law_380 : decode cL_law 380 = .ok (.ireturn, 1) := by decide +kernel
theorem dL_law_381 : decode cL_law 381 = .ok (.aload_n 1, 1) := by decide +kernel
theorem dL_law_382 : decode cL_law 382 = .ok (.aload_n 0, 1) := by decide +kernel
theorem dL_law_383 : decode cL_law 383 = .ok (.iload_n 3, 1) := by decide +kernel
theorem dL_law_384 : decode cL_law 384 = .ok (.iconst 1, 1) := by decide +kernel
theorem dL_law_385 : decode cL_law 385 = .ok (.iadd, 1) := by decide +kernel
theorem dL_law_386 : decode cL_law 386 = .ok (.iaload, 1) := by decide +kernel
theorem dL_law_387 : decode cL_law 387 = .ok (.invokevirtual 44, 3) := by decide +kernel
theorem dL_law_390 : decode cL_law 390 = .ok (.aload_n 2, 1) := by decide +kernel
theorem dL_law_391 : decode cL_law 391 = .ok (.aload_n 0, 1) := by decide +kernel
theorem dL_law_392 : decode cL_law 392 = .ok (.iload_n 3, 1) := by decide +kernel
theorem dL_law_393 : decode cL_law 393 = .ok (.iconst 1, 1) := by decide +kernel
theorem dL_law_394 : decode cL_law 394 = .ok (.iadd, 1) := by decide +kernel
theorem dL_law_395 : decode cL_law 395 = .ok (.iaload, 1) := by decide +kernel
theorem dL_law_396 : decode cL_law 396 = .ok (.invokevirtual 47, 3) := by decide +kernel
theorem dL_law_399 : decode cL_law 399 = .ok (.if_icmp .eq 1172, 3) := by decide +kernel
theorem dL_law_402 : decode cL_law 402 = .ok (.iconst 0, 1) := by decide +kernel
theorem dL_law_403 : decode cL_law 403 = .ok (.ireturn, 1) := by decide +kernel
theorem dL_law_404 : decode cL_law 404 = .ok (.aload_n 1, 1) := by decide +kernel
theorem dL_law_405 : decode cL_law 405 = .ok (.aload_n 0, 1) := by decide +kernel
theorem dL_law_406 : decode cL_law 406 = .ok (.iload_n 3, 1) := by decide +kernel
theorem dL_law_407 : decode cL_law 407 = .ok (.iconst 1, 1) := by decide +kernel
theorem dL_law_408 : decode cL_law 408 = .ok (.iadd, 1) := by decide +kernel
theorem dL_law_409 : decode cL_law 409 = .ok (.iaload, 1) := by decide +kernel
theorem dL_law_410 : decode cL_law 410 = .ok (.invokevirtual 48, 3) := by decide +kernel
theorem dL_law_413 : decode cL_law 413 = .ok (.aload_n 2, 1) := by decide +kernel
theorem dL_law_414 : decode cL_law 414 = .ok (.aload_n 0, 1) := by decide +kernel
theorem dL_law_415 : decode cL_law 415 = .ok (.iload_n 3, 1) := by decide +kernel
theorem dL_law_416 : decode cL_law 416 = .ok (.iconst 1, 1) := by decide +kernel
theorem dL_law_417 : decode cL_law 417 = .ok (.iadd, 1) := by decide +kernel
theorem dL_law_418 : decode cL_law 418 = .ok (.iaload, 1) := by decide +kernel
theorem dL_law_419 : decode cL_law 419 = .ok (.invokevirtual 51, 3) := by decide +kernel
theorem dL_law_422 : decode cL_law 422 = .ok (.if_icmp .eq 1149, 3) := by decide +kernel
theorem dL_law_425 : decode cL_law 425 = .ok (.iconst 0, 1) := by decide +kernel
theorem dL_law_426 : decode cL_law 426 = .ok (.ireturn, 1) := by decide +kernel
theorem dL_law_427 : decode cL_law 427 = .ok (.aload_n 1, 1) := by decide +kernel
theorem dL_law_428 : decode cL_law 428 = .ok (.aload_n 0, 1) := by decide +kernel
theorem dL_law_429 : decode cL_law 429 = .ok (.iload_n 3, 1) := by decide +kernel
theorem dL_law_430 : decode cL_law 430 = .ok (.iconst 1, 1) := by decide +kernel
theorem dL_law_431 : decode cL_law 431 = .ok (.iadd, 1) := by decide +kernel
theorem dL_law_432 : decode cL_law 432 = .ok (.iaload, 1) := by decide +kernel
theorem dL_law_433 : decode cL_law 433 = .ok (.aload_n 0, 1) := by decide +kernel
theorem dL_law_434 : decode cL_law 434 = .ok (.iload_n 3, 1) := by decide +kernel
theorem dL_law_435 : decode cL_law 435 = .ok (.iconst 2, 1) := by decide +kernel
theorem dL_law_436 : decode cL_law 436 = .ok (.iadd, 1) := by decide +kernel
theorem dL_law_437 : decode cL_law 437 = .ok (.iaload, 1) := by decide +kernel
theorem dL_law_438 : decode cL_law 438 = .ok (.aload_n 0, 1) := by decide +kernel
theorem dL_law_439 : decode cL_law 439 = .ok (.iload_n 3, 1) := by decide +kernel
theorem dL_law_440 : decode cL_law 440 = .ok (.iconst 3, 1) := by decide +kernel
theorem dL_law_441 : decode cL_law 441 = .ok (.iadd, 1) := by decide +kernel
theorem dL_law_442 : decode cL_law 442 = .ok (.iaload, 1) := by decide +kernel
theorem dL_law_443 : decode cL_law 443 = .ok (.invokevirtual 52, 3) := by decide +kernel
theorem dL_law_446 : decode cL_law 446 = .ok (.aload_n 2, 1) := by decide +kernel
theorem dL_law_447 : decode cL_law 447 = .ok (.aload_n 0, 1) := by decide +kernel
theorem dL_law_448 : decode cL_law 448 = .ok (.iload_n 3, 1) := by decide +kernel
theorem dL_law_449 : decode cL_law 449 = .ok (.iconst 1, 1) := by decide +kernel
theorem dL_law_450 : decode cL_law 450 = .ok (.iadd, 1) := by decide +kernel
theorem dL_law_451 : decode cL_law 451 = .ok (.iaload, 1) := by decide +kernel
theorem dL_law_452 : decode cL_law 452 = .ok (.aload_n 0, 1) := by decide +kernel
theorem dL_law_453 : decode cL_law 453 = .ok (.iload_n 3, 1) := by decide +kernel
theorem dL_law_454 : decode cL_law 454 = .ok (.iconst 2, 1) := by decide +kernel
theorem dL_law_455 : decode cL_law 455 = .ok (.iadd, 1) := by decide +kernel
theorem dL_law_456 : decode cL_law 456 = .ok (.iaload, 1) := by decide +kernel
theorem dL_law_457 : decode cL_law 457 = .ok (.aload_n 0, 1) := by decide +kernel
theorem dL_law_458 : decode cL_law 458 = .ok (.iload_n 3, 1) := by decide +kernel
theorem dL_law_459 : decode cL_law 459 = .ok (.iconst 3, 1) := by decide +kernel
theorem dL_law_460 : decode cL_law 460 = .ok (.iadd, 1) := by decide +kernel
theorem dL_law_461 : decode cL_law 461 = .ok (.iaload, 1) := by decide +kernel
theorem dL_law_462 : decode cL_law 462 = .ok (.invokevirtual 56, 3) := by decide +kernel
theorem dL_law_465 : decode cL_law 465 = .ok (.if_icmp .eq 1106, 3) := by decide +kernel
theorem dL_law_468 : decode cL_law 468 = .ok (.iconst 0, 1) := by decide +kernel
theorem dL_law_469 : decode cL_law 469 = .ok (.ireturn, 1) := by decide +kernel
theorem dL_law_470 : decode cL_law 470 = .ok (.aload_n 1, 1) := by decide +kernel
theorem dL_law_471 : decode cL_law 471 = .ok (.aload_n 0, 1) := by decide +kernel
theorem dL_law_472 : decode cL_law 472 = .ok (.iload_n 3, 1) := by decide +kernel
theorem dL_law_473 : decode cL_law 473 = .ok (.iconst 1, 1) := by decide +kernel
theorem dL_law_474 : decode cL_law 474 = .ok (.iadd, 1) := by decide +kernel
theorem dL_law_475 : decode cL_law 475 = .ok (.iaload, 1) := by decide +kernel
theorem dL_law_476 : decode cL_law 476 = .ok (.aload_n 0, 1) := by decide +kernel
theorem dL_law_477 : decode cL_law 477 = .ok (.iload_n 3, 1) := by decide +kernel
theorem dL_law_478 : decode cL_law 478 = .ok (.iconst 2, 1) := by decide +kernel
theorem dL_law_479 : decode cL_law 479 = .ok (.iadd, 1) := by decide +kernel
theorem dL_law_480 : decode cL_law 480 = .ok (.iaload, 1) := by decide +kernel
theorem dL_law_481 : decode cL_law 481 = .ok (.aload_n 0, 1) := by decide +kernel
theorem dL_law_482 : decode cL_law 482 = .ok (.iload_n 3, 1) := by decide +kernel
theorem dL_law_483 : decode cL_law 483 = .ok (.iconst 3, 1) := by decide +kernel
theorem dL_law_484 : decode cL_law 484 = .ok (.iadd, 1) := by decide +kernel
theorem dL_law_485 : decode cL_law 485 = .ok (.iaload, 1) := by decide +kernel
theorem dL_law_486 : decode cL_law 486 = .ok (.invokevirtual 57, 3) := by decide +kernel
theorem dL_law_489 : decode cL_law 489 = .ok (.aload_n 2, 1) := by decide +kernel
theorem dL_law_490 : decode cL_law 490 = .ok (.aload_n 0, 1) := by decide +kernel
theorem dL_law_491 : decode cL_law 491 = .ok (.iload_n 3, 1) := by decide +kernel
theorem dL_law_492 : decode cL_law 492 = .ok (.iconst 1, 1) := by decide +kernel
theorem dL_law_493 : decode cL_law 493 = .ok (.iadd, 1) := by decide +kernel
theorem dL_law_494 : decode cL_law 494 = .ok (.iaload, 1) := by decide +kernel
theorem dL_law_495 : decode cL_law 495 = .ok (.aload_n 0, 1) := by decide +kernel
theorem dL_law_496 : decode cL_law 496 = .ok (.iload_n 3, 1) := by decide +kernel
theorem dL_law_497 : decode cL_law 497 = .ok (.iconst 2, 1) := by decide +kernel
theorem dL_law_498 : decode cL_law 498 = .ok (.iadd, 1) := by decide +kernel
theorem dL_law_499 : decode cL_law 499 = .ok (.iaload, 1) := by decide +kernel
theorem dL_law_500 : decode cL_law 500 = .ok (.aload_n 0, 1) := by decide +kernel
theorem dL_law_501 : decode cL_law 501 = .ok (.iload_n 3, 1) := by decide +kernel
theorem dL_law_502 : decode cL_law 502 = .ok (.iconst 3, 1) := by decide +kernel
theorem dL_law_503 : decode cL_law 503 = .ok (.iadd, 1) := by decide +kernel
theorem dL_law_504 : decode cL_law 504 = .ok (.iaload, 1) := by decide +kernel
theorem dL_law_505 : decode cL_law 505 = .ok (.invokevirtual 60, 3) := by decide +kernel
theorem dL_law_508 : decode cL_law 508 = .ok (.if_icmp .eq 1063, 3) := by decide +kernel
theorem dL_law_511 : decode cL_law 511 = .ok (.iconst 0, 1) := by decide +kernel
theorem dL_law_512 : decode cL_law 512 = .ok (.ireturn, 1) := by decide +kernel
theorem dL_law_513 : decode cL_law 513 = .ok (.aload_n 1, 1) := by decide +kernel
theorem dL_law_514 : decode cL_law 514 = .ok (.aload_n 0, 1) := by decide +kernel
theorem dL_law_515 : decode cL_law 515 = .ok (.iload_n 3, 1) := by decide +kernel
theorem dL_law_516 : decode cL_law 516 = .ok (.iconst 1, 1) := by decide +kernel
theorem dL_law_517 : decode cL_law 517 = .ok (.iadd, 1) := by decide +kernel
theorem dL_law_518 : decode cL_law 518 = .ok (.iaload, 1) := by decide +kernel
theorem dL_law_519 : decode cL_law 519 = .ok (.aload_n 0, 1) := by decide +kernel
theorem dL_law_520 : decode cL_law 520 = .ok (.iload_n 3, 1) := by decide +kernel
theorem dL_law_521 : decode cL_law 521 = .ok (.iconst 2, 1) := by decide +kernel
theorem dL_law_522 : decode cL_law 522 = .ok (.iadd, 1) := by decide +kernel
theorem dL_law_523 : decode cL_law 523 = .ok (.iaload, 1) := by decide +kernel
theorem dL_law_524 : decode cL_law 524 = .ok (.invokevirtual 61, 3) := by decide +kernel
theorem dL_law_527 : decode cL_law 527 = .ok (.aload_n 2, 1) := by decide +kernel
theorem dL_law_528 : decode cL_law 528 = .ok (.aload_n 0, 1) := by decide +kernel
theorem dL_law_529 : decode cL_law 529 = .ok (.iload_n 3, 1) := by decide +kernel
theorem dL_law_530 : decode cL_law 530 = .ok (.iconst 1, 1) := by decide +kernel
theorem dL_law_531 : decode cL_law 531 = .ok (.iadd, 1) := by decide +kernel
theorem dL_law_532 : decode cL_law 532 = .ok (.iaload, 1) := by decide +kernel
theorem dL_law_533 : decode cL_law 533 = .ok (.aload_n 0, 1) := by decide +kernel
theorem dL_law_534 : decode cL_law 534 = .ok (.iload_n 3, 1) := by decide +kernel
theorem dL_law_535 : decode cL_law 535 = .ok (.iconst 2, 1) := by decide +kernel
theorem dL_law_536 : decode cL_law 536 = .ok (.iadd, 1) := by decide +kernel
theorem dL_law_537 : decode cL_law 537 = .ok (.iaload, 1) := by decide +kernel
theorem dL_law_538 : decode cL_law 538 = .ok (.invokevirtual 64, 3) := by decide +kernel
theorem dL_law_541 : decode cL_law 541 = .ok (.if_icmp .eq 1030, 3) := by decide +kernel
theorem dL_law_544 : decode cL_law 544 = .ok (.iconst 0, 1) := by decide +kernel
theorem dL_law_545 : decode cL_law 545 = .ok (.ireturn, 1) := by decide +kernel
theorem dL_law_546 : decode cL_law 546 = .ok (.aload_n 1, 1) := by decide +kernel
theorem dL_law_547 : decode cL_law 547 = .ok (.aload_n 0, 1) := by decide +kernel
theorem dL_law_548 : decode cL_law 548 = .ok (.iload_n 3, 1) := by decide +kernel
theorem dL_law_549 : decode cL_law 549 = .ok (.iconst 1, 1) := by decide +kernel
theorem dL_law_550 : decode cL_law 550 = .ok (.iadd, 1) := by decide +kernel
theorem dL_law_551 : decode cL_law 551 = .ok (.iaload, 1) := by decide +kernel
theorem dL_law_552 : decode cL_law 552 = .ok (.aload_n 0, 1) := by decide +kernel
theorem dL_law_553 : decode cL_law 553 = .ok (.iload_n 3, 1) := by decide +kernel
theorem dL_law_554 : decode cL_law 554 = .ok (.iconst 2, 1) := by decide +kernel
theorem dL_law_555 : decode cL_law 555 = .ok (.iadd, 1) := by decide +kernel
theorem dL_law_556 : decode cL_law 556 = .ok (.iaload, 1) := by decide +kernel
theorem dL_law_557 : decode cL_law 557 = .ok (.invokevirtual 65, 3) := by decide +kernel
theorem dL_law_560 : decode cL_law 560 = .ok (.aload_n 2, 1) := by decide +kernel
theorem dL_law_561 : decode cL_law 561 = .ok (.aload_n 0, 1) := by decide +kernel
theorem dL_law_562 : decode cL_law 562 = .ok (.iload_n 3, 1) := by decide +kernel
theorem dL_law_563 : decode cL_law 563 = .ok (.iconst 1, 1) := by decide +kernel
theorem dL_law_564 : decode cL_law 564 = .ok (.iadd, 1) := by decide +kernel
theorem dL_law_565 : decode cL_law 565 = .ok (.iaload, 1) := by decide +kernel
theorem dL_law_566 : decode cL_law 566 = .ok (.aload_n 0, 1) := by decide +kernel
theorem dL_law_567 : decode cL_law 567 = .ok (.iload_n 3, 1) := by decide +kernel
theorem dL_law_568 : decode cL_law 568 = .ok (.iconst 2, 1) := by decide +kernel
theorem dL_law_569 : decode cL_law 569 = .ok (.iadd, 1) := by decide +kernel
theorem dL_law_570 : decode cL_law 570 = .ok (.iaload, 1) := by decide +kernel
theorem dL_law_571 : decode cL_law 571 = .ok (.invokevirtual 68, 3) := by decide +kernel
theorem dL_law_574 : decode cL_law 574 = .ok (.if_icmp .eq 997, 3) := by decide +kernel
theorem dL_law_577 : decode cL_law 577 = .ok (.iconst 0, 1) := by decide +kernel
theorem dL_law_578 : decode cL_law 578 = .ok (.ireturn, 1) := by decide +kernel
theorem dL_law_579 : decode cL_law 579 = .ok (.aload_n 1, 1) := by decide +kernel
theorem dL_law_580 : decode cL_law 580 = .ok (.aload_n 0, 1) := by decide +kernel
theorem dL_law_581 : decode cL_law 581 = .ok (.iload_n 3, 1) := by decide +kernel
theorem dL_law_582 : decode cL_law 582 = .ok (.iconst 1, 1) := by decide +kernel
theorem dL_law_583 : decode cL_law 583 = .ok (.iadd, 1) := by decide +kernel
theorem dL_law_584 : decode cL_law 584 = .ok (.iaload, 1) := by decide +kernel
theorem dL_law_585 : decode cL_law 585 = .ok (.invokevirtual 69, 3) := by decide +kernel
theorem dL_law_588 : decode cL_law 588 = .ok (.aload_n 2, 1) := by decide +kernel
theorem dL_law_589 : decode cL_law 589 = .ok (.aload_n 0, 1) := by decide +kernel
theorem dL_law_590 : decode cL_law 590 = .ok (.iload_n 3, 1) := by decide +kernel
theorem dL_law_591 : decode cL_law 591 = .ok (.iconst 1, 1) := by decide +kernel
theorem dL_law_592 : decode cL_law 592 = .ok (.iadd, 1) := by decide +kernel
theorem dL_law_593 : decode cL_law 593 = .ok (.iaload, 1) := by decide +kernel
theorem dL_law_594 : decode cL_law 594 = .ok (.invokevirtual 72, 3) := by decide +kernel
theorem dL_law_597 : decode cL_law 597 = .ok (.if_icmp .eq 974, 3) := by decide +kernel
theorem dL_law_600 : decode cL_law 600 = .ok (.iconst 0, 1) := by decide +kernel
theorem dL_law_601 : decode cL_law 601 = .ok (.ireturn, 1) := by decide +kernel
theorem dL_law_602 : decode cL_law 602 = .ok (.aload_n 1, 1) := by decide +kernel
theorem dL_law_603 : decode cL_law 603 = .ok (.aload_n 0, 1) := by decide +kernel
theorem dL_law_604 : decode cL_law 604 = .ok (.iload_n 3, 1) := by decide +kernel
theorem dL_law_605 : decode cL_law 605 = .ok (.iconst 1, 1) := by decide +kernel
theorem dL_law_606 : decode cL_law 606 = .ok (.iadd, 1) := by decide +kernel
theorem dL_law_607 : decode cL_law 607 = .ok (.iaload, 1) := by decide +kernel
theorem dL_law_608 : decode cL_law 608 = .ok (.aload_n 0, 1) := by decide +kernel
theorem dL_law_609 : decode cL_law 609 = .ok (.iload_n 3, 1) := by decide +kernel
theorem dL_law_610 : decode cL_law 610 = .ok (.iconst 2, 1) := by decide +kernel
theorem dL_law_611 : decode cL_law 611 = .ok (.iadd, 1) := by decide +kernel
theorem dL_law_612 : decode cL_law 612 = .ok (.iaload, 1) := by decide +kernel
theorem dL_law_613 : decode cL_law 613 = .ok (.aload_n 0, 1) := by decide +kernel
theorem dL_law_614 : decode cL_law 614 = .ok (.iload_n 3, 1) := by decide +kernel
theorem dL_law_615 : decode cL_law 615 = .ok (.iconst 3, 1) := by decide +kernel
theorem dL_law_616 : decode cL_law 616 = .ok (.iadd, 1) := by decide +kernel
theorem dL_law_617 : decode cL_law 617 = .ok (.iaload, 1) := by decide +kernel
theorem dL_law_618 : decode cL_law 618 = .ok (.invokevirtual 73, 3) := by decide +kernel
theorem dL_law_621 : decode cL_law 621 = .ok (.aload_n 2, 1) := by decide +kernel
theorem dL_law_622 : decode cL_law 622 = .ok (.aload_n 0, 1) := by decide +kernel
theorem dL_law_623 : decode cL_law 623 = .ok (.iload_n 3, 1) := by decide +kernel
theorem dL_law_624 : decode cL_law 624 = .ok (.iconst 1, 1) := by decide +kernel
theorem dL_law_625 : decode cL_law 625 = .ok (.iadd, 1) := by decide +kernel
theorem dL_law_626 : decode cL_law 626 = .ok (.iaload, 1) := by decide +kernel
theorem dL_law_627 : decode cL_law 627 = .ok (.aload_n 0, 1) := by decide +kernel
theorem dL_law_628 : decode cL_law 628 = .ok (.iload_n 3, 1) := by decide +kernel
theorem dL_law_629 : decode cL_law 629 = .ok (.iconst 2, 1) := by decide +kernel
theorem dL_law_630 : decode cL_law 630 = .ok (.iadd, 1) := by decide +kernel
theorem dL_law_631 : decode cL_law 631 = .ok (.iaload, 1) := by decide +kernel
theorem dL_law_632 : decode cL_law 632 = .ok (.aload_n 0, 1) := by decide +kernel
theorem dL_law_633 : decode cL_law 633 = .ok (.iload_n 3, 1) := by decide +kernel
theorem dL_law_634 : decode cL_law 634 = .ok (.iconst 3, 1) := by decide +kernel
theorem dL_law_635 : decode cL_law 635 = .ok (.iadd, 1) := by decide +kernel
theorem dL_law_636 : decode cL_law 636 = .ok (.iaload, 1) := by decide +kernel
theorem dL_law_637 : decode cL_law 637 = .ok (.invokevirtual 76, 3) := by decide +kernel
theorem dL_law_640 : decode cL_law 640 = .ok (.if_icmp .eq 931, 3) := by decide +kernel
theorem dL_law_643 : decode cL_law 643 = .ok (.iconst 0, 1) := by decide +kernel
theorem dL_law_644 : decode cL_law 644 = .ok (.ireturn, 1) := by decide +kernel
theorem dL_law_645 : decode cL_law 645 = .ok (.aload_n 1, 1) := by decide +kernel
theorem dL_law_646 : decode cL_law 646 = .ok (.aload_n 0, 1) := by decide +kernel
theorem dL_law_647 : decode cL_law 647 = .ok (.iload_n 3, 1) := by decide +kernel
theorem dL_law_648 : decode cL_law 648 = .ok (.iconst 1, 1) := by decide +kernel
theorem dL_law_649 : decode cL_law 649 = .ok (.iadd, 1) := by decide +kernel
theorem dL_law_650 : decode cL_law 650 = .ok (.iaload, 1) := by decide +kernel
theorem dL_law_651 : decode cL_law 651 = .ok (.invokevirtual 77, 3) := by decide +kernel
theorem dL_law_654 : decode cL_law 654 = .ok (.aload_n 2, 1) := by decide +kernel
theorem dL_law_655 : decode cL_law 655 = .ok (.aload_n 0, 1) := by decide +kernel
theorem dL_law_656 : decode cL_law 656 = .ok (.iload_n 3, 1) := by decide +kernel
theorem dL_law_657 : decode cL_law 657 = .ok (.iconst 1, 1) := by decide +kernel
theorem dL_law_658 : decode cL_law 658 = .ok (.iadd, 1) := by decide +kernel
theorem dL_law_659 : decode cL_law 659 = .ok (.iaload, 1) := by decide +kernel
theorem dL_law_660 : decode cL_law 660 = .ok (.invokevirtual 80, 3) := by decide +kernel
theorem dL_law_663 : decode cL_law 663 = .ok (.if_icmp .eq 908, 3) := by decide +kernel
theorem dL_law_666 : decode cL_law 666 = .ok (.iconst 0, 1) := by decide +kernel
theorem dL_law_667 : decode cL_law 667 = .ok (.ireturn, 1) := by decide +kernel
theorem dL_law_668 : decode cL_law 668 = .ok (.aload_n 1, 1) := by decide +kernel
theorem dL_law_669 : decode cL_law 669 = .ok (.aload_n 0, 1) := by decide +kernel
theorem dL_law_670 : decode cL_law 670 = .ok (.iload_n 3, 1) := by decide +kernel
theorem dL_law_671 : decode cL_law 671 = .ok (.iconst 1, 1) := by decide +kernel
theorem dL_law_672 : decode cL_law 672 = .ok (.iadd, 1) := by decide +kernel
theorem dL_law_673 : decode cL_law 673 = .ok (.iaload, 1) := by decide +kernel
theorem dL_law_674 : decode cL_law 674 = .ok (.aload_n 0, 1) := by decide +kernel
theorem dL_law_675 : decode cL_law 675 = .ok (.iload_n 3, 1) := by decide +kernel
theorem dL_law_676 : decode cL_law 676 = .ok (.iconst 2, 1) := by decide +kernel
theorem dL_law_677 : decode cL_law 677 = .ok (.iadd, 1) := by decide +kernel
theorem dL_law_678 : decode cL_law 678 = .ok (.iaload, 1) := by decide +kernel
theorem dL_law_679 : decode cL_law 679 = .ok (.invokevirtual 81, 3) := by decide +kernel
theorem dL_law_682 : decode cL_law 682 = .ok (.aload_n 2, 1) := by decide +kernel
theorem dL_law_683 : decode cL_law 683 = .ok (.aload_n 0, 1) := by decide +kernel
theorem dL_law_684 : decode cL_law 684 = .ok (.iload_n 3, 1) := by decide +kernel
theorem dL_law_685 : decode cL_law 685 = .ok (.iconst 1, 1) := by decide +kernel
theorem dL_law_686 : decode cL_law 686 = .ok (.iadd, 1) := by decide +kernel
theorem dL_law_687 : decode cL_law 687 = .ok (.iaload, 1) := by decide +kernel
theorem dL_law_688 : decode cL_law 688 = .ok (.aload_n 0, 1) := by decide +kernel
theorem dL_law_689 : decode cL_law 689 = .ok (.iload_n 3, 1) := by decide +kernel
theorem dL_law_690 : decode cL_law 690 = .ok (.iconst 2, 1) := by decide +kernel
theorem dL_law_691 : decode cL_law 691 = .ok (.iadd, 1) := by decide +kernel
theorem dL_law_692 : decode cL_law 692 = .ok (.iaload, 1) := by decide +kernel
theorem dL_law_693 : decode cL_law 693 = .ok (.invokevirtual 84, 3) := by decide +kernel
theorem dL_law_696 : decode cL_law 696 = .ok (.if_icmp .eq 875, 3) := by decide +kernel
theorem dL_law_699 : decode cL_law 699 = .ok (.iconst 0, 1) := by decide +kernel
theorem dL_law_700 : decode cL_law 700 = .ok (.ireturn, 1) := by decide +kernel
theorem dL_law_701 : decode cL_law 701 = .ok (.aload_n 1, 1) := by decide +kernel
theorem dL_law_702 : decode cL_law 702 = .ok (.aload_n 0, 1) := by decide +kernel
theorem dL_law_703 : decode cL_law 703 = .ok (.iload_n 3, 1) := by decide +kernel
theorem dL_law_704 : decode cL_law 704 = .ok (.iconst 1, 1) := by decide +kernel
theorem dL_law_705 : decode cL_law 705 = .ok (.iadd, 1) := by decide +kernel
theorem dL_law_706 : decode cL_law 706 = .ok (.iaload, 1) := by decide +kernel
theorem dL_law_707 : decode cL_law 707 = .ok (.aload_n 0, 1) := by decide +kernel
theorem dL_law_708 : decode cL_law 708 = .ok (.iload_n 3, 1) := by decide +kernel
theorem dL_law_709 : decode cL_law 709 = .ok (.iconst 2, 1) := by decide +kernel
theorem dL_law_710 : decode cL_law 710 = .ok (.iadd, 1) := by decide +kernel
theorem dL_law_711 : decode cL_law 711 = .ok (.iaload, 1) := by decide +kernel
theorem dL_law_712 : decode cL_law 712 = .ok (.aload_n 0, 1) := by decide +kernel
theorem dL_law_713 : decode cL_law 713 = .ok (.iload_n 3, 1) := by decide +kernel
theorem dL_law_714 : decode cL_law 714 = .ok (.iconst 3, 1) := by decide +kernel
theorem dL_law_715 : decode cL_law 715 = .ok (.iadd, 1) := by decide +kernel
theorem dL_law_716 : decode cL_law 716 = .ok (.iaload, 1) := by decide +kernel
theorem dL_law_717 : decode cL_law 717 = .ok (.invokevirtual 85, 3) := by decide +kernel
theorem dL_law_720 : decode cL_law 720 = .ok (.aload_n 2, 1) := by decide +kernel
theorem dL_law_721 : decode cL_law 721 = .ok (.aload_n 0, 1) := by decide +kernel
theorem dL_law_722 : decode cL_law 722 = .ok (.iload_n 3, 1) := by decide +kernel
theorem dL_law_723 : decode cL_law 723 = .ok (.iconst 1, 1) := by decide +kernel
theorem dL_law_724 : decode cL_law 724 = .ok (.iadd, 1) := by decide +kernel
theorem dL_law_725 : decode cL_law 725 = .ok (.iaload, 1) := by decide +kernel
theorem dL_law_726 : decode cL_law 726 = .ok (.aload_n 0, 1) := by decide +kernel
theorem dL_law_727 : decode cL_law 727 = .ok (.iload_n 3, 1) := by decide +kernel
theorem dL_law_728 : decode cL_law 728 = .ok (.iconst 2, 1) := by decide +kernel
theorem dL_law_729 : decode cL_law 729 = .ok (.iadd, 1) := by decide +kernel
theorem dL_law_730 : decode cL_law 730 = .ok (.iaload, 1) := by decide +kernel
theorem dL_law_731 : decode cL_law 731 = .ok (.aload_n 0, 1) := by decide +kernel
theorem dL_law_732 : decode cL_law 732 = .ok (.iload_n 3, 1) := by decide +kernel
theorem dL_law_733 : decode cL_law 733 = .ok (.iconst 3, 1) := by decide +kernel
theorem dL_law_734 : decode cL_law 734 = .ok (.iadd, 1) := by decide +kernel
theorem dL_law_735 : decode cL_law 735 = .ok (.iaload, 1) := by decide +kernel
theorem dL_law_736 : decode cL_law 736 = .ok (.invokevirtual 88, 3) := by decide +kernel
theorem dL_law_739 : decode cL_law 739 = .ok (.if_icmp .eq 832, 3) := by decide +kernel
theorem dL_law_742 : decode cL_law 742 = .ok (.iconst 0, 1) := by decide +kernel
theorem dL_law_743 : decode cL_law 743 = .ok (.ireturn, 1) := by decide +kernel
theorem dL_law_744 : decode cL_law 744 = .ok (.aload_n 1, 1) := by decide +kernel
theorem dL_law_745 : decode cL_law 745 = .ok (.aload_n 0, 1) := by decide +kernel
theorem dL_law_746 : decode cL_law 746 = .ok (.iload_n 3, 1) := by decide +kernel
theorem dL_law_747 : decode cL_law 747 = .ok (.iconst 1, 1) := by decide +kernel
theorem dL_law_748 : decode cL_law 748 = .ok (.iadd, 1) := by decide +kernel
theorem dL_law_749 : decode cL_law 749 = .ok (.iaload, 1) := by decide +kernel
theorem dL_law_750 : decode cL_law 750 = .ok (.aload_n 0, 1) := by decide +kernel
theorem dL_law_751 : decode cL_law 751 = .ok (.iload_n 3, 1) := by decide +kernel
theorem dL_law_752 : decode cL_law 752 = .ok (.iconst 2, 1) := by decide +kernel
theorem dL_law_753 : decode cL_law 753 = .ok (.iadd, 1) := by decide +kernel
theorem dL_law_754 : decode cL_law 754 = .ok (.iaload, 1) := by decide +kernel
theorem dL_law_755 : decode cL_law 755 = .ok (.invokevirtual 89, 3) := by decide +kernel
theorem dL_law_758 : decode cL_law 758 = .ok (.aload_n 2, 1) := by decide +kernel
theorem dL_law_759 : decode cL_law 759 = .ok (.aload_n 0, 1) := by decide +kernel
theorem dL_law_760 : decode cL_law 760 = .ok (.iload_n 3, 1) := by decide +kernel
theorem dL_law_761 : decode cL_law 761 = .ok (.iconst 1, 1) := by decide +kernel
theorem dL_law_762 : decode cL_law 762 = .ok (.iadd, 1) := by decide +kernel
theorem dL_law_763 : decode cL_law 763 = .ok (.iaload, 1) := by decide +kernel
theorem dL_law_764 : decode cL_law 764 = .ok (.aload_n 0, 1) := by decide +kernel
theorem dL_law_765 : decode cL_law 765 = .ok (.iload_n 3, 1) := by decide +kernel
theorem dL_law_766 : decode cL_law 766 = .ok (.iconst 2, 1) := by decide +kernel
theorem dL_law_767 : decode cL_law 767 = .ok (.iadd, 1) := by decide +kernel
theorem dL_law_768 : decode cL_law 768 = .ok (.iaload, 1) := by decide +kernel
theorem dL_law_769 : decode cL_law 769 = .ok (.invokevirtual 92, 3) := by decide +kernel
theorem dL_law_772 : decode cL_law 772 = .ok (.if_icmp .eq 799, 3) := by decide +kernel
theorem dL_law_775 : decode cL_law 775 = .ok (.iconst 0, 1) := by decide +kernel
theorem dL_law_776 : decode cL_law 776 = .ok (.ireturn, 1) := by decide +kernel
theorem dL_law_777 : decode cL_law 777 = .ok (.aload_n 1, 1) := by decide +kernel
theorem dL_law_778 : decode cL_law 778 = .ok (.aload_n 0, 1) := by decide +kernel
theorem dL_law_779 : decode cL_law 779 = .ok (.iload_n 3, 1) := by decide +kernel
theorem dL_law_780 : decode cL_law 780 = .ok (.iconst 1, 1) := by decide +kernel
theorem dL_law_781 : decode cL_law 781 = .ok (.iadd, 1) := by decide +kernel
theorem dL_law_782 : decode cL_law 782 = .ok (.iaload, 1) := by decide +kernel
theorem dL_law_783 : decode cL_law 783 = .ok (.invokevirtual 93, 3) := by decide +kernel
theorem dL_law_786 : decode cL_law 786 = .ok (.aload_n 2, 1) := by decide +kernel
theorem dL_law_787 : decode cL_law 787 = .ok (.aload_n 0, 1) := by decide +kernel
theorem dL_law_788 : decode cL_law 788 = .ok (.iload_n 3, 1) := by decide +kernel
theorem dL_law_789 : decode cL_law 789 = .ok (.iconst 1, 1) := by decide +kernel
theorem dL_law_790 : decode cL_law 790 = .ok (.iadd, 1) := by decide +kernel
theorem dL_law_791 : decode cL_law 791 = .ok (.iaload, 1) := by decide +kernel
theorem dL_law_792 : decode cL_law 792 = .ok (.invokevirtual 96, 3) := by decide +kernel
theorem dL_law_795 : decode cL_law 795 = .ok (.if_icmp .eq 776, 3) := by decide +kernel
theorem dL_law_798 : decode cL_law 798 = .ok (.iconst 0, 1) := by decide +kernel
theorem dL_law_799 : decode cL_law 799 = .ok (.ireturn, 1) := by decide +kernel
theorem dL_law_800 : decode cL_law 800 = .ok (.aload_n 1, 1) := by decide +kernel
theorem dL_law_801 : decode cL_law 801 = .ok (.aload_n 0, 1) := by decide +kernel
theorem dL_law_802 : decode cL_law 802 = .ok (.iload_n 3, 1) := by decide +kernel
theorem dL_law_803 : decode cL_law 803 = .ok (.iconst 1, 1) := by decide +kernel
theorem dL_law_804 : decode cL_law 804 = .ok (.iadd, 1) := by decide +kernel
theorem dL_law_805 : decode cL_law 805 = .ok (.iaload, 1) := by decide +kernel
theorem dL_law_806 : decode cL_law 806 = .ok (.aload_n 0, 1) := by decide +kernel
theorem dL_law_807 : decode cL_law 807 = .ok (.iload_n 3, 1) := by decide +kernel
theorem dL_law_808 : decode cL_law 808 = .ok (.iconst 2, 1) := by decide +kernel
theorem dL_law_809 : decode cL_law 809 = .ok (.iadd, 1) := by decide +kernel
theorem dL_law_810 : decode cL_law 810 = .ok (.iaload, 1) := by decide +kernel
theorem dL_law_811 : decode cL_law 811 = .ok (.invokevirtual 97, 3) := by decide +kernel
theorem dL_law_814 : decode cL_law 814 = .ok (.aload_n 2, 1) := by decide +kernel
theorem dL_law_815 : decode cL_law 815 = .ok (.aload_n 0, 1) := by decide +kernel
theorem dL_law_816 : decode cL_law 816 = .ok (.iload_n 3, 1) := by decide +kernel
theorem dL_law_817 : decode cL_law 817 = .ok (.iconst 1, 1) := by decide +kernel
theorem dL_law_818 : decode cL_law 818 = .ok (.iadd, 1) := by decide +kernel
theorem dL_law_819 : decode cL_law 819 = .ok (.iaload, 1) := by decide +kernel
theorem dL_law_820 : decode cL_law 820 = .ok (.aload_n 0, 1) := by decide +kernel
theorem dL_law_821 : decode cL_law 821 = .ok (.iload_n 3, 1) := by decide +kernel
theorem dL_law_822 : decode cL_law 822 = .ok (.iconst 2, 1) := by decide +kernel
theorem dL_law_823 : decode cL_law 823 = .ok (.iadd, 1) := by decide +kernel
theorem dL_law_824 : decode cL_law 824 = .ok (.iaload, 1) := by decide +kernel
theorem dL_law_825 : decode cL_law 825 = .ok (.invokevirtual 100, 3) := by decide +kernel
theorem dL_law_828 : decode cL_law 828 = .ok (.if_icmp .eq 743, 3) := by decide +kernel
theorem dL_law_831 : decode cL_law 831 = .ok (.iconst 0, 1) := by decide +kernel
theorem dL_law_832 : decode cL_law 832 = .ok (.ireturn, 1) := by decide +kernel
theorem dL_law_833 : decode cL_law 833 = .ok (.aload_n 1, 1) := by decide +kernel
theorem dL_law_834 : decode cL_law 834 = .ok (.aload_n 0, 1) := by decide +kernel
theorem dL_law_835 : decode cL_law 835 = .ok (.iload_n 3, 1) := by decide +kernel
theorem dL_law_836 : decode cL_law 836 = .ok (.iconst 1, 1) := by decide +kernel
theorem dL_law_837 : decode cL_law 837 = .ok (.iadd, 1) := by decide +kernel
theorem dL_law_838 : decode cL_law 838 = .ok (.iaload, 1) := by decide +kernel
theorem dL_law_839 : decode cL_law 839 = .ok (.aload_n 0, 1) := by decide +kernel
theorem dL_law_840 : decode cL_law 840 = .ok (.iload_n 3, 1) := by decide +kernel
theorem dL_law_841 : decode cL_law 841 = .ok (.iconst 2, 1) := by decide +kernel
theorem dL_law_842 : decode cL_law 842 = .ok (.iadd, 1) := by decide +kernel
theorem dL_law_843 : decode cL_law 843 = .ok (.iaload, 1) := by decide +kernel
theorem dL_law_844 : decode cL_law 844 = .ok (.invokevirtual 101, 3) := by decide +kernel
theorem dL_law_847 : decode cL_law 847 = .ok (.aload_n 2, 1) := by decide +kernel
theorem dL_law_848 : decode cL_law 848 = .ok (.aload_n 0, 1) := by decide +kernel
theorem dL_law_849 : decode cL_law 849 = .ok (.iload_n 3, 1) := by decide +kernel
theorem dL_law_850 : decode cL_law 850 = .ok (.iconst 1, 1) := by decide +kernel
theorem dL_law_851 : decode cL_law 851 = .ok (.iadd, 1) := by decide +kernel
theorem dL_law_852 : decode cL_law 852 = .ok (.iaload, 1) := by decide +kernel
theorem dL_law_853 : decode cL_law 853 = .ok (.aload_n 0, 1) := by decide +kernel
theorem dL_law_854 : decode cL_law 854 = .ok (.iload_n 3, 1) := by decide +kernel
theorem dL_law_855 : decode cL_law 855 = .ok (.iconst 2, 1) := by decide +kernel
theorem dL_law_856 : decode cL_law 856 = .ok (.iadd, 1) := by decide +kernel
theorem dL_law_857 : decode cL_law 857 = .ok (.iaload, 1) := by decide +kernel
theorem dL_law_858 : decode cL_law 858 = .ok (.invokevirtual 104, 3) := by decide +kernel
theorem dL_law_861 : decode cL_law 861 = .ok (.if_icmp .eq 710, 3) := by decide +kernel
theorem dL_law_864 : decode cL_law 864 = .ok (.iconst 0, 1) := by decide +kernel
theorem dL_law_865 : decode cL_law 865 = .ok (.ireturn, 1) := by decide +kernel
theorem dL_law_866 : decode cL_law 866 = .ok (.aload_n 1, 1) := by decide +kernel
theorem dL_law_867 : decode cL_law 867 = .ok (.aload_n 0, 1) := by decide +kernel
theorem dL_law_868 : decode cL_law 868 = .ok (.iload_n 3, 1) := by decide +kernel
theorem dL_law_869 : decode cL_law 869 = .ok (.iconst 1, 1) := by decide +kernel
theorem dL_law_870 : decode cL_law 870 = .ok (.iadd, 1) := by decide +kernel
theorem dL_law_871 : decode cL_law 871 = .ok (.iaload, 1) := by decide +kernel
theorem dL_law_872 : decode cL_law 872 = .ok (.aload_n 0, 1) := by decide +kernel
theorem dL_law_873 : decode cL_law 873 = .ok (.iload_n 3, 1) := by decide +kernel
theorem dL_law_874 : decode cL_law 874 = .ok (.iconst 2, 1) := by decide +kernel
theorem dL_law_875 : decode cL_law 875 = .ok (.iadd, 1) := by decide +kernel
theorem dL_law_876 : decode cL_law 876 = .ok (.iaload, 1) := by decide +kernel
theorem dL_law_877 : decode cL_law 877 = .ok (.invokevirtual 105, 3) := by decide +kernel
theorem dL_law_880 : decode cL_law 880 = .ok (.aload_n 2, 1) := by decide +kernel
theorem dL_law_881 : decode cL_law 881 = .ok (.aload_n 0, 1) := by decide +kernel
theorem dL_law_882 : decode cL_law 882 = .ok (.iload_n 3, 1) := by decide +kernel
theorem dL_law_883 : decode cL_law 883 = .ok (.iconst 1, 1) := by decide +kernel
theorem dL_law_884 : decode cL_law 884 = .ok (.iadd, 1) := by decide +kernel
theorem dL_law_885 : decode cL_law 885 = .ok (.iaload, 1) := by decide +kernel
theorem dL_law_886 : decode cL_law 886 = .ok (.aload_n 0, 1) := by decide +kernel
theorem dL_law_887 : decode cL_law 887 = .ok (.iload_n 3, 1) := by decide +kernel
theorem dL_law_888 : decode cL_law 888 = .ok (.iconst 2, 1) := by decide +kernel
theorem dL_law_889 : decode cL_law 889 = .ok (.iadd, 1) := by decide +kernel
theorem dL_law_890 : decode cL_law 890 = .ok (.iaload, 1) := by decide +kernel
theorem dL_law_891 : decode cL_law 891 = .ok (.invokevirtual 108, 3) := by decide +kernel
theorem dL_law_894 : decode cL_law 894 = .ok (.if_icmp .eq 677, 3) := by decide +kernel
theorem dL_law_897 : decode cL_law 897 = .ok (.iconst 0, 1) := by decide +kernel
theorem dL_law_898 : decode cL_law 898 = .ok (.ireturn, 1) := by decide +kernel
theorem dL_law_899 : decode cL_law 899 = .ok (.aload_n 1, 1) := by decide +kernel
theorem dL_law_900 : decode cL_law 900 = .ok (.aload_n 0, 1) := by decide +kernel
theorem dL_law_901 : decode cL_law 901 = .ok (.iload_n 3, 1) := by decide +kernel
theorem dL_law_902 : decode cL_law 902 = .ok (.iconst 1, 1) := by decide +kernel
theorem dL_law_903 : decode cL_law 903 = .ok (.iadd, 1) := by decide +kernel
theorem dL_law_904 : decode cL_law 904 = .ok (.iaload, 1) := by decide +kernel
theorem dL_law_905 : decode cL_law 905 = .ok (.aload_n 0, 1) := by decide +kernel
theorem dL_law_906 : decode cL_law 906 = .ok (.iload_n 3, 1) := by decide +kernel
theorem dL_law_907 : decode cL_law 907 = .ok (.iconst 2, 1) := by decide +kernel
theorem dL_law_908 : decode cL_law 908 = .ok (.iadd, 1) := by decide +kernel
theorem dL_law_909 : decode cL_law 909 = .ok (.iaload, 1) := by decide +kernel
theorem dL_law_910 : decode cL_law 910 = .ok (.invokevirtual 109, 3) := by decide +kernel
theorem dL_law_913 : decode cL_law 913 = .ok (.aload_n 2, 1) := by decide +kernel
theorem dL_law_914 : decode cL_law 914 = .ok (.aload_n 0, 1) := by decide +kernel
theorem dL_law_915 : decode cL_law 915 = .ok (.iload_n 3, 1) := by decide +kernel
theorem dL_law_916 : decode cL_law 916 = .ok (.iconst 1, 1) := by decide +kernel
theorem dL_law_917 : decode cL_law 917 = .ok (.iadd, 1) := by decide +kernel
theorem dL_law_918 : decode cL_law 918 = .ok (.iaload, 1) := by decide +kernel
theorem dL_law_919 : decode cL_law 919 = .ok (.aload_n 0, 1) := by decide +kernel
theorem dL_law_920 : decode cL_law 920 = .ok (.iload_n 3, 1) := by decide +kernel
theorem dL_law_921 : decode cL_law 921 = .ok (.iconst 2, 1) := by decide +kernel
theorem dL_law_922 : decode cL_law 922 = .ok (.iadd, 1) := by decide +kernel
theorem dL_law_923 : decode cL_law 923 = .ok (.iaload, 1) := by decide +kernel
theorem dL_law_924 : decode cL_law 924 = .ok (.invokevirtual 112, 3) := by decide +kernel
theorem dL_law_927 : decode cL_law 927 = .ok (.if_icmp .eq 644, 3) := by decide +kernel
theorem dL_law_930 : decode cL_law 930 = .ok (.iconst 0, 1) := by decide +kernel
theorem dL_law_931 : decode cL_law 931 = .ok (.ireturn, 1) := by decide +kernel
theorem dL_law_932 : decode cL_law 932 = .ok (.aload_n 1, 1) := by decide +kernel
theorem dL_law_933 : decode cL_law 933 = .ok (.aload_n 0, 1) := by decide +kernel
theorem dL_law_934 : decode cL_law 934 = .ok (.iload_n 3, 1) := by decide +kernel
theorem dL_law_935 : decode cL_law 935 = .ok (.iconst 1, 1) := by decide +kernel
theorem dL_law_936 : decode cL_law 936 = .ok (.iadd, 1) := by decide +kernel
theorem dL_law_937 : decode cL_law 937 = .ok (.iaload, 1) := by decide +kernel
theorem dL_law_938 : decode cL_law 938 = .ok (.aload_n 0, 1) := by decide +kernel
theorem dL_law_939 : decode cL_law 939 = .ok (.iload_n 3, 1) := by decide +kernel
theorem dL_law_940 : decode cL_law 940 = .ok (.iconst 2, 1) := by decide +kernel
theorem dL_law_941 : decode cL_law 941 = .ok (.iadd, 1) := by decide +kernel
theorem dL_law_942 : decode cL_law 942 = .ok (.iaload, 1) := by decide +kernel
theorem dL_law_943 : decode cL_law 943 = .ok (.invokevirtual 113, 3) := by decide +kernel
theorem dL_law_946 : decode cL_law 946 = .ok (.aload_n 2, 1) := by decide +kernel
theorem dL_law_947 : decode cL_law 947 = .ok (.aload_n 0, 1) := by decide +kernel
theorem dL_law_948 : decode cL_law 948 = .ok (.iload_n 3, 1) := by decide +kernel
theorem dL_law_949 : decode cL_law 949 = .ok (.iconst 1, 1) := by decide +kernel
theorem dL_law_950 : decode cL_law 950 = .ok (.iadd, 1) := by decide +kernel
theorem dL_law_951 : decode cL_law 951 = .ok (.iaload, 1) := by decide +kernel
theorem dL_law_952 : decode cL_law 952 = .ok (.aload_n 0, 1) := by decide +kernel
theorem dL_law_953 : decode cL_law 953 = .ok (.iload_n 3, 1) := by decide +kernel
theorem dL_law_954 : decode cL_law 954 = .ok (.iconst 2, 1) := by decide +kernel
theorem dL_law_955 : decode cL_law 955 = .ok (.iadd, 1) := by decide +kernel
theorem dL_law_956 : decode cL_law 956 = .ok (.iaload, 1) := by decide +kernel
theorem dL_law_957 : decode cL_law 957 = .ok (.invokevirtual 116, 3) := by decide +kernel
theorem dL_law_960 : decode cL_law 960 = .ok (.if_icmp .eq 611, 3) := by decide +kernel
theorem dL_law_963 : decode cL_law 963 = .ok (.iconst 0, 1) := by decide +kernel
theorem dL_law_964 : decode cL_law 964 = .ok (.ireturn, 1) := by decide +kernel
theorem dL_law_965 : decode cL_law 965 = .ok (.aload_n 1, 1) := by decide +kernel
theorem dL_law_966 : decode cL_law 966 = .ok (.aload_n 0, 1) := by decide +kernel
theorem dL_law_967 : decode cL_law 967 = .ok (.iload_n 3, 1) := by decide +kernel
theorem dL_law_968 : decode cL_law 968 = .ok (.iconst 1, 1) := by decide +kernel
theorem dL_law_969 : decode cL_law 969 = .ok (.iadd, 1) := by decide +kernel
theorem dL_law_970 : decode cL_law 970 = .ok (.iaload, 1) := by decide +kernel
theorem dL_law_971 : decode cL_law 971 = .ok (.aload_n 0, 1) := by decide +kernel
theorem dL_law_972 : decode cL_law 972 = .ok (.iload_n 3, 1) := by decide +kernel
theorem dL_law_973 : decode cL_law 973 = .ok (.iconst 2, 1) := by decide +kernel
theorem dL_law_974 : decode cL_law 974 = .ok (.iadd, 1) := by decide +kernel
theorem dL_law_975 : decode cL_law 975 = .ok (.iaload, 1) := by decide +kernel
theorem dL_law_976 : decode cL_law 976 = .ok (.invokevirtual 117, 3) := by decide +kernel
theorem dL_law_979 : decode cL_law 979 = .ok (.aload_n 2, 1) := by decide +kernel
theorem dL_law_980 : decode cL_law 980 = .ok (.aload_n 0, 1) := by decide +kernel
theorem dL_law_981 : decode cL_law 981 = .ok (.iload_n 3, 1) := by decide +kernel
theorem dL_law_982 : decode cL_law 982 = .ok (.iconst 1, 1) := by decide +kernel
theorem dL_law_983 : decode cL_law 983 = .ok (.iadd, 1) := by decide +kernel
theorem dL_law_984 : decode cL_law 984 = .ok (.iaload, 1) := by decide +kernel
theorem dL_law_985 : decode cL_law 985 = .ok (.aload_n 0, 1) := by decide +kernel
theorem dL_law_986 : decode cL_law 986 = .ok (.iload_n 3, 1) := by decide +kernel
theorem dL_law_987 : decode cL_law 987 = .ok (.iconst 2, 1) := by decide +kernel
theorem dL_law_988 : decode cL_law 988 = .ok (.iadd, 1) := by decide +kernel
theorem dL_law_989 : decode cL_law 989 = .ok (.iaload, 1) := by decide +kernel
theorem dL_law_990 : decode cL_law 990 = .ok (.invokevirtual 120, 3) := by decide +kernel
theorem dL_law_993 : decode cL_law 993 = .ok (.if_icmp .eq 578, 3) := by decide +kernel
theorem dL_law_996 : decode cL_law 996 = .ok (.iconst 0, 1) := by decide +kernel
theorem dL_law_997 : decode cL_law 997 = .ok (.ireturn, 1) := by decide +kernel
theorem dL_law_998 : decode cL_law 998 = .ok (.aload_n 1, 1) := by decide +kernel
theorem dL_law_999 : decode cL_law 999 = .ok (.aload_n 0, 1) := by decide +kernel
theorem dL_law_1000 : decode cL_law 1000 = .ok (.iload_n 3, 1) := by decide +kernel
theorem dL_law_1001 : decode cL_law 1001 = .ok (.iconst 1, 1) := by decide +kernel
theorem dL_law_1002 : decode cL_law 1002 = .ok (.iadd, 1) := by decide +kernel
theorem dL_law_1003 : decode cL_law 1003 = .ok (.iaload, 1) := by decide +kernel
theorem dL_law_1004 : decode cL_law 1004 = .ok (.invokevirtual 121, 3) := by decide +kernel
theorem dL_law_1007 : decode cL_law 1007 = .ok (.aload_n 2, 1) := by decide +kernel
theorem dL_law_1008 : decode cL_law 1008 = .ok (.aload_n 0, 1) := by decide +kernel
theorem dL_law_1009 : decode cL_law 1009 = .ok (.iload_n 3, 1) := by decide +kernel
theorem dL_law_1010 : decode cL_law 1010 = .ok (.iconst 1, 1) := by decide +kernel
theorem dL_law_1011 : decode cL_law 1011 = .ok (.iadd, 1) := by decide +kernel
theorem dL_law_1012 : decode cL_law 1012 = .ok (.iaload, 1) := by decide +kernel
theorem dL_law_1013 : decode cL_law 1013 = .ok (.invokevirtual 124, 3) := by decide +kernel
theorem dL_law_1016 : decode cL_law 1016 = .ok (.if_icmp .eq 555, 3) := by decide +kernel
theorem dL_law_1019 : decode cL_law 1019 = .ok (.iconst 0, 1) := by decide +kernel
theorem dL_law_1020 : decode cL_law 1020 = .ok (.ireturn, 1) := by decide +kernel
theorem dL_law_1021 : decode cL_law 1021 = .ok (.aload_n 1, 1) := by decide +kernel
theorem dL_law_1022 : decode cL_law 1022 = .ok (.aload_n 0, 1) := by decide +kernel
theorem dL_law_1023 : decode cL_law 1023 = .ok (.iload_n 3, 1) := by decide +kernel
theorem dL_law_1024 : decode cL_law 1024 = .ok (.iconst 1, 1) := by decide +kernel
theorem dL_law_1025 : decode cL_law 1025 = .ok (.iadd, 1) := by decide +kernel
theorem dL_law_1026 : decode cL_law 1026 = .ok (.iaload, 1) := by decide +kernel
theorem dL_law_1027 : decode cL_law 1027 = .ok (.aload_n 0, 1) := by decide +kernel
theorem dL_law_1028 : decode cL_law 1028 = .ok (.iload_n 3, 1) := by decide +kernel
theorem dL_law_1029 : decode cL_law 1029 = .ok (.iconst 2, 1) := by decide +kernel
theorem dL_law_1030 : decode cL_law 1030 = .ok (.iadd, 1) := by decide +kernel
theorem dL_law_1031 : decode cL_law 1031 = .ok (.iaload, 1) := by decide +kernel
theorem dL_law_1032 : decode cL_law 1032 = .ok (.aload_n 0, 1) := by decide +kernel
theorem dL_law_1033 : decode cL_law 1033 = .ok (.iload_n 3, 1) := by decide +kernel
theorem dL_law_1034 : decode cL_law 1034 = .ok (.iconst 3, 1) := by decide +kernel
theorem dL_law_1035 : decode cL_law 1035 = .ok (.iadd, 1) := by decide +kernel
theorem dL_law_1036 : decode cL_law 1036 = .ok (.iaload, 1) := by decide +kernel
theorem dL_law_1037 : decode cL_law 1037 = .ok (.invokevirtual 125, 3) := by decide +kernel
theorem dL_law_1040 : decode cL_law 1040 = .ok (.aload_n 2, 1) := by decide +kernel
theorem dL_law_1041 : decode cL_law 1041 = .ok (.aload_n 0, 1) := by decide +kernel
theorem dL_law_1042 : decode cL_law 1042 = .ok (.iload_n 3, 1) := by decide +kernel
theorem dL_law_1043 : decode cL_law 1043 = .ok (.iconst 1, 1) := by decide +kernel
theorem dL_law_1044 : decode cL_law 1044 = .ok (.iadd, 1) := by decide +kernel
theorem dL_law_1045 : decode cL_law 1045 = .ok (.iaload, 1) := by decide +kernel
theorem dL_law_1046 : decode cL_law 1046 = .ok (.aload_n 0, 1) := by decide +kernel
theorem dL_law_1047 : decode cL_law 1047 = .ok (.iload_n 3, 1) := by decide +kernel
theorem dL_law_1048 : decode cL_law 1048 = .ok (.iconst 2, 1) := by decide +kernel
theorem dL_law_1049 : decode cL_law 1049 = .ok (.iadd, 1) := by decide +kernel
theorem dL_law_1050 : decode cL_law 1050 = .ok (.iaload, 1) := by decide +kernel
theorem dL_law_1051 : decode cL_law 1051 = .ok (.aload_n 0, 1) := by decide +kernel
theorem dL_law_1052 : decode cL_law 1052 = .ok (.iload_n 3, 1) := by decide +kernel
theorem dL_law_1053 : decode cL_law 1053 = .ok (.iconst 3, 1) := by decide +kernel
theorem dL_law_1054 : decode cL_law 1054 = .ok (.iadd, 1) := by decide +kernel
theorem dL_law_1055 : decode cL_law 1055 = .ok (.iaload, 1) := by decide +kernel
theorem dL_law_1056 : decode cL_law 1056 = .ok (.invokevirtual 128, 3) := by decide +kernel
theorem dL_law_1059 : decode cL_law 1059 = .ok (.if_icmp .eq 512, 3) := by decide +kernel
theorem dL_law_1062 : decode cL_law 1062 = .ok (.iconst 0, 1) := by decide +kernel
theorem dL_law_1063 : decode cL_law 1063 = .ok (.ireturn, 1) := by decide +kernel
theorem dL_law_1064 : decode cL_law 1064 = .ok (.aload_n 1, 1) := by decide +kernel
theorem dL_law_1065 : decode cL_law 1065 = .ok (.aload_n 0, 1) := by decide +kernel
theorem dL_law_1066 : decode cL_law 1066 = .ok (.iload_n 3, 1) := by decide +kernel
theorem dL_law_1067 : decode cL_law 1067 = .ok (.iconst 1, 1) := by decide +kernel
theorem dL_law_1068 : decode cL_law 1068 = .ok (.iadd, 1) := by decide +kernel
theorem dL_law_1069 : decode cL_law 1069 = .ok (.iaload, 1) := by decide +kernel
theorem dL_law_1070 : decode cL_law 1070 = .ok (.aload_n 0, 1) := by decide +kernel
theorem dL_law_1071 : decode cL_law 1071 = .ok (.iload_n 3, 1) := by decide +kernel
theorem dL_law_1072 : decode cL_law 1072 = .ok (.iconst 2, 1) := by decide +kernel
theorem dL_law_1073 : decode cL_law 1073 = .ok (.iadd, 1) := by decide +kernel
theorem dL_law_1074 : decode cL_law 1074 = .ok (.iaload, 1) := by decide +kernel
theorem dL_law_1075 : decode cL_law 1075 = .ok (.aload_n 0, 1) := by decide +kernel
theorem dL_law_1076 : decode cL_law 1076 = .ok (.iload_n 3, 1) := by decide +kernel
theorem dL_law_1077 : decode cL_law 1077 = .ok (.iconst 3, 1) := by decide +kernel
theorem dL_law_1078 : decode cL_law 1078 = .ok (.iadd, 1) := by decide +kernel
theorem dL_law_1079 : decode cL_law 1079 = .ok (.iaload, 1) := by decide +kernel
theorem dL_law_1080 : decode cL_law 1080 = .ok (.aload_n 0, 1) := by decide +kernel
theorem dL_law_1081 : decode cL_law 1081 = .ok (.iload_n 3, 1) := by decide +kernel
theorem dL_law_1082 : decode cL_law 1082 = .ok (.iconst 4, 1) := by decide +kernel
theorem dL_law_1083 : decode cL_law 1083 = .ok (.iadd, 1) := by decide +kernel
theorem dL_law_1084 : decode cL_law 1084 = .ok (.iaload, 1) := by decide +kernel
theorem dL_law_1085 : decode cL_law 1085 = .ok (.invokevirtual 129, 3) := by decide +kernel
theorem dL_law_1088 : decode cL_law 1088 = .ok (.aload_n 2, 1) := by decide +kernel
theorem dL_law_1089 : decode cL_law 1089 = .ok (.aload_n 0, 1) := by decide +kernel
theorem dL_law_1090 : decode cL_law 1090 = .ok (.iload_n 3, 1) := by decide +kernel
theorem dL_law_1091 : decode cL_law 1091 = .ok (.iconst 1, 1) := by decide +kernel
theorem dL_law_1092 : decode cL_law 1092 = .ok (.iadd, 1) := by decide +kernel
theorem dL_law_1093 : decode cL_law 1093 = .ok (.iaload, 1) := by decide +kernel
theorem dL_law_1094 : decode cL_law 1094 = .ok (.aload_n 0, 1) := by decide +kernel
theorem dL_law_1095 : decode cL_law 1095 = .ok (.iload_n 3, 1) := by decide +kernel
theorem dL_law_1096 : decode cL_law 1096 = .ok (.iconst 2, 1) := by decide +kernel
theorem dL_law_1097 : decode cL_law 1097 = .ok (.iadd, 1) := by decide +kernel
theorem dL_law_1098 : decode cL_law 1098 = .ok (.iaload, 1) := by decide +kernel
theorem dL_law_1099 : decode cL_law 1099 = .ok (.aload_n 0, 1) := by decide +kernel
theorem dL_law_1100 : decode cL_law 1100 = .ok (.iload_n 3, 1) := by decide +kernel
theorem dL_law_1101 : decode cL_law 1101 = .ok (.iconst 3, 1) := by decide +kernel
theorem dL_law_1102 : decode cL_law 1102 = .ok (.iadd, 1) := by decide +kernel
theorem dL_law_1103 : decode cL_law 1103 = .ok (.iaload, 1) := by decide +kernel
theorem dL_law_1104 : decode cL_law 1104 = .ok (.aload_n 0, 1) := by decide +kernel
theorem dL_law_1105 : decode cL_law 1105 = .ok (.iload_n 3, 1) := by decide +kernel
theorem dL_law_1106 : decode cL_law 1106 = .ok (.iconst 4, 1) := by decide +kernel
theorem dL_law_1107 : decode cL_law 1107 = .ok (.iadd, 1) := by decide +kernel
theorem dL_law_1108 : decode cL_law 1108 = .ok (.iaload, 1) := by decide +kernel
theorem dL_law_1109 : decode cL_law 1109 = .ok (.invokevirtual 133, 3) := by decide +kernel
theorem dL_law_1112 : decode cL_law 1112 = .ok (.lcmp, 1) := by decide +kernel
theorem dL_law_1113 : decode cL_law 1113 = .ok (.ifCond .eq 458, 3) := by decide +kernel
theorem dL_law_1116 : decode cL_law 1116 = .ok (.iconst 0, 1) := by decide +kernel
theorem dL_law_1117 : decode cL_law 1117 = .ok (.ireturn, 1) := by decide +kernel
theorem dL_law_1118 : decode cL_law 1118 = .ok (.aload_n 1, 1) := by decide +kernel
theorem dL_law_1119 : decode cL_law 1119 = .ok (.aload_n 0, 1) := by decide +kernel
theorem dL_law_1120 : decode cL_law 1120 = .ok (.iload_n 3, 1) := by decide +kernel
theorem dL_law_1121 : decode cL_law 1121 = .ok (.iconst 1, 1) := by decide +kernel
theorem dL_law_1122 : decode cL_law 1122 = .ok (.iadd, 1) := by decide +kernel
theorem dL_law_1123 : decode cL_law 1123 = .ok (.iaload, 1) := by decide +kernel
theorem dL_law_1124 : decode cL_law 1124 = .ok (.aload_n 0, 1) := by decide +kernel
theorem dL_law_1125 : decode cL_law 1125 = .ok (.iload_n 3, 1) := by decide +kernel
theorem dL_law_1126 : decode cL_law 1126 = .ok (.iconst 2, 1) := by decide +kernel
theorem dL_law_1127 : decode cL_law 1127 = .ok (.iadd, 1) := by decide +kernel
theorem dL_law_1128 : decode cL_law 1128 = .ok (.iaload, 1) := by decide +kernel
theorem dL_law_1129 : decode cL_law 1129 = .ok (.aload_n 0, 1) := by decide +kernel
theorem dL_law_1130 : decode cL_law 1130 = .ok (.iload_n 3, 1) := by decide +kernel
theorem dL_law_1131 : decode cL_law 1131 = .ok (.iconst 3, 1) := by decide +kernel
theorem dL_law_1132 : decode cL_law 1132 = .ok (.iadd, 1) := by decide +kernel
theorem dL_law_1133 : decode cL_law 1133 = .ok (.iaload, 1) := by decide +kernel
theorem dL_law_1134 : decode cL_law 1134 = .ok (.invokevirtual 134, 3) := by decide +kernel
theorem dL_law_1137 : decode cL_law 1137 = .ok (.aload_n 2, 1) := by decide +kernel
theorem dL_law_1138 : decode cL_law 1138 = .ok (.aload_n 0, 1) := by decide +kernel
theorem dL_law_1139 : decode cL_law 1139 = .ok (.iload_n 3, 1) := by decide +kernel
theorem dL_law_1140 : decode cL_law 1140 = .ok (.iconst 1, 1) := by decide +kernel
theorem dL_law_1141 : decode cL_law 1141 = .ok (.iadd, 1) := by decide +kernel
theorem dL_law_1142 : decode cL_law 1142 = .ok (.iaload, 1) := by decide +kernel
theorem dL_law_1143 : decode cL_law 1143 = .ok (.aload_n 0, 1) := by decide +kernel
theorem dL_law_1144 : decode cL_law 1144 = .ok (.iload_n 3, 1) := by decide +kernel
theorem dL_law_1145 : decode cL_law 1145 = .ok (.iconst 2, 1) := by decide +kernel
theorem dL_law_1146 : decode cL_law 1146 = .ok (.iadd, 1) := by decide +kernel
theorem dL_law_1147 : decode cL_law 1147 = .ok (.iaload, 1) := by decide +kernel
theorem dL_law_1148 : decode cL_law 1148 = .ok (.aload_n 0, 1) := by decide +kernel
theorem dL_law_1149 : decode cL_law 1149 = .ok (.iload_n 3, 1) := by decide +kernel
theorem dL_law_1150 : decode cL_law 1150 = .ok (.iconst 3, 1) := by decide +kernel
theorem dL_law_1151 : decode cL_law 1151 = .ok (.iadd, 1) := by decide +kernel
theorem dL_law_1152 : decode cL_law 1152 = .ok (.iaload, 1) := by decide +kernel
theorem dL_law_1153 : decode cL_law 1153 = .ok (.invokevirtual 138, 3) := by decide +kernel
theorem dL_law_1156 : decode cL_law 1156 = .ok (.lcmp, 1) := by decide +kernel
theorem dL_law_1157 : decode cL_law 1157 = .ok (.ifCond .eq 414, 3) := by decide +kernel
theorem dL_law_1160 : decode cL_law 1160 = .ok (.iconst 0, 1) := by decide +kernel
theorem dL_law_1161 : decode cL_law 1161 = .ok (.ireturn, 1) := by decide +kernel
theorem dL_law_1162 : decode cL_law 1162 = .ok (.aload_n 1, 1) := by decide +kernel
theorem dL_law_1163 : decode cL_law 1163 = .ok (.aload_n 0, 1) := by decide +kernel
theorem dL_law_1164 : decode cL_law 1164 = .ok (.iload_n 3, 1) := by decide +kernel
theorem dL_law_1165 : decode cL_law 1165 = .ok (.iconst 1, 1) := by decide +kernel
theorem dL_law_1166 : decode cL_law 1166 = .ok (.iadd, 1) := by decide +kernel
theorem dL_law_1167 : decode cL_law 1167 = .ok (.iaload, 1) := by decide +kernel
theorem dL_law_1168 : decode cL_law 1168 = .ok (.aload_n 0, 1) := by decide +kernel
theorem dL_law_1169 : decode cL_law 1169 = .ok (.iload_n 3, 1) := by decide +kernel
theorem dL_law_1170 : decode cL_law 1170 = .ok (.iconst 2, 1) := by decide +kernel
theorem dL_law_1171 : decode cL_law 1171 = .ok (.iadd, 1) := by decide +kernel
theorem dL_law_1172 : decode cL_law 1172 = .ok (.iaload, 1) := by decide +kernel
theorem dL_law_1173 : decode cL_law 1173 = .ok (.aload_n 0, 1) := by decide +kernel
theorem dL_law_1174 : decode cL_law 1174 = .ok (.iload_n 3, 1) := by decide +kernel
theorem dL_law_1175 : decode cL_law 1175 = .ok (.iconst 3, 1) := by decide +kernel
theorem dL_law_1176 : decode cL_law 1176 = .ok (.iadd, 1) := by decide +kernel
theorem dL_law_1177 : decode cL_law 1177 = .ok (.iaload, 1) := by decide +kernel
theorem dL_law_1178 : decode cL_law 1178 = .ok (.invokevirtual 139, 3) := by decide +kernel
theorem dL_law_1181 : decode cL_law 1181 = .ok (.aload_n 2, 1) := by decide +kernel
theorem dL_law_1182 : decode cL_law 1182 = .ok (.aload_n 0, 1) := by decide +kernel
theorem dL_law_1183 : decode cL_law 1183 = .ok (.iload_n 3, 1) := by decide +kernel
theorem dL_law_1184 : decode cL_law 1184 = .ok (.iconst 1, 1) := by decide +kernel
theorem dL_law_1185 : decode cL_law 1185 = .ok (.iadd, 1) := by decide +kernel
theorem dL_law_1186 : decode cL_law 1186 = .ok (.iaload, 1) := by decide +kernel
theorem dL_law_1187 : decode cL_law 1187 = .ok (.aload_n 0, 1) := by decide +kernel
theorem dL_law_1188 : decode cL_law 1188 = .ok (.iload_n 3, 1) := by decide +kernel
theorem dL_law_1189 : decode cL_law 1189 = .ok (.iconst 2, 1) := by decide +kernel
theorem dL_law_1190 : decode cL_law 1190 = .ok (.iadd, 1) := by decide +kernel
theorem dL_law_1191 : decode cL_law 1191 = .ok (.iaload, 1) := by decide +kernel
theorem dL_law_1192 : decode cL_law 1192 = .ok (.aload_n 0, 1) := by decide +kernel
theorem dL_law_1193 : decode cL_law 1193 = .ok (.iload_n 3, 1) := by decide +kernel
theorem dL_law_1194 : decode cL_law 1194 = .ok (.iconst 3, 1) := by decide +kernel
theorem dL_law_1195 : decode cL_law 1195 = .ok (.iadd, 1) := by decide +kernel
theorem dL_law_1196 : decode cL_law 1196 = .ok (.iaload, 1) := by decide +kernel
theorem dL_law_1197 : decode cL_law 1197 = .ok (.invokevirtual 142, 3) := by decide +kernel
theorem dL_law_1200 : decode cL_law 1200 = .ok (.if_icmp .eq 371, 3) := by decide +kernel
theorem dL_law_1203 : decode cL_law 1203 = .ok (.iconst 0, 1) := by decide +kernel
theorem dL_law_1204 : decode cL_law 1204 = .ok (.ireturn, 1) := by decide +kernel
theorem dL_law_1205 : decode cL_law 1205 = .ok (.aload_n 1, 1) := by decide +kernel
theorem dL_law_1206 : decode cL_law 1206 = .ok (.aload_n 0, 1) := by decide +kernel
theorem dL_law_1207 : decode cL_law 1207 = .ok (.iload_n 3, 1) := by decide +kernel
theorem dL_law_1208 : decode cL_law 1208 = .ok (.iconst 1, 1) := by decide +kernel
theorem dL_law_1209 : decode cL_law 1209 = .ok (.iadd, 1) := by decide +kernel
theorem dL_law_1210 : decode cL_law 1210 = .ok (.iaload, 1) := by decide +kernel
theorem dL_law_1211 : decode cL_law 1211 = .ok (.invokevirtual 143, 3) := by decide +kernel
theorem dL_law_1214 : decode cL_law 1214 = .ok (.aload_n 2, 1) := by decide +kernel
theorem dL_law_1215 : decode cL_law 1215 = .ok (.aload_n 0, 1) := by decide +kernel
theorem dL_law_1216 : decode cL_law 1216 = .ok (.iload_n 3, 1) := by decide +kernel
theorem dL_law_1217 : decode cL_law 1217 = .ok (.iconst 1, 1) := by decide +kernel
theorem dL_law_1218 : decode cL_law 1218 = .ok (.iadd, 1) := by decide +kernel
theorem dL_law_1219 : decode cL_law 1219 = .ok (.iaload, 1) := by decide +kernel
theorem dL_law_1220 : decode cL_law 1220 = .ok (.invokevirtual 146, 3) := by decide +kernel
theorem dL_law_1223 : decode cL_law 1223 = .ok (.if_icmp .eq 348, 3) := by decide +kernel
theorem dL_law_1226 : decode cL_law 1226 = .ok (.iconst 0, 1) := by decide +kernel
theorem dL_law_1227 : decode cL_law 1227 = .ok (.ireturn, 1) := by decide +kernel
theorem dL_law_1228 : decode cL_law 1228 = .ok (.aload_n 1, 1) := by decide +kernel
theorem dL_law_1229 : decode cL_law 1229 = .ok (.aload_n 0, 1) := by decide +kernel
theorem dL_law_1230 : decode cL_law 1230 = .ok (.iload_n 3, 1) := by decide +kernel
theorem dL_law_1231 : decode cL_law 1231 = .ok (.iconst 1, 1) := by decide +kernel
theorem dL_law_1232 : decode cL_law 1232 = .ok (.iadd, 1) := by decide +kernel
theorem dL_law_1233 : decode cL_law 1233 = .ok (.iaload, 1) := by decide +kernel
theorem dL_law_1234 : decode cL_law 1234 = .ok (.invokevirtual 147, 3) := by decide +kernel
theorem dL_law_1237 : decode cL_law 1237 = .ok (.aload_n 2, 1) := by decide +kernel
theorem dL_law_1238 : decode cL_law 1238 = .ok (.aload_n 0, 1) := by decide +kernel
theorem dL_law_1239 : decode cL_law 1239 = .ok (.iload_n 3, 1) := by decide +kernel
theorem dL_law_1240 : decode cL_law 1240 = .ok (.iconst 1, 1) := by decide +kernel
theorem dL_law_1241 : decode cL_law 1241 = .ok (.iadd, 1) := by decide +kernel
theorem dL_law_1242 : decode cL_law 1242 = .ok (.iaload, 1) := by decide +kernel
theorem dL_law_1243 : decode cL_law 1243 = .ok (.invokevirtual 150, 3) := by decide +kernel
theorem dL_law_1246 : decode cL_law 1246 = .ok (.if_icmp .eq 325, 3) := by decide +kernel
theorem dL_law_1249 : decode cL_law 1249 = .ok (.iconst 0, 1) := by decide +kernel
theorem dL_law_1250 : decode cL_law 1250 = .ok (.ireturn, 1) := by decide +kernel
theorem dL_law_1251 : decode cL_law 1251 = .ok (.aload_n 1, 1) := by decide +kernel
theorem dL_law_1252 : decode cL_law 1252 = .ok (.aload_n 0, 1) := by decide +kernel
theorem dL_law_1253 : decode cL_law 1253 = .ok (.iload_n 3, 1) := by decide +kernel
theorem dL_law_1254 : decode cL_law 1254 = .ok (.iconst 1, 1) := by decide +kernel
theorem dL_law_1255 : decode cL_law 1255 = .ok (.iadd, 1) := by decide +kernel
theorem dL_law_1256 : decode cL_law 1256 = .ok (.iaload, 1) := by decide +kernel
theorem dL_law_1257 : decode cL_law 1257 = .ok (.invokevirtual 151, 3) := by decide +kernel
theorem dL_law_1260 : decode cL_law 1260 = .ok (.aload_n 2, 1) := by decide +kernel
theorem dL_law_1261 : decode cL_law 1261 = .ok (.aload_n 0, 1) := by decide +kernel
theorem dL_law_1262 : decode cL_law 1262 = .ok (.iload_n 3, 1) := by decide +kernel
theorem dL_law_1263 : decode cL_law 1263 = .ok (.iconst 1, 1) := by decide +kernel
theorem dL_law_1264 : decode cL_law 1264 = .ok (.iadd, 1) := by decide +kernel
theorem dL_law_1265 : decode cL_law 1265 = .ok (.iaload, 1) := by decide +kernel
theorem dL_law_1266 : decode cL_law 1266 = .ok (.invokevirtual 154, 3) := by decide +kernel
theorem dL_law_1269 : decode cL_law 1269 = .ok (.if_icmp .eq 302, 3) := by decide +kernel
theorem dL_law_1272 : decode cL_law 1272 = .ok (.iconst 0, 1) := by decide +kernel
theorem dL_law_1273 : decode cL_law 1273 = .ok (.ireturn, 1) := by decide +kernel
theorem dL_law_1274 : decode cL_law 1274 = .ok (.aload_n 1, 1) := by decide +kernel
theorem dL_law_1275 : decode cL_law 1275 = .ok (.aload_n 0, 1) := by decide +kernel
theorem dL_law_1276 : decode cL_law 1276 = .ok (.iload_n 3, 1) := by decide +kernel
theorem dL_law_1277 : decode cL_law 1277 = .ok (.iconst 1, 1) := by decide +kernel
theorem dL_law_1278 : decode cL_law 1278 = .ok (.iadd, 1) := by decide +kernel
theorem dL_law_1279 : decode cL_law 1279 = .ok (.iaload, 1) := by decide +kernel
theorem dL_law_1280 : decode cL_law 1280 = .ok (.aload_n 0, 1) := by decide +kernel
theorem dL_law_1281 : decode cL_law 1281 = .ok (.iload_n 3, 1) := by decide +kernel
theorem dL_law_1282 : decode cL_law 1282 = .ok (.iconst 2, 1) := by decide +kernel
theorem dL_law_1283 : decode cL_law 1283 = .ok (.iadd, 1) := by decide +kernel
theorem dL_law_1284 : decode cL_law 1284 = .ok (.iaload, 1) := by decide +kernel
theorem dL_law_1285 : decode cL_law 1285 = .ok (.invokevirtual 155, 3) := by decide +kernel
theorem dL_law_1288 : decode cL_law 1288 = .ok (.aload_n 2, 1) := by decide +kernel
theorem dL_law_1289 : decode cL_law 1289 = .ok (.aload_n 0, 1) := by decide +kernel
theorem dL_law_1290 : decode cL_law 1290 = .ok (.iload_n 3, 1) := by decide +kernel
theorem dL_law_1291 : decode cL_law 1291 = .ok (.iconst 1, 1) := by decide +kernel
theorem dL_law_1292 : decode cL_law 1292 = .ok (.iadd, 1) := by decide +kernel
theorem dL_law_1293 : decode cL_law 1293 = .ok (.iaload, 1) := by decide +kernel
theorem dL_law_1294 : decode cL_law 1294 = .ok (.aload_n 0, 1) := by decide +kernel
theorem dL_law_1295 : decode cL_law 1295 = .ok (.iload_n 3, 1) := by decide +kernel
theorem dL_law_1296 : decode cL_law 1296 = .ok (.iconst 2, 1) := by decide +kernel
theorem dL_law_1297 : decode cL_law 1297 = .ok (.iadd, 1) := by decide +kernel
theorem dL_law_1298 : decode cL_law 1298 = .ok (.iaload, 1) := by decide +kernel
theorem dL_law_1299 : decode cL_law 1299 = .ok (.invokevirtual 158, 3) := by decide +kernel
theorem dL_law_1302 : decode cL_law 1302 = .ok (.if_icmp .eq 269, 3) := by decide +kernel
theorem dL_law_1305 : decode cL_law 1305 = .ok (.iconst 0, 1) := by decide +kernel
theorem dL_law_1306 : decode cL_law 1306 = .ok (.ireturn, 1) := by decide +kernel
theorem dL_law_1307 : decode cL_law 1307 = .ok (.aload_n 1, 1) := by decide +kernel
theorem dL_law_1308 : decode cL_law 1308 = .ok (.aload_n 0, 1) := by decide +kernel
theorem dL_law_1309 : decode cL_law 1309 = .ok (.iload_n 3, 1) := by decide +kernel
theorem dL_law_1310 : decode cL_law 1310 = .ok (.iconst 1, 1) := by decide +kernel
theorem dL_law_1311 : decode cL_law 1311 = .ok (.iadd, 1) := by decide +kernel
theorem dL_law_1312 : decode cL_law 1312 = .ok (.iaload, 1) := by decide +kernel
theorem dL_law_1313 : decode cL_law 1313 = .ok (.aload_n 0, 1) := by decide +kernel
theorem dL_law_1314 : decode cL_law 1314 = .ok (.iload_n 3, 1) := by decide +kernel
theorem dL_law_1315 : decode cL_law 1315 = .ok (.iconst 2, 1) := by decide +kernel
theorem dL_law_1316 : decode cL_law 1316 = .ok (.iadd, 1) := by decide +kernel
theorem dL_law_1317 : decode cL_law 1317 = .ok (.iaload, 1) := by decide +kernel
theorem dL_law_1318 : decode cL_law 1318 = .ok (.aload_n 0, 1) := by decide +kernel
theorem dL_law_1319 : decode cL_law 1319 = .ok (.iload_n 3, 1) := by decide +kernel
theorem dL_law_1320 : decode cL_law 1320 = .ok (.iconst 3, 1) := by decide +kernel
theorem dL_law_1321 : decode cL_law 1321 = .ok (.iadd, 1) := by decide +kernel
theorem dL_law_1322 : decode cL_law 1322 = .ok (.iaload, 1) := by decide +kernel
theorem dL_law_1323 : decode cL_law 1323 = .ok (.invokevirtual 159, 3) := by decide +kernel
theorem dL_law_1326 : decode cL_law 1326 = .ok (.aload_n 2, 1) := by decide +kernel
theorem dL_law_1327 : decode cL_law 1327 = .ok (.aload_n 0, 1) := by decide +kernel
theorem dL_law_1328 : decode cL_law 1328 = .ok (.iload_n 3, 1) := by decide +kernel
theorem dL_law_1329 : decode cL_law 1329 = .ok (.iconst 1, 1) := by decide +kernel
theorem dL_law_1330 : decode cL_law 1330 = .ok (.iadd, 1) := by decide +kernel
theorem dL_law_1331 : decode cL_law 1331 = .ok (.iaload, 1) := by decide +kernel
theorem dL_law_1332 : decode cL_law 1332 = .ok (.aload_n 0, 1) := by decide +kernel
theorem dL_law_1333 : decode cL_law 1333 = .ok (.iload_n 3, 1) := by decide +kernel
theorem dL_law_1334 : decode cL_law 1334 = .ok (.iconst 2, 1) := by decide +kernel
theorem dL_law_1335 : decode cL_law 1335 = .ok (.iadd, 1) := by decide +kernel
theorem dL_law_1336 : decode cL_law 1336 = .ok (.iaload, 1) := by decide +kernel
theorem dL_law_1337 : decode cL_law 1337 = .ok (.aload_n 0, 1) := by decide +kernel
theorem dL_law_1338 : decode cL_law 1338 = .ok (.iload_n 3, 1) := by decide +kernel
theorem dL_law_1339 : decode cL_law 1339 = .ok (.iconst 3, 1) := by decide +kernel
theorem dL_law_1340 : decode cL_law 1340 = .ok (.iadd, 1) := by decide +kernel
theorem dL_law_1341 : decode cL_law 1341 = .ok (.iaload, 1) := by decide +kernel
theorem dL_law_1342 : decode cL_law 1342 = .ok (.invokevirtual 162, 3) := by decide +kernel
theorem dL_law_1345 : decode cL_law 1345 = .ok (.if_icmp .eq 226, 3) := by decide +kernel
theorem dL_law_1348 : decode cL_law 1348 = .ok (.iconst 0, 1) := by decide +kernel
theorem dL_law_1349 : decode cL_law 1349 = .ok (.ireturn, 1) := by decide +kernel
theorem dL_law_1350 : decode cL_law 1350 = .ok (.aload_n 1, 1) := by decide +kernel
theorem dL_law_1351 : decode cL_law 1351 = .ok (.aload_n 0, 1) := by decide +kernel
theorem dL_law_1352 : decode cL_law 1352 = .ok (.iload_n 3, 1) := by decide +kernel
theorem dL_law_1353 : decode cL_law 1353 = .ok (.iconst 1, 1) := by decide +kernel
theorem dL_law_1354 : decode cL_law 1354 = .ok (.iadd, 1) := by decide +kernel
theorem dL_law_1355 : decode cL_law 1355 = .ok (.iaload, 1) := by decide +kernel
theorem dL_law_1356 : decode cL_law 1356 = .ok (.invokevirtual 163, 3) := by decide +kernel
theorem dL_law_1359 : decode cL_law 1359 = .ok (.aload_n 2, 1) := by decide +kernel
theorem dL_law_1360 : decode cL_law 1360 = .ok (.aload_n 0, 1) := by decide +kernel
theorem dL_law_1361 : decode cL_law 1361 = .ok (.iload_n 3, 1) := by decide +kernel
theorem dL_law_1362 : decode cL_law 1362 = .ok (.iconst 1, 1) := by decide +kernel
theorem dL_law_1363 : decode cL_law 1363 = .ok (.iadd, 1) := by decide +kernel
theorem dL_law_1364 : decode cL_law 1364 = .ok (.iaload, 1) := by decide +kernel
theorem dL_law_1365 : decode cL_law 1365 = .ok (.invokevirtual 166, 3) := by decide +kernel
theorem dL_law_1368 : decode cL_law 1368 = .ok (.if_icmp .eq 203, 3) := by decide +kernel
theorem dL_law_1371 : decode cL_law 1371 = .ok (.iconst 0, 1) := by decide +kernel
theorem dL_law_1372 : decode cL_law 1372 = .ok (.ireturn, 1) := by decide +kernel
theorem dL_law_1373 : decode cL_law 1373 = .ok (.aload_n 1, 1) := by decide +kernel
theorem dL_law_1374 : decode cL_law 1374 = .ok (.aload_n 0, 1) := by decide +kernel
theorem dL_law_1375 : decode cL_law 1375 = .ok (.iload_n 3, 1) := by decide +kernel
theorem dL_law_1376 : decode cL_law 1376 = .ok (.iconst 1, 1) := by decide +kernel
theorem dL_law_1377 : decode cL_law 1377 = .ok (.iadd, 1) := by decide +kernel
theorem dL_law_1378 : decode cL_law 1378 = .ok (.iaload, 1) := by decide +kernel
theorem dL_law_1379 : decode cL_law 1379 = .ok (.invokevirtual 167, 3) := by decide +kernel
theorem dL_law_1382 : decode cL_law 1382 = .ok (.aload_n 2, 1) := by decide +kernel
theorem dL_law_1383 : decode cL_law 1383 = .ok (.aload_n 0, 1) := by decide +kernel
theorem dL_law_1384 : decode cL_law 1384 = .ok (.iload_n 3, 1) := by decide +kernel
theorem dL_law_1385 : decode cL_law 1385 = .ok (.iconst 1, 1) := by decide +kernel
theorem dL_law_1386 : decode cL_law 1386 = .ok (.iadd, 1) := by decide +kernel
theorem dL_law_1387 : decode cL_law 1387 = .ok (.iaload, 1) := by decide +kernel
theorem dL_law_1388 : decode cL_law 1388 = .ok (.invokevirtual 170, 3) := by decide +kernel
theorem dL_law_1391 : decode cL_law 1391 = .ok (.if_icmp .eq 180, 3) := by decide +kernel
theorem dL_law_1394 : decode cL_law 1394 = .ok (.iconst 0, 1) := by decide +kernel
theorem dL_law_1395 : decode cL_law 1395 = .ok (.ireturn, 1) := by decide +kernel
theorem dL_law_1396 : decode cL_law 1396 = .ok (.aload_n 1, 1) := by decide +kernel
theorem dL_law_1397 : decode cL_law 1397 = .ok (.aload_n 0, 1) := by decide +kernel
theorem dL_law_1398 : decode cL_law 1398 = .ok (.iload_n 3, 1) := by decide +kernel
theorem dL_law_1399 : decode cL_law 1399 = .ok (.iconst 1, 1) := by decide +kernel
theorem dL_law_1400 : decode cL_law 1400 = .ok (.iadd, 1) := by decide +kernel
theorem dL_law_1401 : decode cL_law 1401 = .ok (.iaload, 1) := by decide +kernel
theorem dL_law_1402 : decode cL_law 1402 = .ok (.aload_n 0, 1) := by decide +kernel
theorem dL_law_1403 : decode cL_law 1403 = .ok (.iload_n 3, 1) := by decide +kernel
theorem dL_law_1404 : decode cL_law 1404 = .ok (.iconst 2, 1) := by decide +kernel
theorem dL_law_1405 : decode cL_law 1405 = .ok (.iadd, 1) := by decide +kernel
theorem dL_law_1406 : decode cL_law 1406 = .ok (.iaload, 1) := by decide +kernel
theorem dL_law_1407 : decode cL_law 1407 = .ok (.aload_n 0, 1) := by decide +kernel
theorem dL_law_1408 : decode cL_law 1408 = .ok (.iload_n 3, 1) := by decide +kernel
theorem dL_law_1409 : decode cL_law 1409 = .ok (.iconst 3, 1) := by decide +kernel
theorem dL_law_1410 : decode cL_law 1410 = .ok (.iadd, 1) := by decide +kernel
theorem dL_law_1411 : decode cL_law 1411 = .ok (.iaload, 1) := by decide +kernel
theorem dL_law_1412 : decode cL_law 1412 = .ok (.invokevirtual 171, 3) := by decide +kernel
theorem dL_law_1415 : decode cL_law 1415 = .ok (.aload_n 2, 1) := by decide +kernel
theorem dL_law_1416 : decode cL_law 1416 = .ok (.aload_n 0, 1) := by decide +kernel
theorem dL_law_1417 : decode cL_law 1417 = .ok (.iload_n 3, 1) := by decide +kernel
theorem dL_law_1418 : decode cL_law 1418 = .ok (.iconst 1, 1) := by decide +kernel
theorem dL_law_1419 : decode cL_law 1419 = .ok (.iadd, 1) := by decide +kernel
theorem dL_law_1420 : decode cL_law 1420 = .ok (.iaload, 1) := by decide +kernel
theorem dL_law_1421 : decode cL_law 1421 = .ok (.aload_n 0, 1) := by decide +kernel
theorem dL_law_1422 : decode cL_law 1422 = .ok (.iload_n 3, 1) := by decide +kernel
theorem dL_law_1423 : decode cL_law 1423 = .ok (.iconst 2, 1) := by decide +kernel
theorem dL_law_1424 : decode cL_law 1424 = .ok (.iadd, 1) := by decide +kernel
theorem dL_law_1425 : decode cL_law 1425 = .ok (.iaload, 1) := by decide +kernel
theorem dL_law_1426 : decode cL_law 1426 = .ok (.aload_n 0, 1) := by decide +kernel
theorem dL_law_1427 : decode cL_law 1427 = .ok (.iload_n 3, 1) := by decide +kernel
theorem dL_law_1428 : decode cL_law 1428 = .ok (.iconst 3, 1) := by decide +kernel
theorem dL_law_1429 : decode cL_law 1429 = .ok (.iadd, 1) := by decide +kernel
theorem dL_law_1430 : decode cL_law 1430 = .ok (.iaload, 1) := by decide +kernel
theorem dL_law_1431 : decode cL_law 1431 = .ok (.invokevirtual 174, 3) := by decide +kernel
theorem dL_law_1434 : decode cL_law 1434 = .ok (.if_icmp .eq 137, 3) := by decide +kernel
theorem dL_law_1437 : decode cL_law 1437 = .ok (.iconst 0, 1) := by decide +kernel
theorem dL_law_1438 : decode cL_law 1438 = .ok (.ireturn, 1) := by decide +kernel
theorem dL_law_1439 : decode cL_law 1439 = .ok (.aload_n 1, 1) := by decide +kernel
theorem dL_law_1440 : decode cL_law 1440 = .ok (.aload_n 0, 1) := by decide +kernel
theorem dL_law_1441 : decode cL_law 1441 = .ok (.iload_n 3, 1) := by decide +kernel
theorem dL_law_1442 : decode cL_law 1442 = .ok (.iconst 1, 1) := by decide +kernel
theorem dL_law_1443 : decode cL_law 1443 = .ok (.iadd, 1) := by decide +kernel
theorem dL_law_1444 : decode cL_law 1444 = .ok (.iaload, 1) := by decide +kernel
theorem dL_law_1445 : decode cL_law 1445 = .ok (.aload_n 0, 1) := by decide +kernel
theorem dL_law_1446 : decode cL_law 1446 = .ok (.iload_n 3, 1) := by decide +kernel
theorem dL_law_1447 : decode cL_law 1447 = .ok (.iconst 2, 1) := by decide +kernel
theorem dL_law_1448 : decode cL_law 1448 = .ok (.iadd, 1) := by decide +kernel
theorem dL_law_1449 : decode cL_law 1449 = .ok (.iaload, 1) := by decide +kernel
theorem dL_law_1450 : decode cL_law 1450 = .ok (.aload_n 0, 1) := by decide +kernel
theorem dL_law_1451 : decode cL_law 1451 = .ok (.iload_n 3, 1) := by decide +kernel
theorem dL_law_1452 : decode cL_law 1452 = .ok (.iconst 3, 1) := by decide +kernel
theorem dL_law_1453 : decode cL_law 1453 = .ok (.iadd, 1) := by decide +kernel
theorem dL_law_1454 : decode cL_law 1454 = .ok (.iaload, 1) := by decide +kernel
theorem dL_law_1455 : decode cL_law 1455 = .ok (.invokevirtual 175, 3) := by decide +kernel
theorem dL_law_1458 : decode cL_law 1458 = .ok (.aload_n 2, 1) := by decide +kernel
theorem dL_law_1459 : decode cL_law 1459 = .ok (.aload_n 0, 1) := by decide +kernel
theorem dL_law_1460 : decode cL_law 1460 = .ok (.iload_n 3, 1) := by decide +kernel
theorem dL_law_1461 : decode cL_law 1461 = .ok (.iconst 1, 1) := by decide +kernel
theorem dL_law_1462 : decode cL_law 1462 = .ok (.iadd, 1) := by decide +kernel
theorem dL_law_1463 : decode cL_law 1463 = .ok (.iaload, 1) := by decide +kernel
theorem dL_law_1464 : decode cL_law 1464 = .ok (.aload_n 0, 1) := by decide +kernel
theorem dL_law_1465 : decode cL_law 1465 = .ok (.iload_n 3, 1) := by decide +kernel
theorem dL_law_1466 : decode cL_law 1466 = .ok (.iconst 2, 1) := by decide +kernel
theorem dL_law_1467 : decode cL_law 1467 = .ok (.iadd, 1) := by decide +kernel
theorem dL_law_1468 : decode cL_law 1468 = .ok (.iaload, 1) := by decide +kernel
theorem dL_law_1469 : decode cL_law 1469 = .ok (.aload_n 0, 1) := by decide +kernel
theorem dL_law_1470 : decode cL_law 1470 = .ok (.iload_n 3, 1) := by decide +kernel
theorem dL_law_1471 : decode cL_law 1471 = .ok (.iconst 3, 1) := by decide +kernel
theorem dL_law_1472 : decode cL_law 1472 = .ok (.iadd, 1) := by decide +kernel
theorem dL_law_1473 : decode cL_law 1473 = .ok (.iaload, 1) := by decide +kernel
theorem dL_law_1474 : decode cL_law 1474 = .ok (.invokevirtual 178, 3) := by decide +kernel
theorem dL_law_1477 : decode cL_law 1477 = .ok (.if_icmp .eq 94, 3) := by decide +kernel
theorem dL_law_1480 : decode cL_law 1480 = .ok (.iconst 0, 1) := by decide +kernel
theorem dL_law_1481 : decode cL_law 1481 = .ok (.ireturn, 1) := by decide +kernel
theorem dL_law_1482 : decode cL_law 1482 = .ok (.aload_n 1, 1) := by decide +kernel
theorem dL_law_1483 : decode cL_law 1483 = .ok (.aload_n 0, 1) := by decide +kernel
theorem dL_law_1484 : decode cL_law 1484 = .ok (.iload_n 3, 1) := by decide +kernel
theorem dL_law_1485 : decode cL_law 1485 = .ok (.iconst 1, 1) := by decide +kernel
theorem dL_law_1486 : decode cL_law 1486 = .ok (.iadd, 1) := by decide +kernel
theorem dL_law_1487 : decode cL_law 1487 = .ok (.iaload, 1) := by decide +kernel
theorem dL_law_1488 : decode cL_law 1488 = .ok (.aload_n 0, 1) := by decide +kernel
theorem dL_law_1489 : decode cL_law 1489 = .ok (.iload_n 3, 1) := by decide +kernel
theorem dL_law_1490 : decode cL_law 1490 = .ok (.iconst 2, 1) := by decide +kernel
theorem dL_law_1491 : decode cL_law 1491 = .ok (.iadd, 1) := by decide +kernel
theorem dL_law_1492 : decode cL_law 1492 = .ok (.iaload, 1) := by decide +kernel
theorem dL_law_1493 : decode cL_law 1493 = .ok (.aload_n 0, 1) := by decide +kernel
theorem dL_law_1494 : decode cL_law 1494 = .ok (.iload_n 3, 1) := by decide +kernel
theorem dL_law_1495 : decode cL_law 1495 = .ok (.iconst 3, 1) := by decide +kernel
theorem dL_law_1496 : decode cL_law 1496 = .ok (.iadd, 1) := by decide +kernel
theorem dL_law_1497 : decode cL_law 1497 = .ok (.iaload, 1) := by decide +kernel
theorem dL_law_1498 : decode cL_law 1498 = .ok (.aload_n 0, 1) := by decide +kernel
theorem dL_law_1499 : decode cL_law 1499 = .ok (.iload_n 3, 1) := by decide +kernel
theorem dL_law_1500 : decode cL_law 1500 = .ok (.iconst 4, 1) := by decide +kernel
theorem dL_law_1501 : decode cL_law 1501 = .ok (.iadd, 1) := by decide +kernel
theorem dL_law_1502 : decode cL_law 1502 = .ok (.iaload, 1) := by decide +kernel
theorem dL_law_1503 : decode cL_law 1503 = .ok (.invokevirtual 179, 3) := by decide +kernel
theorem dL_law_1506 : decode cL_law 1506 = .ok (.aload_n 2, 1) := by decide +kernel
theorem dL_law_1507 : decode cL_law 1507 = .ok (.aload_n 0, 1) := by decide +kernel
theorem dL_law_1508 : decode cL_law 1508 = .ok (.iload_n 3, 1) := by decide +kernel
theorem dL_law_1509 : decode cL_law 1509 = .ok (.iconst 1, 1) := by decide +kernel
theorem dL_law_1510 : decode cL_law 1510 = .ok (.iadd, 1) := by decide +kernel
theorem dL_law_1511 : decode cL_law 1511 = .ok (.iaload, 1) := by decide +kernel
theorem dL_law_1512 : decode cL_law 1512 = .ok (.aload_n 0, 1) := by decide +kernel
theorem dL_law_1513 : decode cL_law 1513 = .ok (.iload_n 3, 1) := by decide +kernel
theorem dL_law_1514 : decode cL_law 1514 = .ok (.iconst 2, 1) := by decide +kernel
theorem dL_law_1515 : decode cL_law 1515 = .ok (.iadd, 1) := by decide +kernel
theorem dL_law_1516 : decode cL_law 1516 = .ok (.iaload, 1) := by decide +kernel
theorem dL_law_1517 : decode cL_law 1517 = .ok (.aload_n 0, 1) := by decide +kernel
theorem dL_law_1518 : decode cL_law 1518 = .ok (.iload_n 3, 1) := by decide +kernel
theorem dL_law_1519 : decode cL_law 1519 = .ok (.iconst 3, 1) := by decide +kernel
theorem dL_law_1520 : decode cL_law 1520 = .ok (.iadd, 1) := by decide +kernel
theorem dL_law_1521 : decode cL_law 1521 = .ok (.iaload, 1) := by decide +kernel
theorem dL_law_1522 : decode cL_law 1522 = .ok (.aload_n 0, 1) := by decide +kernel
theorem dL_law_1523 : decode cL_law 1523 = .ok (.iload_n 3, 1) := by decide +kernel
theorem dL_law_1524 : decode cL_law 1524 = .ok (.iconst 4, 1) := by decide +kernel
theorem dL_law_1525 : decode cL_law 1525 = .ok (.iadd, 1) := by decide +kernel
theorem dL_law_1526 : decode cL_law 1526 = .ok (.iaload, 1) := by decide +kernel
theorem dL_law_1527 : decode cL_law 1527 = .ok (.invokevirtual 183, 3) := by decide +kernel
theorem dL_law_1530 : decode cL_law 1530 = .ok (.if_icmp .eq 41, 3) := by decide +kernel
theorem dL_law_1533 : decode cL_law 1533 = .ok (.iconst 0, 1) := by decide +kernel
theorem dL_law_1534 : decode cL_law 1534 = .ok (.ireturn, 1) := by decide +kernel
theorem dL_law_1535 : decode cL_law 1535 = .ok (.aload_n 1, 1) := by decide +kernel
theorem dL_law_1536 : decode cL_law 1536 = .ok (.invokevirtual 184, 3) := by decide +kernel
theorem dL_law_1539 : decode cL_law 1539 = .ok (.aload_n 2, 1) := by decide +kernel
theorem dL_law_1540 : decode cL_law 1540 = .ok (.invokevirtual 187, 3) := by decide +kernel
theorem dL_law_1543 : decode cL_law 1543 = .ok (.if_icmp .eq 28, 3) := by decide +kernel
theorem dL_law_1546 : decode cL_law 1546 = .ok (.iconst 0, 1) := by decide +kernel
theorem dL_law_1547 : decode cL_law 1547 = .ok (.ireturn, 1) := by decide +kernel
theorem dL_law_1548 : decode cL_law 1548 = .ok (.aload_n 1, 1) := by decide +kernel
theorem dL_law_1549 : decode cL_law 1549 = .ok (.aload_n 0, 1) := by decide +kernel
theorem dL_law_1550 : decode cL_law 1550 = .ok (.iload_n 3, 1) := by decide +kernel
theorem dL_law_1551 : decode cL_law 1551 = .ok (.iconst 1, 1) := by decide +kernel
theorem dL_law_1552 : decode cL_law 1552 = .ok (.iadd, 1) := by decide +kernel
theorem dL_law_1553 : decode cL_law 1553 = .ok (.iaload, 1) := by decide +kernel
theorem dL_law_1554 : decode cL_law 1554 = .ok (.invokevirtual 188, 3) := by decide +kernel
theorem dL_law_1557 : decode cL_law 1557 = .ok (.aload_n 2, 1) := by decide +kernel
theorem dL_law_1558 : decode cL_law 1558 = .ok (.aload_n 0, 1) := by decide +kernel
theorem dL_law_1559 : decode cL_law 1559 = .ok (.iload_n 3, 1) := by decide +kernel
theorem dL_law_1560 : decode cL_law 1560 = .ok (.iconst 1, 1) := by decide +kernel
theorem dL_law_1561 : decode cL_law 1561 = .ok (.iadd, 1) := by decide +kernel
theorem dL_law_1562 : decode cL_law 1562 = .ok (.iaload, 1) := by decide +kernel
theorem dL_law_1563 : decode cL_law 1563 = .ok (.invokevirtual 191, 3) := by decide +kernel
theorem dL_law_1566 : decode cL_law 1566 = .ok (.if_icmp .eq 5, 3) := by decide +kernel
theorem dL_law_1569 : decode cL_law 1569 = .ok (.iconst 0, 1) := by decide +kernel
theorem dL_law_1570 : decode cL_law 1570 = .ok (.ireturn, 1) := by decide +kernel
theorem dL_law_1571 : decode cL_law 1571 = .ok (.iinc 3 5, 3) := by decide +kernel
theorem dL_law_1574 : decode cL_law 1574 = .ok (.goto (-1556), 3) := by decide +kernel
theorem dL_law_1577 : decode cL_law 1577 = .ok (.iconst 1, 1) := by decide +kernel
theorem dL_law_1578 : decode cL_law 1578 = .ok (.ireturn, 1) := by decide +kernel
end
