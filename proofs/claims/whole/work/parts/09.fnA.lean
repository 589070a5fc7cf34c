noncomputable def f_J0_coder_7d493 (k0 : Nat) (M : Mem) : Option Int32 := if (1 : Int32) = 0 then ck .byte 1 <| some 1 else some 0
theorem o_J0_coder_7d493 {E : GE} {Q : Option Value → Mem → Prop} {k0 : Nat} {M : Mem} (gk0 : k0 < 8) (h : wp (f_J0_coder_7d493 k0 M) (gI M) Q) : Runs E mi_J0_coder_7d493 [.ref (sK E k0)] M Q := by
  refine Runs.ofEv (by decide +kernel) (Nat.le_of_ble_eq_true rfl) ?_
  show Ev E mi_J0_coder_7d493 0 [(0, .ref (sK E k0))] [] M Q
  unfold f_J0_coder_7d493 at h
  refine Ev.getCS dJ0_coder_7d493_0 fs_J0_38 ?_
  refine Ev.if_eq (tgt := 13) dJ0_coder_7d493_3 (by decide) (fun c1 => ?_) (fun c1 => ?_)
  · replace h := wp_t c1 h
    refine Ev.iconst (v := 1) dJ0_coder_7d493_13 rfl ?_
    obtain ⟨g2, h⟩ := wp_ck h
    exact Ev.ret dJ0_coder_7d493_14 rfl (nar_B g2) (wp_ret h)
  · replace h := wp_f c1 h
    refine Ev.aload_n dJ0_coder_7d493_6 rfl 0 rfl ?_
    refine Ev.strC dJ0_coder_7d493_7 fs_J0_15 gk0 ?_
    refine Ev.goto (tgt := 14) dJ0_coder_7d493_10 (by decide) ?_
    exact Ev.ret dJ0_coder_7d493_14 rfl rfl (wp_ret h)

noncomputable def f_J0_length_8abf5 (k0 : Nat) (M : Mem) : Option Int32 := (f_J0_coder_7d493 k0 M).bind fun r1 => some ((Int32.ofNat (sbL k0)) >>> (r1 &&& 31))
theorem o_J0_length_8abf5 {E : GE} {Q : Option Value → Mem → Prop} {k0 : Nat} {M : Mem} (gk0 : k0 < 8) (h : wp (f_J0_length_8abf5 k0 M) (gI M) Q) : Runs E mi_J0_length_8abf5 [.ref (sK E k0)] M Q := by
  refine Runs.ofEv (by decide +kernel) (Nat.le_of_ble_eq_true rfl) ?_
  show Ev E mi_J0_length_8abf5 0 [(0, .ref (sK E k0))] [] M Q
  unfold f_J0_length_8abf5 at h
  refine Ev.aload_n dJ0_length_8abf5_0 rfl 0 rfl ?_
  refine Ev.strV dJ0_length_8abf5_1 fs_J0_9 gk0 ?_
  refine Ev.slen dJ0_length_8abf5_4 gk0 ?_
  refine Ev.aload_n dJ0_length_8abf5_5 rfl 0 rfl ?_
  obtain ⟨r1, er1, h⟩ := wp_bind h
  refine Ev.callT (as := []) (rest := [.int (Int32.ofNat (sbL k0))]) dJ0_length_8abf5_6 cl_J0_335 mok_J0_coder_7d493 rfl gk0 ⟨Nat.le_of_ble_eq_true rfl, Nat.le_of_ble_eq_true rfl⟩ (Nat.le_of_ble_eq_true rfl) rfl rfl (o_J0_coder_7d493 gk0 ⟨r1, er1, ?_⟩)
  show Ev E mi_J0_length_8abf5 9 [(0, .ref (sK E k0))] [.int r1, .int (Int32.ofNat (sbL k0))] M Q
  refine Ev.ishr dJ0_length_8abf5_9 ?_
  exact Ev.ret dJ0_length_8abf5_10 rfl rfl (wp_ret h)

noncomputable def f_J0_isLatin1_aae02 (k0 : Nat) (M : Mem) : Option Int32 := if (1 : Int32) = 0 then some 0 else if (0 : Int32) = 0 then some 1 else some 0
theorem o_J0_isLatin1_aae02 {E : GE} {Q : Option Value → Mem → Prop} {k0 : Nat} {M : Mem} (gk0 : k0 < 8) (h : wp (f_J0_isLatin1_aae02 k0 M) (gI M) Q) : Runs E mi_J0_isLatin1_aae02 [.ref (sK E k0)] M Q := by
  refine Runs.ofEv (by decide +kernel) (Nat.le_of_ble_eq_true rfl) ?_
  show Ev E mi_J0_isLatin1_aae02 0 [(0, .ref (sK E k0))] [] M Q
  unfold f_J0_isLatin1_aae02 at h
  refine Ev.getCS dJ0_isLatin1_aae02_0 fs_J0_38 ?_
  refine Ev.if_eq (tgt := 17) dJ0_isLatin1_aae02_3 (by decide) (fun c1 => ?_) (fun c1 => ?_)
  · replace h := wp_t c1 h
    refine Ev.iconst (v := 0) dJ0_isLatin1_aae02_17 rfl ?_
    exact Ev.ret dJ0_isLatin1_aae02_18 rfl rfl (wp_ret h)
  · replace h := wp_f c1 h
    refine Ev.aload_n dJ0_isLatin1_aae02_6 rfl 0 rfl ?_
    refine Ev.strC dJ0_isLatin1_aae02_7 fs_J0_15 gk0 ?_
    refine Ev.if_ne (tgt := 17) dJ0_isLatin1_aae02_10 (by decide) (fun c2 => ?_) (fun c2 => ?_)
    · replace h := wp_t c2 h
      refine Ev.iconst (v := 1) dJ0_isLatin1_aae02_13 rfl ?_
      refine Ev.goto (tgt := 18) dJ0_isLatin1_aae02_14 (by decide) ?_
      exact Ev.ret dJ0_isLatin1_aae02_18 rfl rfl (wp_ret h)
    · replace h := wp_f c2 h
      refine Ev.iconst (v := 0) dJ0_isLatin1_aae02_17 rfl ?_
      exact Ev.ret dJ0_isLatin1_aae02_18 rfl rfl (wp_ret h)

noncomputable def f_J3_checkIndex_8e157_9 (p0 : Int32) (p1 : Int32) (M : Mem) : Option Int32 := none
theorem o_J3_checkIndex_8e157_9 {E : GE} {Q : Option Value → Mem → Prop} {v2 : Value} {p0 : Int32} {p1 : Int32} {M : Mem} (gk2 : v2.category = 1) (h : wp (f_J3_checkIndex_8e157_9 p0 p1 M) (gI M) Q) : Ev E mi_J3_checkIndex_8e157 9 [(0, .int p0), (1, .int p1), (2, v2)] [] M Q := by
  unfold f_J3_checkIndex_8e157_9 at h
  exact absurd h wp_none
noncomputable def f_J3_checkIndex_8e157 (p0 : Int32) (p1 : Int32) (M : Mem) : Option Int32 := if p0 < 0 then f_J3_checkIndex_8e157_9 p0 p1 M else if p0 < p1 then some p0 else f_J3_checkIndex_8e157_9 p0 p1 M
theorem o_J3_checkIndex_8e157 {E : GE} {Q : Option Value → Mem → Prop} {v2 : Value} {p0 : Int32} {p1 : Int32} {M : Mem} (gk2 : v2.category = 1) (h : wp (f_J3_checkIndex_8e157 p0 p1 M) (gI M) Q) : Runs E mi_J3_checkIndex_8e157 [.int p0, .int p1, v2] M Q := by
  refine Runs.ofEv (by decide +kernel) (by simp [lg_sl, gk2, show ∀ x : Int32, (Value.int x).category = 1 from fun _ => rfl, mi_maxL]) ?_
  show Ev E mi_J3_checkIndex_8e157 0 [(0, .int p0), (1, .int p1), (2, v2)] [] M Q
  unfold f_J3_checkIndex_8e157 at h
  refine Ev.iload_n dJ3_checkIndex_8e157_0 rfl 0 rfl ?_
  refine Ev.if_lt (tgt := 9) dJ3_checkIndex_8e157_1 (by decide) (fun c1 => ?_) (fun c1 => ?_)
  · replace h := wp_t c1 h
    exact o_J3_checkIndex_8e157_9 gk2 h
  · replace h := wp_f c1 h
    refine Ev.iload_n dJ3_checkIndex_8e157_4 rfl 0 rfl ?_
    refine Ev.iload_n dJ3_checkIndex_8e157_5 rfl 1 rfl ?_
    refine Ev.icmp_lt (tgt := 16) dJ3_checkIndex_8e157_6 (by decide) (fun c2 => ?_) (fun c2 => ?_)
    · replace h := wp_t c2 h
      refine Ev.iload_n dJ3_checkIndex_8e157_16 rfl 0 rfl ?_
      exact Ev.ret dJ3_checkIndex_8e157_17 rfl rfl (wp_ret h)
    · replace h := wp_f c2 h
      exact o_J3_checkIndex_8e157_9 gk2 h

noncomputable def f_J0_checkIndex_df160 (p0 : Int32) (p1 : Int32) (M : Mem) : Option Unit := (f_J3_checkIndex_8e157 p0 p1 M).bind fun r2 => some ()
theorem o_J0_checkIndex_df160 {E : GE} {Q : Option Value → Mem → Prop} {p0 : Int32} {p1 : Int32} {M : Mem} (h : wp (f_J0_checkIndex_df160 p0 p1 M) (gU M) Q) : Runs E mi_J0_checkIndex_df160 [.int p0, .int p1] M Q := by
  refine Runs.ofEv (by decide +kernel) (Nat.le_of_ble_eq_true rfl) ?_
  show Ev E mi_J0_checkIndex_df160 0 [(0, .int p0), (1, .int p1)] [] M Q
  unfold f_J0_checkIndex_df160 at h
  refine Ev.iload_n dJ0_checkIndex_df160_0 rfl 0 rfl ?_
  refine Ev.iload_n dJ0_checkIndex_df160_1 rfl 1 rfl ?_
  refine Ev.getFm dJ0_checkIndex_df160_2 fs_J0_1053 (fun v1 ev1 => ?_)
  obtain ⟨r2, er2, h⟩ := wp_bind h
  refine Ev.callS (as := [.int p0, .int p1, v1]) (rest := []) dJ0_checkIndex_df160_5 cl_J0_1059 mos_J3_checkIndex_8e157 ⟨Nat.le_of_ble_eq_true rfl, Nat.le_of_ble_eq_true rfl⟩ (Nat.le_of_ble_eq_true rfl) rfl rfl (o_J3_checkIndex_8e157 ev1 ⟨r2, er2, ?_⟩)
  show Ev E mi_J0_checkIndex_df160 8 [(0, .int p0), (1, .int p1)] [.int r2] M Q
  refine Ev.pop dJ0_checkIndex_df160_8 rfl ?_
  exact Ev.vret dJ0_checkIndex_df160_9 rfl (wp_ret h)

noncomputable def f_J1_charAt_3b067 (k0 : Nat) (p1 : Int32) (M : Mem) : Option Int32 := (f_J0_checkIndex_df160 p1 (Int32.ofNat (sbL k0)) M).bind fun r1 => rd (sbV k0) (sbL k0) p1 fun r3 => ck .char (((r3 &&& 255).toUInt32 % 65536).toInt32) <| some (((r3 &&& 255).toUInt32 % 65536).toInt32)
theorem o_J1_charAt_3b067 {E : GE} {Q : Option Value → Mem → Prop} {k0 : Nat} {p1 : Int32} {M : Mem} (gk0 : k0 < 8) (h : wp (f_J1_charAt_3b067 k0 p1 M) (gI M) Q) : Runs E mi_J1_charAt_3b067 [.ref (sV E k0), .int p1] M Q := by
  refine Runs.ofEv (by decide +kernel) (Nat.le_of_ble_eq_true rfl) ?_
  show Ev E mi_J1_charAt_3b067 0 [(0, .ref (sV E k0)), (1, .int p1)] [] M Q
  unfold f_J1_charAt_3b067 at h
  refine Ev.iload_n dJ1_charAt_3b067_0 rfl 1 rfl ?_
  refine Ev.aload_n dJ1_charAt_3b067_1 rfl 0 rfl ?_
  refine Ev.slen dJ1_charAt_3b067_2 gk0 ?_
  obtain ⟨r1, er1, h⟩ := wp_bind h
  refine Ev.callS (as := [.int p1, .int (Int32.ofNat (sbL k0))]) (rest := []) dJ1_charAt_3b067_3 cl_J1_9 mos_J0_checkIndex_df160 ⟨Nat.le_of_ble_eq_true rfl, Nat.le_of_ble_eq_true rfl⟩ (Nat.le_of_ble_eq_true rfl) rfl rfl (o_J0_checkIndex_df160 ⟨r1, er1, ?_⟩)
  show Ev E mi_J1_charAt_3b067 6 [(0, .ref (sV E k0)), (1, .int p1)] [] M Q
  refine Ev.aload_n dJ1_charAt_3b067_6 rfl 0 rfl ?_
  refine Ev.iload_n dJ1_charAt_3b067_7 rfl 1 rfl ?_
  obtain ⟨g2, h⟩ := wp_rd h
  refine Ev.sald dJ1_charAt_3b067_8 gk0 g2 ?_
  refine Ev.topi (fun r3 er3 => ?_)
  replace h := h r3 er3
  refine Ev.sipush (v := 255) dJ1_charAt_3b067_9 rfl ?_
  refine Ev.iand dJ1_charAt_3b067_12 ?_
  refine Ev.i2c dJ1_charAt_3b067_13 ?_
  obtain ⟨g4, h⟩ := wp_ck h
  exact Ev.ret dJ1_charAt_3b067_14 rfl (nar_C g4) (wp_ret h)

noncomputable def f_J0_charAt_5068e (k0 : Nat) (p1 : Int32) (M : Mem) : Option Int32 := (f_J0_isLatin1_aae02 k0 M).bind fun r1 => if r1 = 0 then none else (f_J1_charAt_3b067 k0 p1 M).bind fun r3 => ck .char r3 <| some r3
theorem o_J0_charAt_5068e {E : GE} {Q : Option Value → Mem → Prop} {k0 : Nat} {p1 : Int32} {M : Mem} (gk0 : k0 < 8) (h : wp (f_J0_charAt_5068e k0 p1 M) (gI M) Q) : Runs E mi_J0_charAt_5068e [.ref (sK E k0), .int p1] M Q := by
  refine Runs.ofEv (by decide +kernel) (Nat.le_of_ble_eq_true rfl) ?_
  show Ev E mi_J0_charAt_5068e 0 [(0, .ref (sK E k0)), (1, .int p1)] [] M Q
  unfold f_J0_charAt_5068e at h
  refine Ev.aload_n dJ0_charAt_5068e_0 rfl 0 rfl ?_
  obtain ⟨r1, er1, h⟩ := wp_bind h
  refine Ev.callT (as := []) (rest := []) dJ0_charAt_5068e_1 cl_J0_492 mok_J0_isLatin1_aae02 rfl gk0 ⟨Nat.le_of_ble_eq_true rfl, Nat.le_of_ble_eq_true rfl⟩ (Nat.le_of_ble_eq_true rfl) rfl rfl (o_J0_isLatin1_aae02 gk0 ⟨r1, er1, ?_⟩)
  show Ev E mi_J0_charAt_5068e 4 [(0, .ref (sK E k0)), (1, .int p1)] [.int r1] M Q
  refine Ev.if_eq (tgt := 16) dJ0_charAt_5068e_4 (by decide) (fun c2 => ?_) (fun c2 => ?_)
  · replace h := wp_t c2 h
    refine Ev.aload_n dJ0_charAt_5068e_16 rfl 0 rfl ?_
    refine Ev.strV dJ0_charAt_5068e_17 fs_J0_9 gk0 ?_
    refine Ev.iload_n dJ0_charAt_5068e_20 rfl 1 rfl ?_
    exact absurd h wp_none
  · replace h := wp_f c2 h
    refine Ev.aload_n dJ0_charAt_5068e_7 rfl 0 rfl ?_
    refine Ev.strV dJ0_charAt_5068e_8 fs_J0_9 gk0 ?_
    refine Ev.iload_n dJ0_charAt_5068e_11 rfl 1 rfl ?_
    obtain ⟨r3, er3, h⟩ := wp_bind h
    refine Ev.callS (as := [.ref (sV E k0), .int p1]) (rest := []) dJ0_charAt_5068e_12 cl_J0_495 mos_J1_charAt_3b067 ⟨Nat.le_of_ble_eq_true rfl, Nat.le_of_ble_eq_true rfl⟩ (Nat.le_of_ble_eq_true rfl) rfl rfl (o_J1_charAt_3b067 gk0 ⟨r3, er3, ?_⟩)
    show Ev E mi_J0_charAt_5068e 15 [(0, .ref (sK E k0)), (1, .int p1)] [.int r3] M Q
    obtain ⟨g4, h⟩ := wp_ck h
    exact Ev.ret dJ0_charAt_5068e_15 rfl (nar_C g4) (wp_ret h)

noncomputable def f_J6_bitCount_0f7a4 (M : Mem) (x0 : Int32) : Option Int32 := li (x0 - (((x0.toUInt32 >>> ((1 : Int32).toUInt32 &&& Int32.toUInt32 31)).toInt32) &&& 1431655765)) fun y1 => li ((y1 &&& 858993459) + (((y1.toUInt32 >>> ((2 : Int32).toUInt32 &&& Int32.toUInt32 31)).toInt32) &&& 858993459)) fun y2 => li ((y2 + ((y2.toUInt32 >>> ((4 : Int32).toUInt32 &&& Int32.toUInt32 31)).toInt32)) &&& 252645135) fun y3 => li (y3 + ((y3.toUInt32 >>> ((8 : Int32).toUInt32 &&& Int32.toUInt32 31)).toInt32)) fun y4 => li (y4 + ((y4.toUInt32 >>> ((16 : Int32).toUInt32 &&& Int32.toUInt32 31)).toInt32)) fun y5 => some (y5 &&& 63)
theorem o_J6_bitCount_0f7a4 {E : GE} {Q : Option Value → Mem → Prop} {M : Mem} {x0 : Int32} (h : wp (f_J6_bitCount_0f7a4 M x0) (gI M) Q) : Runs E mi_J6_bitCount_0f7a4 [.int x0] M Q := by
  refine Runs.ofEv (by decide +kernel) (Nat.le_of_ble_eq_true rfl) ?_
  show Ev E mi_J6_bitCount_0f7a4 0 [(0, .int x0)] [] M Q
  unfold f_J6_bitCount_0f7a4 at h
  refine Ev.iload_n dJ6_bitCount_0f7a4_0 rfl 0 rfl ?_
  refine Ev.iload_n dJ6_bitCount_0f7a4_1 rfl 0 rfl ?_
  refine Ev.iconst (v := 1) dJ6_bitCount_0f7a4_2 rfl ?_
  refine Ev.iushr dJ6_bitCount_0f7a4_3 ?_
  refine Ev.ldcw dJ6_bitCount_0f7a4_4 fc_J6_265 ?_
  refine Ev.iand dJ6_bitCount_0f7a4_7 ?_
  refine Ev.isub dJ6_bitCount_0f7a4_8 ?_
  refine Ev.topi (fun y1 ey1 => ?_)
  replace h := wp_li h y1 ey1
  refine Ev.istore_n dJ6_bitCount_0f7a4_9 rfl (Nat.le_of_ble_eq_true rfl) rfl ?_
  show Ev E mi_J6_bitCount_0f7a4 10 [(0, .int y1)] [] M Q
  refine Ev.iload_n dJ6_bitCount_0f7a4_10 rfl 0 rfl ?_
  refine Ev.ldcw dJ6_bitCount_0f7a4_11 fc_J6_266 ?_
  refine Ev.iand dJ6_bitCount_0f7a4_14 ?_
  refine Ev.iload_n dJ6_bitCount_0f7a4_15 rfl 0 rfl ?_
  refine Ev.iconst (v := 2) dJ6_bitCount_0f7a4_16 rfl ?_
  refine Ev.iushr dJ6_bitCount_0f7a4_17 ?_
  refine Ev.ldcw dJ6_bitCount_0f7a4_18 fc_J6_266 ?_
  refine Ev.iand dJ6_bitCount_0f7a4_21 ?_
  refine Ev.iadd dJ6_bitCount_0f7a4_22 ?_
  refine Ev.topi (fun y2 ey2 => ?_)
  replace h := wp_li h y2 ey2
  refine Ev.istore_n dJ6_bitCount_0f7a4_23 rfl (Nat.le_of_ble_eq_true rfl) rfl ?_
  show Ev E mi_J6_bitCount_0f7a4 24 [(0, .int y2)] [] M Q
  refine Ev.iload_n dJ6_bitCount_0f7a4_24 rfl 0 rfl ?_
  refine Ev.iload_n dJ6_bitCount_0f7a4_25 rfl 0 rfl ?_
  refine Ev.iconst (v := 4) dJ6_bitCount_0f7a4_26 rfl ?_
  refine Ev.iushr dJ6_bitCount_0f7a4_27 ?_
  refine Ev.iadd dJ6_bitCount_0f7a4_28 ?_
  refine Ev.ldcw dJ6_bitCount_0f7a4_29 fc_J6_267 ?_
  refine Ev.iand dJ6_bitCount_0f7a4_32 ?_
  refine Ev.topi (fun y3 ey3 => ?_)
  replace h := wp_li h y3 ey3
  refine Ev.istore_n dJ6_bitCount_0f7a4_33 rfl (Nat.le_of_ble_eq_true rfl) rfl ?_
  show Ev E mi_J6_bitCount_0f7a4 34 [(0, .int y3)] [] M Q
  refine Ev.iload_n dJ6_bitCount_0f7a4_34 rfl 0 rfl ?_
  refine Ev.iload_n dJ6_bitCount_0f7a4_35 rfl 0 rfl ?_
  refine Ev.bipush (v := 8) dJ6_bitCount_0f7a4_36 rfl ?_
  refine Ev.iushr dJ6_bitCount_0f7a4_38 ?_
  refine Ev.iadd dJ6_bitCount_0f7a4_39 ?_
  refine Ev.topi (fun y4 ey4 => ?_)
  replace h := wp_li h y4 ey4
  refine Ev.istore_n dJ6_bitCount_0f7a4_40 rfl (Nat.le_of_ble_eq_true rfl) rfl ?_
  show Ev E mi_J6_bitCount_0f7a4 41 [(0, .int y4)] [] M Q
  refine Ev.iload_n dJ6_bitCount_0f7a4_41 rfl 0 rfl ?_
  refine Ev.iload_n dJ6_bitCount_0f7a4_42 rfl 0 rfl ?_
  refine Ev.bipush (v := 16) dJ6_bitCount_0f7a4_43 rfl ?_
  refine Ev.iushr dJ6_bitCount_0f7a4_45 ?_
  refine Ev.iadd dJ6_bitCount_0f7a4_46 ?_
  refine Ev.topi (fun y5 ey5 => ?_)
  replace h := wp_li h y5 ey5
  refine Ev.istore_n dJ6_bitCount_0f7a4_47 rfl (Nat.le_of_ble_eq_true rfl) rfl ?_
  show Ev E mi_J6_bitCount_0f7a4 48 [(0, .int y5)] [] M Q
  refine Ev.iload_n dJ6_bitCount_0f7a4_48 rfl 0 rfl ?_
  refine Ev.bipush (v := 63) dJ6_bitCount_0f7a4_49 rfl ?_
  refine Ev.iand dJ6_bitCount_0f7a4_51 ?_
  exact Ev.ret dJ6_bitCount_0f7a4_52 rfl rfl (wp_ret h)

noncomputable def f_X2_ofTub (k0 : Nat) (p1 : Int32) (p2 : Int32) (M : Mem) : Option Int32 := rd (M (k0 + 1)) 20 ((5 * p1) + p2) fun r2 => some r2
theorem o_X2_ofTub {E : GE} {Q : Option Value → Mem → Prop} {k0 : Nat} {p1 : Int32} {p2 : Int32} {M : Mem} (gk0 : isSea k0) (h : wp (f_X2_ofTub k0 p1 p2 M) (gI M) Q) : Runs E mi_X2_ofTub [.ref (ad E k0), .int p1, .int p2] M Q := by
  refine Runs.ofEv (by decide +kernel) (Nat.le_of_ble_eq_true rfl) ?_
  show Ev E mi_X2_ofTub 0 [(0, .ref (ad E k0)), (1, .int p1), (2, .int p2)] [] M Q
  unfold f_X2_ofTub at h
  refine Ev.aload_n dX2_ofTub_0 rfl 0 rfl ?_
  refine Ev.get dX2_ofTub_1 fl_X2_9 (sea_k0 gk0) (sea_n0 gk0) (sea_fv0 gk0) ?_
  refine Ev.iconst (v := 5) dX2_ofTub_4 rfl ?_
  refine Ev.iload_n dX2_ofTub_5 rfl 1 rfl ?_
  refine Ev.imul dX2_ofTub_6 ?_
  refine Ev.iload_n dX2_ofTub_7 rfl 2 rfl ?_
  refine Ev.iadd dX2_ofTub_8 ?_
  obtain ⟨g1, h⟩ := wp_rd h
  refine Ev.iald dX2_ofTub_9 (sea_k1x gk0) (sea_n1 gk0) (sea_l1 gk0) g1 ?_
  refine Ev.topi (fun r2 er2 => ?_)
  replace h := h r2 er2
  exact Ev.ret dX2_ofTub_10 rfl rfl (wp_ret h)

noncomputable def f_X2_tideAt (k0 : Nat) (p1 : Int32) (M : Mem) : Option Int32 := if (((p1 + (M k0 6)) / 3) - ((p1 + (M k0 6)) / 3) / 2 * 2) = 0 then some 1 else some (-1)
theorem o_X2_tideAt {E : GE} {Q : Option Value → Mem → Prop} {k0 : Nat} {p1 : Int32} {M : Mem} (gk0 : isSea k0) (h : wp (f_X2_tideAt k0 p1 M) (gI M) Q) : Runs E mi_X2_tideAt [.ref (ad E k0), .int p1] M Q := by
  refine Runs.ofEv (by decide +kernel) (Nat.le_of_ble_eq_true rfl) ?_
  show Ev E mi_X2_tideAt 0 [(0, .ref (ad E k0)), (1, .int p1)] [] M Q
  unfold f_X2_tideAt at h
  refine Ev.iload_n dX2_tideAt_0 rfl 1 rfl ?_
  refine Ev.aload_n dX2_tideAt_1 rfl 0 rfl ?_
  refine Ev.get dX2_tideAt_2 fl_X2_34 (sea_k0 gk0) (sea_n0 gk0) rfl ?_
  refine Ev.iadd dX2_tideAt_5 ?_
  refine Ev.iconst (v := 3) dX2_tideAt_6 rfl ?_
  refine Ev.idiv dX2_tideAt_7 (by decide) ?_
  refine Ev.iconst (v := 2) dX2_tideAt_8 rfl ?_
  refine Ev.irem dX2_tideAt_9 (by decide) ?_
  refine Ev.if_ne (tgt := 17) dX2_tideAt_10 (by decide) (fun c1 => ?_) (fun c1 => ?_)
  · replace h := wp_t c1 h
    refine Ev.iconst (v := 1) dX2_tideAt_13 rfl ?_
    refine Ev.goto (tgt := 18) dX2_tideAt_14 (by decide) ?_
    exact Ev.ret dX2_tideAt_18 rfl rfl (wp_ret h)
  · replace h := wp_f c1 h
    refine Ev.iconst (v := (-1)) dX2_tideAt_17 rfl ?_
    exact Ev.ret dX2_tideAt_18 rfl rfl (wp_ret h)

noncomputable def f_X2_ofHeir (k0 : Nat) (p1 : Int32) (p2 : Int32) (M : Mem) : Option Int32 := rd (M (k0 + 2)) 16 ((4 * p1) + p2) fun r2 => some r2
theorem o_X2_ofHeir {E : GE} {Q : Option Value → Mem → Prop} {k0 : Nat} {p1 : Int32} {p2 : Int32} {M : Mem} (gk0 : isSea k0) (h : wp (f_X2_ofHeir k0 p1 p2 M) (gI M) Q) : Runs E mi_X2_ofHeir [.ref (ad E k0), .int p1, .int p2] M Q := by
  refine Runs.ofEv (by decide +kernel) (Nat.le_of_ble_eq_true rfl) ?_
  show Ev E mi_X2_ofHeir 0 [(0, .ref (ad E k0)), (1, .int p1), (2, .int p2)] [] M Q
  unfold f_X2_ofHeir at h
  refine Ev.aload_n dX2_ofHeir_0 rfl 0 rfl ?_
  refine Ev.get dX2_ofHeir_1 fl_X2_15 (sea_k0 gk0) (sea_n0 gk0) (sea_fv1 gk0) ?_
  refine Ev.iconst (v := 4) dX2_ofHeir_4 rfl ?_
  refine Ev.iload_n dX2_ofHeir_5 rfl 1 rfl ?_
  refine Ev.imul dX2_ofHeir_6 ?_
  refine Ev.iload_n dX2_ofHeir_7 rfl 2 rfl ?_
  refine Ev.iadd dX2_ofHeir_8 ?_
  obtain ⟨g1, h⟩ := wp_rd h
  refine Ev.iald dX2_ofHeir_9 (sea_k2x gk0) (sea_n2 gk0) (sea_l2 gk0) g1 ?_
  refine Ev.topi (fun r2 er2 => ?_)
  replace h := h r2 er2
  exact Ev.ret dX2_ofHeir_10 rfl rfl (wp_ret h)

noncomputable def f_X2_empty_38 (k0 : Nat) : Nat → Int32 → Mem → Option Mem
  | 0, _, _ => none
  | n + 1, x1, M => if 24 ≤ x1 then some M else inb x1 24 <| lm (up M (k0 + 4) x1.toNatClampNeg 0) fun M3 => (f_X2_empty_38 k0 n) (x1 + 1) M3
theorem o_X2_empty_38 {E : GE} {Q : Option Value → Mem → Prop} {k0 : Nat} (gk0 : isSea k0) : ∀ (n : Nat) {x1 : Int32} {M : Mem}, wp (f_X2_empty_38 k0 n x1 M) gVM Q → Ev E mi_X2_empty 38 [(0, .ref (ad E k0)), (1, .int x1)] [] M Q := by
  intro n
  induction n with
  | zero => intro _ _ h; exact absurd h wp_none
  | succ n ih =>
    intro x1 M h
    unfold f_X2_empty_38 at h
    refine Ev.iload_n dX2_empty_38 rfl 1 rfl ?_
    refine Ev.bipush (v := 24) dX2_empty_39 rfl ?_
    refine Ev.icmp_ge (tgt := 57) dX2_empty_41 (by decide) (fun c1 => ?_) (fun c1 => ?_)
    · replace h := wp_t c1 h
      exact Ev.vret dX2_empty_57 rfl (wp_ret h)
    · replace h := wp_f c1 h
      refine Ev.aload_n dX2_empty_44 rfl 0 rfl ?_
      refine Ev.get dX2_empty_45 fl_X2_21 (sea_k0 gk0) (sea_n0 gk0) (sea_fv3 gk0) ?_
      refine Ev.iload_n dX2_empty_48 rfl 1 rfl ?_
      refine Ev.iconst (v := 0) dX2_empty_49 rfl ?_
      obtain ⟨g2, h⟩ := wp_inb h
      refine Ev.iast dX2_empty_50 (sea_k4x gk0) (sea_n4 gk0) (sea_l4 gk0) g2 ?_
      refine Ev.topM (fun M3 eM3 => ?_)
      replace h := wp_lm h M3 eM3
      refine Ev.iinc (v := x1 + 1) dX2_empty_51 1 rfl rfl (Nat.le_of_ble_eq_true rfl) rfl ?_
      show Ev E mi_X2_empty 54 [(1, .int (x1 + 1)), (0, .ref (ad E k0))] [] M3 Q
      refine Ev.goto (tgt := 38) dX2_empty_54 (by decide) ?_
      refine Ev.sub [1, 0] rfl ?_
      exact ih h
noncomputable def f_X2_empty_36 (k0 : Nat) (M : Mem) : Option Mem := f_X2_empty_38 k0 FU 0 M
theorem o_X2_empty_36 {E : GE} {Q : Option Value → Mem → Prop} {k0 : Nat} {M : Mem} (gk0 : isSea k0) (h : wp (f_X2_empty_36 k0 M) gVM Q) : Ev E mi_X2_empty 36 [(0, .ref (ad E k0))] [] M Q := by
  unfold f_X2_empty_36 at h
  refine Ev.iconst (v := 0) dX2_empty_36 rfl ?_
  refine Ev.istore_n dX2_empty_37 rfl (Nat.le_of_ble_eq_true rfl) rfl ?_
  show Ev E mi_X2_empty 38 [(1, .int 0), (0, .ref (ad E k0))] [] M Q
  refine Ev.sub [1, 0] rfl ?_
  exact o_X2_empty_38 gk0 FU h
noncomputable def f_X2_empty_17 (k0 : Nat) : Nat → Int32 → Mem → Option Mem
  | 0, _, _ => none
  | n + 1, x1, M => if 10 ≤ x1 then f_X2_empty_36 k0 M else inb x1 10 <| lm (up M (k0 + 3) x1.toNatClampNeg 2) fun M3 => (f_X2_empty_17 k0 n) (x1 + 1) M3
theorem o_X2_empty_17 {E : GE} {Q : Option Value → Mem → Prop} {k0 : Nat} (gk0 : isSea k0) : ∀ (n : Nat) {x1 : Int32} {M : Mem}, wp (f_X2_empty_17 k0 n x1 M) gVM Q → Ev E mi_X2_empty 17 [(0, .ref (ad E k0)), (1, .int x1)] [] M Q := by
  intro n
  induction n with
  | zero => intro _ _ h; exact absurd h wp_none
  | succ n ih =>
    intro x1 M h
    unfold f_X2_empty_17 at h
    refine Ev.iload_n dX2_empty_17 rfl 1 rfl ?_
    refine Ev.bipush (v := 10) dX2_empty_18 rfl ?_
    refine Ev.icmp_ge (tgt := 36) dX2_empty_20 (by decide) (fun c1 => ?_) (fun c1 => ?_)
    · replace h := wp_t c1 h
      refine Ev.sub [0] rfl ?_
      exact o_X2_empty_36 gk0 h
    · replace h := wp_f c1 h
      refine Ev.aload_n dX2_empty_23 rfl 0 rfl ?_
      refine Ev.get dX2_empty_24 fl_X2_18 (sea_k0 gk0) (sea_n0 gk0) (sea_fv2 gk0) ?_
      refine Ev.iload_n dX2_empty_27 rfl 1 rfl ?_
      refine Ev.iconst (v := 2) dX2_empty_28 rfl ?_
      obtain ⟨g2, h⟩ := wp_inb h
      refine Ev.iast dX2_empty_29 (sea_k3x gk0) (sea_n3 gk0) (sea_l3 gk0) g2 ?_
      refine Ev.topM (fun M3 eM3 => ?_)
      replace h := wp_lm h M3 eM3
      refine Ev.iinc (v := x1 + 1) dX2_empty_30 1 rfl rfl (Nat.le_of_ble_eq_true rfl) rfl ?_
      show Ev E mi_X2_empty 33 [(1, .int (x1 + 1)), (0, .ref (ad E k0))] [] M3 Q
      refine Ev.goto (tgt := 17) dX2_empty_33 (by decide) ?_
      refine Ev.sub [1, 0] rfl ?_
      exact ih h
noncomputable def f_X2_empty (k0 : Nat) (M : Mem) : Option Mem := lm (up M k0 4 0) fun M1 => lm (up M1 k0 5 0) fun M2 => lm (up M2 k0 6 0) fun M3 => f_X2_empty_17 k0 FU 0 M3
theorem o_X2_empty {E : GE} {Q : Option Value → Mem → Prop} {k0 : Nat} {M : Mem} (gk0 : isSea k0) (h : wp (f_X2_empty k0 M) gVM Q) : Runs E mi_X2_empty [.ref (ad E k0)] M Q := by
  refine Runs.ofEv (by decide +kernel) (Nat.le_of_ble_eq_true rfl) ?_
  show Ev E mi_X2_empty 0 [(0, .ref (ad E k0))] [] M Q
  unfold f_X2_empty at h
  refine Ev.aload_n dX2_empty_0 rfl 0 rfl ?_
  refine Ev.iconst (v := 0) dX2_empty_1 rfl ?_
  refine Ev.putA dX2_empty_2 fl_X2_27 (sea_k0 gk0) (sea_n0 gk0) rfl rfl pf_I rfl rfl ?_
  refine Ev.topM (fun M1 eM1 => ?_)
  replace h := wp_lm h M1 eM1
  refine Ev.aload_n dX2_empty_5 rfl 0 rfl ?_
  refine Ev.iconst (v := 0) dX2_empty_6 rfl ?_
  refine Ev.putA dX2_empty_7 fl_X2_31 (sea_k0 gk0) (sea_n0 gk0) rfl rfl pf_I rfl rfl ?_
  refine Ev.topM (fun M2 eM2 => ?_)
  replace h := wp_lm h M2 eM2
  refine Ev.aload_n dX2_empty_10 rfl 0 rfl ?_
  refine Ev.iconst (v := 0) dX2_empty_11 rfl ?_
  refine Ev.putA dX2_empty_12 fl_X2_34 (sea_k0 gk0) (sea_n0 gk0) rfl rfl pf_I rfl rfl ?_
  refine Ev.topM (fun M3 eM3 => ?_)
  replace h := wp_lm h M3 eM3
  refine Ev.iconst (v := 0) dX2_empty_15 rfl ?_
  refine Ev.istore_n dX2_empty_16 rfl (Nat.le_of_ble_eq_true rfl) rfl ?_
  show Ev E mi_X2_empty 17 [(1, .int 0), (0, .ref (ad E k0))] [] M3 Q
  refine Ev.sub [1, 0] rfl ?_
  exact o_X2_empty_17 gk0 FU h

noncomputable def f_X4_rewind (M : Mem) : Option Mem := lm (up M 2 2 0) fun M1 => some M1
theorem o_X4_rewind {E : GE} {Q : Option Value → Mem → Prop} {M : Mem} (h : wp (f_X4_rewind M) gVM Q) : Runs E mi_X4_rewind [.ref (ad E 2)] M Q := by
  refine Runs.ofEv (by decide +kernel) (Nat.le_of_ble_eq_true rfl) ?_
  show Ev E mi_X4_rewind 0 [(0, .ref (ad E 2))] [] M Q
  unfold f_X4_rewind at h
  refine Ev.aload_n dX4_rewind_0 rfl 0 rfl ?_
  refine Ev.iconst (v := 0) dX4_rewind_1 rfl ?_
  refine Ev.putA dX4_rewind_2 fl_X4_19 rfl (Nat.le_of_ble_eq_true rfl) rfl rfl pf_I rfl rfl ?_
  refine Ev.topM (fun M1 eM1 => ?_)
  replace h := wp_lm h M1 eM1
  exact Ev.vret dX4_rewind_5 rfl (wp_ret h)

noncomputable def f_X4_sortOf_28 (p0 : Int32) (M : Mem) : Option Int32 := if p0 = 59 then some 3 else some 4
theorem o_X4_sortOf_28 {E : GE} {Q : Option Value → Mem → Prop} {p0 : Int32} {M : Mem} (h : wp (f_X4_sortOf_28 p0 M) (gI M) Q) : Ev E mi_X4_sortOf 28 [(0, .int p0)] [] M Q := by
  unfold f_X4_sortOf_28 at h
  refine Ev.iload_n dX4_sortOf_28 rfl 0 rfl ?_
  refine Ev.bipush (v := 59) dX4_sortOf_29 rfl ?_
  refine Ev.icmp_ne (tgt := 38) dX4_sortOf_31 (by decide) (fun c1 => ?_) (fun c1 => ?_)
  · replace h := wp_t c1 h
    refine Ev.iconst (v := 3) dX4_sortOf_34 rfl ?_
    refine Ev.goto (tgt := 39) dX4_sortOf_35 (by decide) ?_
    exact Ev.ret dX4_sortOf_39 rfl rfl (wp_ret h)
  · replace h := wp_f c1 h
    refine Ev.iconst (v := 4) dX4_sortOf_38 rfl ?_
    exact Ev.ret dX4_sortOf_39 rfl rfl (wp_ret h)
noncomputable def f_X4_sortOf_14 (p0 : Int32) (M : Mem) : Option Int32 := if p0 < 48 then f_X4_sortOf_28 p0 M else if 57 < p0 then f_X4_sortOf_28 p0 M else some 2
theorem o_X4_sortOf_14 {E : GE} {Q : Option Value → Mem → Prop} {p0 : Int32} {M : Mem} (h : wp (f_X4_sortOf_14 p0 M) (gI M) Q) : Ev E mi_X4_sortOf 14 [(0, .int p0)] [] M Q := by
  unfold f_X4_sortOf_14 at h
  refine Ev.iload_n dX4_sortOf_14 rfl 0 rfl ?_
  refine Ev.bipush (v := 48) dX4_sortOf_15 rfl ?_
  refine Ev.icmp_lt (tgt := 28) dX4_sortOf_17 (by decide) (fun c1 => ?_) (fun c1 => ?_)
  · replace h := wp_t c1 h
    exact o_X4_sortOf_28 h
  · replace h := wp_f c1 h
    refine Ev.iload_n dX4_sortOf_20 rfl 0 rfl ?_
    refine Ev.bipush (v := 57) dX4_sortOf_21 rfl ?_
    refine Ev.icmp_gt (tgt := 28) dX4_sortOf_23 (by decide) (fun c2 => ?_) (fun c2 => ?_)
    · replace h := wp_t c2 h
      exact o_X4_sortOf_28 h
    · replace h := wp_f c2 h
      refine Ev.iconst (v := 2) dX4_sortOf_26 rfl ?_
      exact Ev.ret dX4_sortOf_27 rfl rfl (wp_ret h)
noncomputable def f_X4_sortOf (p0 : Int32) (M : Mem) : Option Int32 := if p0 < 97 then f_X4_sortOf_14 p0 M else if 122 < p0 then f_X4_sortOf_14 p0 M else some 1
theorem o_X4_sortOf {E : GE} {Q : Option Value → Mem → Prop} {p0 : Int32} {M : Mem} (h : wp (f_X4_sortOf p0 M) (gI M) Q) : Runs E mi_X4_sortOf [.int p0] M Q := by
  refine Runs.ofEv (by decide +kernel) (Nat.le_of_ble_eq_true rfl) ?_
  show Ev E mi_X4_sortOf 0 [(0, .int p0)] [] M Q
  unfold f_X4_sortOf at h
  refine Ev.iload_n dX4_sortOf_0 rfl 0 rfl ?_
  refine Ev.bipush (v := 97) dX4_sortOf_1 rfl ?_
  refine Ev.icmp_lt (tgt := 14) dX4_sortOf_3 (by decide) (fun c1 => ?_) (fun c1 => ?_)
  · replace h := wp_t c1 h
    exact o_X4_sortOf_14 h
  · replace h := wp_f c1 h
    refine Ev.iload_n dX4_sortOf_6 rfl 0 rfl ?_
    refine Ev.bipush (v := 122) dX4_sortOf_7 rfl ?_
    refine Ev.icmp_gt (tgt := 14) dX4_sortOf_9 (by decide) (fun c2 => ?_) (fun c2 => ?_)
    · replace h := wp_t c2 h
      exact o_X4_sortOf_14 h
    · replace h := wp_f c2 h
      refine Ev.iconst (v := 1) dX4_sortOf_12 rfl ?_
      exact Ev.ret dX4_sortOf_13 rfl rfl (wp_ret h)

noncomputable def f_X4_weighNumber_24 : Nat → Int32 → Mem → Option Mem
  | 0, _, _ => none
  | n + 1, x1, M => if (M 2 2) ≤ x1 then some M else rd (M 3) 160 x1 fun r3 => lm (up M 2 5 (((10 * (M 2 5)) + r3) - 48)) fun M4 => (f_X4_weighNumber_24 n) (x1 + 1) M4
theorem o_X4_weighNumber_24 {E : GE} {Q : Option Value → Mem → Prop} : ∀ (n : Nat) {x1 : Int32} {M : Mem}, wp (f_X4_weighNumber_24 n x1 M) gVM Q → Ev E mi_X4_weighNumber 24 [(0, .ref (ad E 2)), (1, .int x1)] [] M Q := by
  intro n
  induction n with
  | zero => intro _ _ h; exact absurd h wp_none
  | succ n ih =>
    intro x1 M h
    unfold f_X4_weighNumber_24 at h
    refine Ev.iload_n dX4_weighNumber_24 rfl 1 rfl ?_
    refine Ev.aload_n dX4_weighNumber_25 rfl 0 rfl ?_
    refine Ev.get dX4_weighNumber_26 fl_X4_19 rfl (Nat.le_of_ble_eq_true rfl) rfl ?_
    refine Ev.icmp_ge (tgt := 59) dX4_weighNumber_29 (by decide) (fun c1 => ?_) (fun c1 => ?_)
    · replace h := wp_t c1 h
      exact Ev.vret dX4_weighNumber_59 rfl (wp_ret h)
    · replace h := wp_f c1 h
      refine Ev.aload_n dX4_weighNumber_32 rfl 0 rfl ?_
      refine Ev.bipush (v := 10) dX4_weighNumber_33 rfl ?_
      refine Ev.aload_n dX4_weighNumber_35 rfl 0 rfl ?_
      refine Ev.get dX4_weighNumber_36 fl_X4_25 rfl (Nat.le_of_ble_eq_true rfl) rfl ?_
      refine Ev.imul dX4_weighNumber_39 ?_
      refine Ev.aload_n dX4_weighNumber_40 rfl 0 rfl ?_
      refine Ev.get dX4_weighNumber_41 fl_X4_9 rfl (Nat.le_of_ble_eq_true rfl) (v := .ref (ad E 3)) rfl ?_
      refine Ev.iload_n dX4_weighNumber_44 rfl 1 rfl ?_
      obtain ⟨g2, h⟩ := wp_rd h
      refine Ev.iald dX4_weighNumber_45 rfl (Nat.le_of_ble_eq_true rfl) rfl g2 ?_
      refine Ev.topi (fun r3 er3 => ?_)
      replace h := h r3 er3
      refine Ev.iadd dX4_weighNumber_46 ?_
      refine Ev.bipush (v := 48) dX4_weighNumber_47 rfl ?_
      refine Ev.isub dX4_weighNumber_49 ?_
      refine Ev.putA dX4_weighNumber_50 fl_X4_25 rfl (Nat.le_of_ble_eq_true rfl) rfl rfl pf_I rfl rfl ?_
      refine Ev.topM (fun M4 eM4 => ?_)
      replace h := wp_lm h M4 eM4
      refine Ev.iinc (v := x1 + 1) dX4_weighNumber_53 1 rfl rfl (Nat.le_of_ble_eq_true rfl) rfl ?_
      show Ev E mi_X4_weighNumber 56 [(1, .int (x1 + 1)), (0, .ref (ad E 2))] [] M4 Q
      refine Ev.goto (tgt := 24) dX4_weighNumber_56 (by decide) ?_
      refine Ev.sub [1, 0] rfl ?_
      exact ih h
noncomputable def f_X4_weighNumber (M : Mem) : Option Mem := if ((M 2 2) - (M 2 4)) ≤ 2 then li (M 2 4) fun y2 => f_X4_weighNumber_24 FU y2 M else lm (up M 2 3 4) fun M3 => some M3
theorem o_X4_weighNumber {E : GE} {Q : Option Value → Mem → Prop} {M : Mem} (h : wp (f_X4_weighNumber M) gVM Q) : Runs E mi_X4_weighNumber [.ref (ad E 2)] M Q := by
  refine Runs.ofEv (by decide +kernel) (Nat.le_of_ble_eq_true rfl) ?_
  show Ev E mi_X4_weighNumber 0 [(0, .ref (ad E 2))] [] M Q
  unfold f_X4_weighNumber at h
  refine Ev.aload_n dX4_weighNumber_0 rfl 0 rfl ?_
  refine Ev.get dX4_weighNumber_1 fl_X4_19 rfl (Nat.le_of_ble_eq_true rfl) rfl ?_
  refine Ev.aload_n dX4_weighNumber_4 rfl 0 rfl ?_
  refine Ev.get dX4_weighNumber_5 fl_X4_22 rfl (Nat.le_of_ble_eq_true rfl) rfl ?_
  refine Ev.isub dX4_weighNumber_8 ?_
  refine Ev.iconst (v := 2) dX4_weighNumber_9 rfl ?_
  refine Ev.icmp_le (tgt := 19) dX4_weighNumber_10 (by decide) (fun c1 => ?_) (fun c1 => ?_)
  · replace h := wp_t c1 h
    refine Ev.aload_n dX4_weighNumber_19 rfl 0 rfl ?_
    refine Ev.get dX4_weighNumber_20 fl_X4_22 rfl (Nat.le_of_ble_eq_true rfl) rfl ?_
    refine Ev.topi (fun y2 ey2 => ?_)
    replace h := wp_li h y2 ey2
    refine Ev.istore_n dX4_weighNumber_23 rfl (Nat.le_of_ble_eq_true rfl) rfl ?_
    show Ev E mi_X4_weighNumber 24 [(1, .int y2), (0, .ref (ad E 2))] [] M Q
    refine Ev.sub [1, 0] rfl ?_
    exact o_X4_weighNumber_24 FU h
  · replace h := wp_f c1 h
    refine Ev.aload_n dX4_weighNumber_13 rfl 0 rfl ?_
    refine Ev.iconst (v := 4) dX4_weighNumber_14 rfl ?_
    refine Ev.putA dX4_weighNumber_15 fl_X4_32 rfl (Nat.le_of_ble_eq_true rfl) rfl rfl pf_I rfl rfl ?_
    refine Ev.topM (fun M3 eM3 => ?_)
    replace h := wp_lm h M3 eM3
    exact Ev.vret dX4_weighNumber_18 rfl (wp_ret h)

noncomputable def f_X4_take_169 (M : Mem) : Option Mem := if (M 2 3) = 2 then (f_X4_weighNumber M).bind fun r2 => some r2 else some M
theorem o_X4_take_169 {E : GE} {Q : Option Value → Mem → Prop} {M : Mem} (h : wp (f_X4_take_169 M) gVM Q) : Ev E mi_X4_take 169 [(0, .ref (ad E 2))] [] M Q := by
  unfold f_X4_take_169 at h
  refine Ev.aload_n dX4_take_169 rfl 0 rfl ?_
  refine Ev.get dX4_take_170 fl_X4_32 rfl (Nat.le_of_ble_eq_true rfl) rfl ?_
  refine Ev.iconst (v := 2) dX4_take_173 rfl ?_
  refine Ev.icmp_ne (tgt := 181) dX4_take_174 (by decide) (fun c1 => ?_) (fun c1 => ?_)
  · replace h := wp_t c1 h
    refine Ev.aload_n dX4_take_177 rfl 0 rfl ?_
    obtain ⟨r2, er2, h⟩ := wp_bind h
    refine Ev.callV (k := 2) (as := []) (rest := []) dX4_take_178 cl_X4_35 mok_X4_weighNumber rfl (Nat.le_of_ble_eq_true rfl) (Nat.le_of_ble_eq_true rfl) ⟨Nat.le_of_ble_eq_true rfl, Nat.le_of_ble_eq_true rfl⟩ (Nat.le_of_ble_eq_true rfl) rfl rfl (o_X4_weighNumber ⟨r2, er2, ?_⟩)
    show Ev E mi_X4_take 181 [(0, .ref (ad E 2))] [] r2 Q
    exact Ev.vret dX4_take_181 rfl (wp_ret h)
  · replace h := wp_f c1 h
    exact Ev.vret dX4_take_181 rfl (wp_ret h)
noncomputable def f_X4_take_122 : Nat → Int32 → Mem → Option Mem
  | 0, _, _ => none
  | n + 1, x1, M => if x1 = 0 then f_X4_take_169 M else if (M 2 1) ≤ (M 2 2) then f_X4_take_169 M else rd (M 3) 160 (M 2 2) fun r4 => (f_X4_sortOf r4 M).bind fun r5 => if r5 = (M 2 3) then lm (up M 2 2 ((M 2 2) + 1)) fun M7 => (f_X4_take_122 n) x1 M7 else f_X4_take_169 M
theorem o_X4_take_122 {E : GE} {Q : Option Value → Mem → Prop} : ∀ (n : Nat) {x1 : Int32} {M : Mem}, wp (f_X4_take_122 n x1 M) gVM Q → Ev E mi_X4_take 122 [(0, .ref (ad E 2)), (1, .int x1)] [] M Q := by
  intro n
  induction n with
  | zero => intro _ _ h; exact absurd h wp_none
  | succ n ih =>
    intro x1 M h
    unfold f_X4_take_122 at h
    refine Ev.iload_n dX4_take_122 rfl 1 rfl ?_
    refine Ev.if_eq (tgt := 169) dX4_take_123 (by decide) (fun c1 => ?_) (fun c1 => ?_)
    · replace h := wp_t c1 h
      refine Ev.sub [0] rfl ?_
      exact o_X4_take_169 h
    · replace h := wp_f c1 h
      refine Ev.aload_n dX4_take_126 rfl 0 rfl ?_
      refine Ev.get dX4_take_127 fl_X4_19 rfl (Nat.le_of_ble_eq_true rfl) rfl ?_
      refine Ev.aload_n dX4_take_130 rfl 0 rfl ?_
      refine Ev.get dX4_take_131 fl_X4_15 rfl (Nat.le_of_ble_eq_true rfl) rfl ?_
      refine Ev.icmp_ge (tgt := 169) dX4_take_134 (by decide) (fun c2 => ?_) (fun c2 => ?_)
      · replace h := wp_t c2 h
        refine Ev.sub [0] rfl ?_
        exact o_X4_take_169 h
      · replace h := wp_f c2 h
        refine Ev.aload_n dX4_take_137 rfl 0 rfl ?_
        refine Ev.get dX4_take_138 fl_X4_9 rfl (Nat.le_of_ble_eq_true rfl) (v := .ref (ad E 3)) rfl ?_
        refine Ev.aload_n dX4_take_141 rfl 0 rfl ?_
        refine Ev.get dX4_take_142 fl_X4_19 rfl (Nat.le_of_ble_eq_true rfl) rfl ?_
        obtain ⟨g3, h⟩ := wp_rd h
        refine Ev.iald dX4_take_145 rfl (Nat.le_of_ble_eq_true rfl) rfl g3 ?_
        refine Ev.topi (fun r4 er4 => ?_)
        replace h := h r4 er4
        obtain ⟨r5, er5, h⟩ := wp_bind h
        refine Ev.callS (as := [.int r4]) (rest := []) dX4_take_146 cl_X4_28 mos_X4_sortOf ⟨Nat.le_of_ble_eq_true rfl, Nat.le_of_ble_eq_true rfl⟩ (Nat.le_of_ble_eq_true rfl) rfl rfl (o_X4_sortOf ⟨r5, er5, ?_⟩)
        show Ev E mi_X4_take 149 [(0, .ref (ad E 2)), (1, .int x1)] [.int r5] M Q
        refine Ev.aload_n dX4_take_149 rfl 0 rfl ?_
        refine Ev.get dX4_take_150 fl_X4_32 rfl (Nat.le_of_ble_eq_true rfl) rfl ?_
        refine Ev.icmp_ne (tgt := 169) dX4_take_153 (by decide) (fun c6 => ?_) (fun c6 => ?_)
        · replace h := wp_t c6 h
          refine Ev.aload_n dX4_take_156 rfl 0 rfl ?_
          refine Ev.dup dX4_take_157 rfl ?_
          refine Ev.get dX4_take_158 fl_X4_19 rfl (Nat.le_of_ble_eq_true rfl) rfl ?_
          refine Ev.iconst (v := 1) dX4_take_161 rfl ?_
          refine Ev.iadd dX4_take_162 ?_
          refine Ev.putA dX4_take_163 fl_X4_19 rfl (Nat.le_of_ble_eq_true rfl) rfl rfl pf_I rfl rfl ?_
          refine Ev.topM (fun M7 eM7 => ?_)
          replace h := wp_lm h M7 eM7
          refine Ev.goto (tgt := 122) dX4_take_166 (by decide) ?_
          exact ih h
        · replace h := wp_f c6 h
          refine Ev.sub [0] rfl ?_
          exact o_X4_take_169 h
noncomputable def f_X4_take_121 (s0 : Int32) (M : Mem) : Option Mem := f_X4_take_122 FU s0 M
theorem o_X4_take_121 {E : GE} {Q : Option Value → Mem → Prop} {s0 : Int32} {M : Mem} (h : wp (f_X4_take_121 s0 M) gVM Q) : Ev E mi_X4_take 121 [(0, .ref (ad E 2))] [.int s0] M Q := by
  unfold f_X4_take_121 at h
  refine Ev.istore_n dX4_take_121 rfl (Nat.le_of_ble_eq_true rfl) rfl ?_
  show Ev E mi_X4_take 122 [(1, .int s0), (0, .ref (ad E 2))] [] M Q
  refine Ev.sub [1, 0] rfl ?_
  exact o_X4_take_122 FU h
noncomputable def f_X4_take_116 (M : Mem) : Option Mem := f_X4_take_121 1 M
theorem o_X4_take_116 {E : GE} {Q : Option Value → Mem → Prop} {M : Mem} (h : wp (f_X4_take_116 M) gVM Q) : Ev E mi_X4_take 116 [(0, .ref (ad E 2))] [] M Q := by
  unfold f_X4_take_116 at h
  refine Ev.iconst (v := 1) dX4_take_116 rfl ?_
  refine Ev.goto (tgt := 121) dX4_take_117 (by decide) ?_
  exact o_X4_take_121 h
noncomputable def f_X4_take_79 (s1 : Int32) (M : Mem) : Option Mem := lm (up M 2 3 s1) fun M1 => if (M1 2 3) = 0 then some M1 else lm (up M1 2 2 ((M1 2 2) + 1)) fun M3 => if (M3 2 3) = 1 then f_X4_take_116 M3 else if (M3 2 3) = 2 then f_X4_take_116 M3 else f_X4_take_121 0 M3
theorem o_X4_take_79 {E : GE} {Q : Option Value → Mem → Prop} {s1 : Int32} {M : Mem} (h : wp (f_X4_take_79 s1 M) gVM Q) : Ev E mi_X4_take 79 [(0, .ref (ad E 2))] [.int s1, .ref (ad E 2)] M Q := by
  unfold f_X4_take_79 at h
  refine Ev.putA dX4_take_79 fl_X4_32 rfl (Nat.le_of_ble_eq_true rfl) rfl rfl pf_I rfl rfl ?_
  refine Ev.topM (fun M1 eM1 => ?_)
  replace h := wp_lm h M1 eM1
  refine Ev.aload_n dX4_take_82 rfl 0 rfl ?_
  refine Ev.get dX4_take_83 fl_X4_32 rfl (Nat.le_of_ble_eq_true rfl) rfl ?_
  refine Ev.if_ne (tgt := 90) dX4_take_86 (by decide) (fun c2 => ?_) (fun c2 => ?_)
  · replace h := wp_t c2 h
    exact Ev.vret dX4_take_89 rfl (wp_ret h)
  · replace h := wp_f c2 h
    refine Ev.aload_n dX4_take_90 rfl 0 rfl ?_
    refine Ev.dup dX4_take_91 rfl ?_
    refine Ev.get dX4_take_92 fl_X4_19 rfl (Nat.le_of_ble_eq_true rfl) rfl ?_
    refine Ev.iconst (v := 1) dX4_take_95 rfl ?_
    refine Ev.iadd dX4_take_96 ?_
    refine Ev.putA dX4_take_97 fl_X4_19 rfl (Nat.le_of_ble_eq_true rfl) rfl rfl pf_I rfl rfl ?_
    refine Ev.topM (fun M3 eM3 => ?_)
    replace h := wp_lm h M3 eM3
    refine Ev.aload_n dX4_take_100 rfl 0 rfl ?_
    refine Ev.get dX4_take_101 fl_X4_32 rfl (Nat.le_of_ble_eq_true rfl) rfl ?_
    refine Ev.iconst (v := 1) dX4_take_104 rfl ?_
    refine Ev.icmp_eq (tgt := 116) dX4_take_105 (by decide) (fun c4 => ?_) (fun c4 => ?_)
    · replace h := wp_t c4 h
      exact o_X4_take_116 h
    · replace h := wp_f c4 h
      refine Ev.aload_n dX4_take_108 rfl 0 rfl ?_
      refine Ev.get dX4_take_109 fl_X4_32 rfl (Nat.le_of_ble_eq_true rfl) rfl ?_
      refine Ev.iconst (v := 2) dX4_take_112 rfl ?_
      refine Ev.icmp_ne (tgt := 120) dX4_take_113 (by decide) (fun c5 => ?_) (fun c5 => ?_)
      · replace h := wp_t c5 h
        exact o_X4_take_116 h
      · replace h := wp_f c5 h
        refine Ev.iconst (v := 0) dX4_take_120 rfl ?_
        exact o_X4_take_121 h
noncomputable def f_X4_take_38 (M : Mem) : Option Mem := lm (up M 2 4 (M 2 2)) fun M1 => lm (up M1 2 5 0) fun M2 => if (M2 2 1) ≤ (M2 2 2) then f_X4_take_79 0 M2 else rd (M2 3) 160 (M2 2 2) fun r5 => (f_X4_sortOf r5 M2).bind fun r6 => f_X4_take_79 r6 M2
theorem o_X4_take_38 {E : GE} {Q : Option Value → Mem → Prop} {M : Mem} (h : wp (f_X4_take_38 M) gVM Q) : Ev E mi_X4_take 38 [(0, .ref (ad E 2))] [] M Q := by
  unfold f_X4_take_38 at h
  refine Ev.aload_n dX4_take_38 rfl 0 rfl ?_
  refine Ev.aload_n dX4_take_39 rfl 0 rfl ?_
  refine Ev.get dX4_take_40 fl_X4_19 rfl (Nat.le_of_ble_eq_true rfl) rfl ?_
  refine Ev.putA dX4_take_43 fl_X4_22 rfl (Nat.le_of_ble_eq_true rfl) rfl rfl pf_I rfl rfl ?_
  refine Ev.topM (fun M1 eM1 => ?_)
  replace h := wp_lm h M1 eM1
  refine Ev.aload_n dX4_take_46 rfl 0 rfl ?_
  refine Ev.iconst (v := 0) dX4_take_47 rfl ?_
  refine Ev.putA dX4_take_48 fl_X4_25 rfl (Nat.le_of_ble_eq_true rfl) rfl rfl pf_I rfl rfl ?_
  refine Ev.topM (fun M2 eM2 => ?_)
  replace h := wp_lm h M2 eM2
  refine Ev.aload_n dX4_take_51 rfl 0 rfl ?_
  refine Ev.aload_n dX4_take_52 rfl 0 rfl ?_
  refine Ev.get dX4_take_53 fl_X4_19 rfl (Nat.le_of_ble_eq_true rfl) rfl ?_
  refine Ev.aload_n dX4_take_56 rfl 0 rfl ?_
  refine Ev.get dX4_take_57 fl_X4_15 rfl (Nat.le_of_ble_eq_true rfl) rfl ?_
  refine Ev.icmp_ge (tgt := 78) dX4_take_60 (by decide) (fun c3 => ?_) (fun c3 => ?_)
  · replace h := wp_t c3 h
    refine Ev.iconst (v := 0) dX4_take_78 rfl ?_
    exact o_X4_take_79 h
  · replace h := wp_f c3 h
    refine Ev.aload_n dX4_take_63 rfl 0 rfl ?_
    refine Ev.get dX4_take_64 fl_X4_9 rfl (Nat.le_of_ble_eq_true rfl) (v := .ref (ad E 3)) rfl ?_
    refine Ev.aload_n dX4_take_67 rfl 0 rfl ?_
    refine Ev.get dX4_take_68 fl_X4_19 rfl (Nat.le_of_ble_eq_true rfl) rfl ?_
    obtain ⟨g4, h⟩ := wp_rd h
    refine Ev.iald dX4_take_71 rfl (Nat.le_of_ble_eq_true rfl) rfl g4 ?_
    refine Ev.topi (fun r5 er5 => ?_)
    replace h := h r5 er5
    obtain ⟨r6, er6, h⟩ := wp_bind h
    refine Ev.callS (as := [.int r5]) (rest := [.ref (ad E 2)]) dX4_take_72 cl_X4_28 mos_X4_sortOf ⟨Nat.le_of_ble_eq_true rfl, Nat.le_of_ble_eq_true rfl⟩ (Nat.le_of_ble_eq_true rfl) rfl rfl (o_X4_sortOf ⟨r6, er6, ?_⟩)
    show Ev E mi_X4_take 75 [(0, .ref (ad E 2))] [.int r6, .ref (ad E 2)] M2 Q
    refine Ev.goto (tgt := 79) dX4_take_75 (by decide) ?_
    exact o_X4_take_79 h
noncomputable def f_X4_take_0 : Nat → Mem → Option Mem
  | 0, _ => none
  | n + 1, M => if (M 2 1) ≤ (M 2 2) then f_X4_take_38 M else rd (M 3) 160 (M 2 2) fun r3 => if r3 = 32 then lm (up M 2 2 ((M 2 2) + 1)) fun M5 => (f_X4_take_0 n) M5 else f_X4_take_38 M
theorem o_X4_take_0 {E : GE} {Q : Option Value → Mem → Prop} : ∀ (n : Nat) {M : Mem}, wp (f_X4_take_0 n M) gVM Q → Ev E mi_X4_take 0 [(0, .ref (ad E 2))] [] M Q := by
  intro n
  induction n with
  | zero => intro _ h; exact absurd h wp_none
  | succ n ih =>
    intro M h
    unfold f_X4_take_0 at h
    refine Ev.aload_n dX4_take_0 rfl 0 rfl ?_
    refine Ev.get dX4_take_1 fl_X4_19 rfl (Nat.le_of_ble_eq_true rfl) rfl ?_
    refine Ev.aload_n dX4_take_4 rfl 0 rfl ?_
    refine Ev.get dX4_take_5 fl_X4_15 rfl (Nat.le_of_ble_eq_true rfl) rfl ?_
    refine Ev.icmp_ge (tgt := 38) dX4_take_8 (by decide) (fun c1 => ?_) (fun c1 => ?_)
    · replace h := wp_t c1 h
      exact o_X4_take_38 h
    · replace h := wp_f c1 h
      refine Ev.aload_n dX4_take_11 rfl 0 rfl ?_
      refine Ev.get dX4_take_12 fl_X4_9 rfl (Nat.le_of_ble_eq_true rfl) (v := .ref (ad E 3)) rfl ?_
      refine Ev.aload_n dX4_take_15 rfl 0 rfl ?_
      refine Ev.get dX4_take_16 fl_X4_19 rfl (Nat.le_of_ble_eq_true rfl) rfl ?_
      obtain ⟨g2, h⟩ := wp_rd h
      refine Ev.iald dX4_take_19 rfl (Nat.le_of_ble_eq_true rfl) rfl g2 ?_
      refine Ev.topi (fun r3 er3 => ?_)
      replace h := h r3 er3
      refine Ev.bipush (v := 32) dX4_take_20 rfl ?_
      refine Ev.icmp_ne (tgt := 38) dX4_take_22 (by decide) (fun c4 => ?_) (fun c4 => ?_)
      · replace h := wp_t c4 h
        refine Ev.aload_n dX4_take_25 rfl 0 rfl ?_
        refine Ev.dup dX4_take_26 rfl ?_
        refine Ev.get dX4_take_27 fl_X4_19 rfl (Nat.le_of_ble_eq_true rfl) rfl ?_
        refine Ev.iconst (v := 1) dX4_take_30 rfl ?_
        refine Ev.iadd dX4_take_31 ?_
        refine Ev.putA dX4_take_32 fl_X4_19 rfl (Nat.le_of_ble_eq_true rfl) rfl rfl pf_I rfl rfl ?_
        refine Ev.topM (fun M5 eM5 => ?_)
        replace h := wp_lm h M5 eM5
        refine Ev.goto (tgt := 0) dX4_take_35 (by decide) ?_
        exact ih h
      · replace h := wp_f c4 h
        exact o_X4_take_38 h
noncomputable def f_X4_take (M : Mem) : Option Mem := f_X4_take_0 FU M
theorem o_X4_take {E : GE} {Q : Option Value → Mem → Prop} {M : Mem} (h : wp (f_X4_take M) gVM Q) : Runs E mi_X4_take [.ref (ad E 2)] M Q := by
  refine Runs.ofEv (by decide +kernel) (Nat.le_of_ble_eq_true rfl) ?_
  show Ev E mi_X4_take 0 [(0, .ref (ad E 2))] [] M Q
  unfold f_X4_take at h
  refine Ev.sub [0] rfl ?_
  exact o_X4_take_0  FU h

noncomputable def f_X4_isWord_28 (k1 : Nat) (M : Mem) : Nat → Int32 → Option Int32
  | 0, _ => none
  | n + 1, x2 => (f_J0_length_8abf5 k1 M).bind fun r1 => if r1 ≤ x2 then some 1 else rd (M 3) 160 ((M 2 4) + x2) fun r4 => (f_J0_charAt_5068e k1 x2 M).bind fun r5 => if r4 = r5 then (f_X4_isWord_28 k1 M n) (x2 + 1) else some 0
theorem o_X4_isWord_28 {E : GE} {Q : Option Value → Mem → Prop} {k1 : Nat} {M : Mem} (gk1 : k1 < 8) : ∀ (n : Nat) {x2 : Int32}, wp (f_X4_isWord_28 k1 M n x2) (gI M) Q → Ev E mi_X4_isWord 28 [(0, .ref (ad E 2)), (1, .ref (sK E k1)), (2, .int x2)] [] M Q := by
  intro n
  induction n with
  | zero => intro _ h; exact absurd h wp_none
  | succ n ih =>
    intro x2 h
    unfold f_X4_isWord_28 at h
    refine Ev.iload_n dX4_isWord_28 rfl 2 rfl ?_
    refine Ev.aload_n dX4_isWord_29 rfl 1 rfl ?_
    obtain ⟨r1, er1, h⟩ := wp_bind h
    refine Ev.callT (as := []) (rest := [.int x2]) dX4_isWord_30 cl_X4_38 mok_J0_length_8abf5 rfl gk1 ⟨Nat.le_of_ble_eq_true rfl, Nat.le_of_ble_eq_true rfl⟩ (Nat.le_of_ble_eq_true rfl) rfl rfl (o_J0_length_8abf5 gk1 ⟨r1, er1, ?_⟩)
    show Ev E mi_X4_isWord 33 [(0, .ref (ad E 2)), (1, .ref (sK E k1)), (2, .int x2)] [.int r1, .int x2] M Q
    refine Ev.icmp_ge (tgt := 63) dX4_isWord_33 (by decide) (fun c2 => ?_) (fun c2 => ?_)
    · replace h := wp_t c2 h
      refine Ev.iconst (v := 1) dX4_isWord_63 rfl ?_
      exact Ev.ret dX4_isWord_64 rfl rfl (wp_ret h)
    · replace h := wp_f c2 h
      refine Ev.aload_n dX4_isWord_36 rfl 0 rfl ?_
      refine Ev.get dX4_isWord_37 fl_X4_9 rfl (Nat.le_of_ble_eq_true rfl) (v := .ref (ad E 3)) rfl ?_
      refine Ev.aload_n dX4_isWord_40 rfl 0 rfl ?_
      refine Ev.get dX4_isWord_41 fl_X4_22 rfl (Nat.le_of_ble_eq_true rfl) rfl ?_
      refine Ev.iload_n dX4_isWord_44 rfl 2 rfl ?_
      refine Ev.iadd dX4_isWord_45 ?_
      obtain ⟨g3, h⟩ := wp_rd h
      refine Ev.iald dX4_isWord_46 rfl (Nat.le_of_ble_eq_true rfl) rfl g3 ?_
      refine Ev.topi (fun r4 er4 => ?_)
      replace h := h r4 er4
      refine Ev.aload_n dX4_isWord_47 rfl 1 rfl ?_
      refine Ev.iload_n dX4_isWord_48 rfl 2 rfl ?_
      obtain ⟨r5, er5, h⟩ := wp_bind h
      refine Ev.callT (as := [.int x2]) (rest := [.int r4]) dX4_isWord_49 cl_X4_43 mok_J0_charAt_5068e rfl gk1 ⟨Nat.le_of_ble_eq_true rfl, Nat.le_of_ble_eq_true rfl⟩ (Nat.le_of_ble_eq_true rfl) rfl rfl (o_J0_charAt_5068e gk1 ⟨r5, er5, ?_⟩)
      show Ev E mi_X4_isWord 52 [(0, .ref (ad E 2)), (1, .ref (sK E k1)), (2, .int x2)] [.int r5, .int r4] M Q
      refine Ev.icmp_eq (tgt := 57) dX4_isWord_52 (by decide) (fun c6 => ?_) (fun c6 => ?_)
      · replace h := wp_t c6 h
        refine Ev.iinc (v := x2 + 1) dX4_isWord_57 2 rfl rfl (Nat.le_of_ble_eq_true rfl) rfl ?_
        show Ev E mi_X4_isWord 60 [(2, .int (x2 + 1)), (0, .ref (ad E 2)), (1, .ref (sK E k1))] [] M Q
        refine Ev.goto (tgt := 28) dX4_isWord_60 (by decide) ?_
        refine Ev.sub [1, 2, 0] rfl ?_
        exact ih h
      · replace h := wp_f c6 h
        refine Ev.iconst (v := 0) dX4_isWord_55 rfl ?_
        exact Ev.ret dX4_isWord_56 rfl rfl (wp_ret h)
noncomputable def f_X4_isWord (k1 : Nat) (M : Mem) : Option Int32 := if (M 2 3) = 1 then (f_J0_length_8abf5 k1 M).bind fun r2 => if ((M 2 2) - (M 2 4)) = r2 then f_X4_isWord_28 k1 M FU 0 else some 0 else some 0
theorem o_X4_isWord {E : GE} {Q : Option Value → Mem → Prop} {k1 : Nat} {M : Mem} (gk1 : k1 < 8) (h : wp (f_X4_isWord k1 M) (gI M) Q) : Runs E mi_X4_isWord [.ref (ad E 2), .ref (sK E k1)] M Q := by
  refine Runs.ofEv (by decide +kernel) (Nat.le_of_ble_eq_true rfl) ?_
  show Ev E mi_X4_isWord 0 [(0, .ref (ad E 2)), (1, .ref (sK E k1))] [] M Q
  unfold f_X4_isWord at h
  refine Ev.aload_n dX4_isWord_0 rfl 0 rfl ?_
  refine Ev.get dX4_isWord_1 fl_X4_32 rfl (Nat.le_of_ble_eq_true rfl) rfl ?_
  refine Ev.iconst (v := 1) dX4_isWord_4 rfl ?_
  refine Ev.icmp_ne (tgt := 24) dX4_isWord_5 (by decide) (fun c1 => ?_) (fun c1 => ?_)
  · replace h := wp_t c1 h
    refine Ev.aload_n dX4_isWord_8 rfl 0 rfl ?_
    refine Ev.get dX4_isWord_9 fl_X4_19 rfl (Nat.le_of_ble_eq_true rfl) rfl ?_
    refine Ev.aload_n dX4_isWord_12 rfl 0 rfl ?_
    refine Ev.get dX4_isWord_13 fl_X4_22 rfl (Nat.le_of_ble_eq_true rfl) rfl ?_
    refine Ev.isub dX4_isWord_16 ?_
    refine Ev.aload_n dX4_isWord_17 rfl 1 rfl ?_
    obtain ⟨r2, er2, h⟩ := wp_bind h
    refine Ev.callT (as := []) (rest := [.int ((M 2 2) - (M 2 4))]) dX4_isWord_18 cl_X4_38 mok_J0_length_8abf5 rfl gk1 ⟨Nat.le_of_ble_eq_true rfl, Nat.le_of_ble_eq_true rfl⟩ (Nat.le_of_ble_eq_true rfl) rfl rfl (o_J0_length_8abf5 gk1 ⟨r2, er2, ?_⟩)
    show Ev E mi_X4_isWord 21 [(0, .ref (ad E 2)), (1, .ref (sK E k1))] [.int r2, .int ((M 2 2) - (M 2 4))] M Q
    refine Ev.icmp_eq (tgt := 26) dX4_isWord_21 (by decide) (fun c3 => ?_) (fun c3 => ?_)
    · replace h := wp_t c3 h
      refine Ev.iconst (v := 0) dX4_isWord_26 rfl ?_
      refine Ev.istore_n dX4_isWord_27 rfl (Nat.le_of_ble_eq_true rfl) rfl ?_
      show Ev E mi_X4_isWord 28 [(2, .int 0), (0, .ref (ad E 2)), (1, .ref (sK E k1))] [] M Q
      refine Ev.sub [1, 2, 0] rfl ?_
      exact o_X4_isWord_28 gk1 FU h
    · replace h := wp_f c3 h
      refine Ev.iconst (v := 0) dX4_isWord_24 rfl ?_
      exact Ev.ret dX4_isWord_25 rfl rfl (wp_ret h)
  · replace h := wp_f c1 h
    refine Ev.iconst (v := 0) dX4_isWord_24 rfl ?_
    exact Ev.ret dX4_isWord_25 rfl rfl (wp_ret h)

noncomputable def f_X2_putTub (k0 : Nat) (p1 : Int32) (p2 : Int32) (p3 : Int32) (M : Mem) : Option Mem := inb ((5 * p1) + p2) 20 <| lm (up M (k0 + 1) ((5 * p1) + p2).toNatClampNeg p3) fun M2 => some M2
theorem o_X2_putTub {E : GE} {Q : Option Value → Mem → Prop} {k0 : Nat} {p1 : Int32} {p2 : Int32} {p3 : Int32} {M : Mem} (gk0 : isSea k0) (h : wp (f_X2_putTub k0 p1 p2 p3 M) gVM Q) : Runs E mi_X2_putTub [.ref (ad E k0), .int p1, .int p2, .int p3] M Q := by
  refine Runs.ofEv (by decide +kernel) (Nat.le_of_ble_eq_true rfl) ?_
  show Ev E mi_X2_putTub 0 [(0, .ref (ad E k0)), (1, .int p1), (2, .int p2), (3, .int p3)] [] M Q
  unfold f_X2_putTub at h
  refine Ev.aload_n dX2_putTub_0 rfl 0 rfl ?_
  refine Ev.get dX2_putTub_1 fl_X2_9 (sea_k0 gk0) (sea_n0 gk0) (sea_fv0 gk0) ?_
  refine Ev.iconst (v := 5) dX2_putTub_4 rfl ?_
  refine Ev.iload_n dX2_putTub_5 rfl 1 rfl ?_
  refine Ev.imul dX2_putTub_6 ?_
  refine Ev.iload_n dX2_putTub_7 rfl 2 rfl ?_
  refine Ev.iadd dX2_putTub_8 ?_
  refine Ev.iload_n dX2_putTub_9 rfl 3 rfl ?_
  obtain ⟨g1, h⟩ := wp_inb h
  refine Ev.iast dX2_putTub_10 (sea_k1x gk0) (sea_n1 gk0) (sea_l1 gk0) g1 ?_
  refine Ev.topM (fun M2 eM2 => ?_)
  replace h := wp_lm h M2 eM2
  exact Ev.vret dX2_putTub_11 rfl (wp_ret h)

noncomputable def f_X2_putHeir (k0 : Nat) (p1 : Int32) (p2 : Int32) (p3 : Int32) (M : Mem) : Option Mem := inb ((4 * p1) + p2) 16 <| lm (up M (k0 + 2) ((4 * p1) + p2).toNatClampNeg p3) fun M2 => some M2
theorem o_X2_putHeir {E : GE} {Q : Option Value → Mem → Prop} {k0 : Nat} {p1 : Int32} {p2 : Int32} {p3 : Int32} {M : Mem} (gk0 : isSea k0) (h : wp (f_X2_putHeir k0 p1 p2 p3 M) gVM Q) : Runs E mi_X2_putHeir [.ref (ad E k0), .int p1, .int p2, .int p3] M Q := by
  refine Runs.ofEv (by decide +kernel) (Nat.le_of_ble_eq_true rfl) ?_
  show Ev E mi_X2_putHeir 0 [(0, .ref (ad E k0)), (1, .int p1), (2, .int p2), (3, .int p3)] [] M Q
  unfold f_X2_putHeir at h
  refine Ev.aload_n dX2_putHeir_0 rfl 0 rfl ?_
  refine Ev.get dX2_putHeir_1 fl_X2_15 (sea_k0 gk0) (sea_n0 gk0) (sea_fv1 gk0) ?_
  refine Ev.iconst (v := 4) dX2_putHeir_4 rfl ?_
  refine Ev.iload_n dX2_putHeir_5 rfl 1 rfl ?_
  refine Ev.imul dX2_putHeir_6 ?_
  refine Ev.iload_n dX2_putHeir_7 rfl 2 rfl ?_
  refine Ev.iadd dX2_putHeir_8 ?_
  refine Ev.iload_n dX2_putHeir_9 rfl 3 rfl ?_
  obtain ⟨g1, h⟩ := wp_inb h
  refine Ev.iast dX2_putHeir_10 (sea_k2x gk0) (sea_n2 gk0) (sea_l2 gk0) g1 ?_
  refine Ev.topM (fun M2 eM2 => ?_)
  replace h := wp_lm h M2 eM2
  exact Ev.vret dX2_putHeir_11 rfl (wp_ret h)

noncomputable def f_X2_become (k0 : Nat) (k1 : Nat) (M : Mem) : Option Mem := lm (up M k0 4 (M k1 4)) fun M1 => lm (up M1 k0 5 (M1 k1 5)) fun M2 => lm (up M2 k0 6 (M2 k1 6)) fun M3 => lm (cp M3 (k1 + 1) (k0 + 1) 20) fun M4 => lm (cp M4 (k1 + 2) (k0 + 2) 16) fun M5 => lm (cp M5 (k1 + 3) (k0 + 3) 10) fun M6 => lm (cp M6 (k1 + 4) (k0 + 4) 24) fun M7 => some M7
theorem o_X2_become {E : GE} {Q : Option Value → Mem → Prop} {k0 : Nat} {k1 : Nat} {M : Mem} (gk0 : isSea k0) (gk1 : isSea k1) (h : wp (f_X2_become k0 k1 M) gVM Q) : Runs E mi_X2_become [.ref (ad E k0), .ref (ad E k1)] M Q := by
  refine Runs.ofEv (by decide +kernel) (Nat.le_of_ble_eq_true rfl) ?_
  show Ev E mi_X2_become 0 [(0, .ref (ad E k0)), (1, .ref (ad E k1))] [] M Q
  unfold f_X2_become at h
  refine Ev.aload_n dX2_become_0 rfl 0 rfl ?_
  refine Ev.aload_n dX2_become_1 rfl 1 rfl ?_
  refine Ev.get dX2_become_2 fl_X2_27 (sea_k0 gk1) (sea_n0 gk1) rfl ?_
  refine Ev.putA dX2_become_5 fl_X2_27 (sea_k0 gk0) (sea_n0 gk0) rfl rfl pf_I rfl rfl ?_
  refine Ev.topM (fun M1 eM1 => ?_)
  replace h := wp_lm h M1 eM1
  refine Ev.aload_n dX2_become_8 rfl 0 rfl ?_
  refine Ev.aload_n dX2_become_9 rfl 1 rfl ?_
  refine Ev.get dX2_become_10 fl_X2_31 (sea_k0 gk1) (sea_n0 gk1) rfl ?_
  refine Ev.putA dX2_become_13 fl_X2_31 (sea_k0 gk0) (sea_n0 gk0) rfl rfl pf_I rfl rfl ?_
  refine Ev.topM (fun M2 eM2 => ?_)
  replace h := wp_lm h M2 eM2
  refine Ev.aload_n dX2_become_16 rfl 0 rfl ?_
  refine Ev.aload_n dX2_become_17 rfl 1 rfl ?_
  refine Ev.get dX2_become_18 fl_X2_34 (sea_k0 gk1) (sea_n0 gk1) rfl ?_
  refine Ev.putA dX2_become_21 fl_X2_34 (sea_k0 gk0) (sea_n0 gk0) rfl rfl pf_I rfl rfl ?_
  refine Ev.topM (fun M3 eM3 => ?_)
  replace h := wp_lm h M3 eM3
  refine Ev.aload_n dX2_become_24 rfl 1 rfl ?_
  refine Ev.get dX2_become_25 fl_X2_9 (sea_k0 gk1) (sea_n0 gk1) (sea_fv0 gk1) ?_
  refine Ev.iconst (v := 0) dX2_become_28 rfl ?_
  refine Ev.aload_n dX2_become_29 rfl 0 rfl ?_
  refine Ev.get dX2_become_30 fl_X2_9 (sea_k0 gk0) (sea_n0 gk0) (sea_fv0 gk0) ?_
  refine Ev.iconst (v := 0) dX2_become_33 rfl ?_
  refine Ev.bipush (v := 20) dX2_become_34 rfl ?_
  refine Ev.copy (N := 20) dX2_become_36 mk_X2_37 copyOK ⟨Nat.le_of_ble_eq_true rfl, Nat.le_of_ble_eq_true rfl⟩ (Nat.le_of_ble_eq_true rfl) (sea_k1x gk1) (sea_n1 gk1) (sea_l1 gk1) (sea_k1x gk0) (sea_n1 gk0) (sea_l1 gk0) (by decide) rfl (Nat.le_of_ble_eq_true rfl) (Nat.le_of_ble_eq_true rfl) ?_
  refine Ev.topM (fun M4 eM4 => ?_)
  replace h := wp_lm h M4 eM4
  refine Ev.aload_n dX2_become_39 rfl 1 rfl ?_
  refine Ev.get dX2_become_40 fl_X2_15 (sea_k0 gk1) (sea_n0 gk1) (sea_fv1 gk1) ?_
  refine Ev.iconst (v := 0) dX2_become_43 rfl ?_
  refine Ev.aload_n dX2_become_44 rfl 0 rfl ?_
  refine Ev.get dX2_become_45 fl_X2_15 (sea_k0 gk0) (sea_n0 gk0) (sea_fv1 gk0) ?_
  refine Ev.iconst (v := 0) dX2_become_48 rfl ?_
  refine Ev.bipush (v := 16) dX2_become_49 rfl ?_
  refine Ev.copy (N := 16) dX2_become_51 mk_X2_37 copyOK ⟨Nat.le_of_ble_eq_true rfl, Nat.le_of_ble_eq_true rfl⟩ (Nat.le_of_ble_eq_true rfl) (sea_k2x gk1) (sea_n2 gk1) (sea_l2 gk1) (sea_k2x gk0) (sea_n2 gk0) (sea_l2 gk0) (by decide) rfl (Nat.le_of_ble_eq_true rfl) (Nat.le_of_ble_eq_true rfl) ?_
  refine Ev.topM (fun M5 eM5 => ?_)
  replace h := wp_lm h M5 eM5
  refine Ev.aload_n dX2_become_54 rfl 1 rfl ?_
  refine Ev.get dX2_become_55 fl_X2_18 (sea_k0 gk1) (sea_n0 gk1) (sea_fv2 gk1) ?_
  refine Ev.iconst (v := 0) dX2_become_58 rfl ?_
  refine Ev.aload_n dX2_become_59 rfl 0 rfl ?_
  refine Ev.get dX2_become_60 fl_X2_18 (sea_k0 gk0) (sea_n0 gk0) (sea_fv2 gk0) ?_
  refine Ev.iconst (v := 0) dX2_become_63 rfl ?_
  refine Ev.bipush (v := 10) dX2_become_64 rfl ?_
  refine Ev.copy (N := 10) dX2_become_66 mk_X2_37 copyOK ⟨Nat.le_of_ble_eq_true rfl, Nat.le_of_ble_eq_true rfl⟩ (Nat.le_of_ble_eq_true rfl) (sea_k3x gk1) (sea_n3 gk1) (sea_l3 gk1) (sea_k3x gk0) (sea_n3 gk0) (sea_l3 gk0) (by decide) rfl (Nat.le_of_ble_eq_true rfl) (Nat.le_of_ble_eq_true rfl) ?_
  refine Ev.topM (fun M6 eM6 => ?_)
  replace h := wp_lm h M6 eM6
  refine Ev.aload_n dX2_become_69 rfl 1 rfl ?_
  refine Ev.get dX2_become_70 fl_X2_21 (sea_k0 gk1) (sea_n0 gk1) (sea_fv3 gk1) ?_
  refine Ev.iconst (v := 0) dX2_become_73 rfl ?_
  refine Ev.aload_n dX2_become_74 rfl 0 rfl ?_
  refine Ev.get dX2_become_75 fl_X2_21 (sea_k0 gk0) (sea_n0 gk0) (sea_fv3 gk0) ?_
  refine Ev.iconst (v := 0) dX2_become_78 rfl ?_
  refine Ev.bipush (v := 24) dX2_become_79 rfl ?_
  refine Ev.copy (N := 24) dX2_become_81 mk_X2_37 copyOK ⟨Nat.le_of_ble_eq_true rfl, Nat.le_of_ble_eq_true rfl⟩ (Nat.le_of_ble_eq_true rfl) (sea_k4x gk1) (sea_n4 gk1) (sea_l4 gk1) (sea_k4x gk0) (sea_n4 gk0) (sea_l4 gk0) (by decide) rfl (Nat.le_of_ble_eq_true rfl) (Nat.le_of_ble_eq_true rfl) ?_
  refine Ev.topM (fun M7 eM7 => ?_)
  replace h := wp_lm h M7 eM7
  exact Ev.vret dX2_become_84 rfl (wp_ret h)

noncomputable def f_X2_isTub (k0 : Nat) (p1 : Int32) (M : Mem) : Option Int32 := if p1 < 0 then some 0 else if (M k0 4) ≤ p1 then some 0 else some 1
theorem o_X2_isTub {E : GE} {Q : Option Value → Mem → Prop} {k0 : Nat} {p1 : Int32} {M : Mem} (gk0 : isSea k0) (h : wp (f_X2_isTub k0 p1 M) (gI M) Q) : Runs E mi_X2_isTub [.ref (ad E k0), .int p1] M Q := by
  refine Runs.ofEv (by decide +kernel) (Nat.le_of_ble_eq_true rfl) ?_
  show Ev E mi_X2_isTub 0 [(0, .ref (ad E k0)), (1, .int p1)] [] M Q
  unfold f_X2_isTub at h
  refine Ev.iload_n dX2_isTub_0 rfl 1 rfl ?_
  refine Ev.if_lt (tgt := 16) dX2_isTub_1 (by decide) (fun c1 => ?_) (fun c1 => ?_)
  · replace h := wp_t c1 h
    refine Ev.iconst (v := 0) dX2_isTub_16 rfl ?_
    exact Ev.ret dX2_isTub_17 rfl rfl (wp_ret h)
  · replace h := wp_f c1 h
    refine Ev.iload_n dX2_isTub_4 rfl 1 rfl ?_
    refine Ev.aload_n dX2_isTub_5 rfl 0 rfl ?_
    refine Ev.get dX2_isTub_6 fl_X2_27 (sea_k0 gk0) (sea_n0 gk0) rfl ?_
    refine Ev.icmp_ge (tgt := 16) dX2_isTub_9 (by decide) (fun c2 => ?_) (fun c2 => ?_)
    · replace h := wp_t c2 h
      refine Ev.iconst (v := 0) dX2_isTub_16 rfl ?_
      exact Ev.ret dX2_isTub_17 rfl rfl (wp_ret h)
    · replace h := wp_f c2 h
      refine Ev.iconst (v := 1) dX2_isTub_12 rfl ?_
      refine Ev.goto (tgt := 17) dX2_isTub_13 (by decide) ?_
      exact Ev.ret dX2_isTub_17 rfl rfl (wp_ret h)

noncomputable def f_X2_isHeir (k0 : Nat) (p1 : Int32) (M : Mem) : Option Int32 := if p1 < 0 then some 0 else if (M k0 5) ≤ p1 then some 0 else some 1
theorem o_X2_isHeir {E : GE} {Q : Option Value → Mem → Prop} {k0 : Nat} {p1 : Int32} {M : Mem} (gk0 : isSea k0) (h : wp (f_X2_isHeir k0 p1 M) (gI M) Q) : Runs E mi_X2_isHeir [.ref (ad E k0), .int p1] M Q := by
  refine Runs.ofEv (by decide +kernel) (Nat.le_of_ble_eq_true rfl) ?_
  show Ev E mi_X2_isHeir 0 [(0, .ref (ad E k0)), (1, .int p1)] [] M Q
  unfold f_X2_isHeir at h
  refine Ev.iload_n dX2_isHeir_0 rfl 1 rfl ?_
  refine Ev.if_lt (tgt := 16) dX2_isHeir_1 (by decide) (fun c1 => ?_) (fun c1 => ?_)
  · replace h := wp_t c1 h
    refine Ev.iconst (v := 0) dX2_isHeir_16 rfl ?_
    exact Ev.ret dX2_isHeir_17 rfl rfl (wp_ret h)
  · replace h := wp_f c1 h
    refine Ev.iload_n dX2_isHeir_4 rfl 1 rfl ?_
    refine Ev.aload_n dX2_isHeir_5 rfl 0 rfl ?_
    refine Ev.get dX2_isHeir_6 fl_X2_31 (sea_k0 gk0) (sea_n0 gk0) rfl ?_
    refine Ev.icmp_ge (tgt := 16) dX2_isHeir_9 (by decide) (fun c2 => ?_) (fun c2 => ?_)
    · replace h := wp_t c2 h
      refine Ev.iconst (v := 0) dX2_isHeir_16 rfl ?_
      exact Ev.ret dX2_isHeir_17 rfl rfl (wp_ret h)
    · replace h := wp_f c2 h
      refine Ev.iconst (v := 1) dX2_isHeir_12 rfl ?_
      refine Ev.goto (tgt := 17) dX2_isHeir_13 (by decide) ?_
      exact Ev.ret dX2_isHeir_17 rfl rfl (wp_ret h)

noncomputable def f_X2_moveTub (k0 : Nat) (p1 : Int32) (p2 : Int32) (p3 : Int32) (M : Mem) : Option Mem := (f_X2_putTub k0 p1 1 p2 M).bind fun r1 => (f_X2_putTub k0 p1 2 p3 r1).bind fun r2 => some r2
theorem o_X2_moveTub {E : GE} {Q : Option Value → Mem → Prop} {k0 : Nat} {p1 : Int32} {p2 : Int32} {p3 : Int32} {M : Mem} (gk0 : isSea k0) (h : wp (f_X2_moveTub k0 p1 p2 p3 M) gVM Q) : Runs E mi_X2_moveTub [.ref (ad E k0), .int p1, .int p2, .int p3] M Q := by
  refine Runs.ofEv (by decide +kernel) (Nat.le_of_ble_eq_true rfl) ?_
  show Ev E mi_X2_moveTub 0 [(0, .ref (ad E k0)), (1, .int p1), (2, .int p2), (3, .int p3)] [] M Q
  unfold f_X2_moveTub at h
  refine Ev.aload_n dX2_moveTub_0 rfl 0 rfl ?_
  refine Ev.iload_n dX2_moveTub_1 rfl 1 rfl ?_
  refine Ev.iconst (v := 1) dX2_moveTub_2 rfl ?_
  refine Ev.iload_n dX2_moveTub_3 rfl 2 rfl ?_
  obtain ⟨r1, er1, h⟩ := wp_bind h
  refine Ev.callV (k := k0) (as := [.int p1, .int 1, .int p2]) (rest := []) dX2_moveTub_4 cl_X2_43 mok_X2_putTub (sea_cl gk0) (sea_k7 gk0) (sea_n0 gk0) ⟨Nat.le_of_ble_eq_true rfl, Nat.le_of_ble_eq_true rfl⟩ (Nat.le_of_ble_eq_true rfl) rfl rfl (o_X2_putTub gk0 ⟨r1, er1, ?_⟩)
  show Ev E mi_X2_moveTub 7 [(0, .ref (ad E k0)), (1, .int p1), (2, .int p2), (3, .int p3)] [] r1 Q
  refine Ev.aload_n dX2_moveTub_7 rfl 0 rfl ?_
  refine Ev.iload_n dX2_moveTub_8 rfl 1 rfl ?_
  refine Ev.iconst (v := 2) dX2_moveTub_9 rfl ?_
  refine Ev.iload_n dX2_moveTub_10 rfl 3 rfl ?_
  obtain ⟨r2, er2, h⟩ := wp_bind h
  refine Ev.callV (k := k0) (as := [.int p1, .int 2, .int p3]) (rest := []) dX2_moveTub_11 cl_X2_43 mok_X2_putTub (sea_cl gk0) (sea_k7 gk0) (sea_n0 gk0) ⟨Nat.le_of_ble_eq_true rfl, Nat.le_of_ble_eq_true rfl⟩ (Nat.le_of_ble_eq_true rfl) rfl rfl (o_X2_putTub gk0 ⟨r2, er2, ?_⟩)
  show Ev E mi_X2_moveTub 14 [(0, .ref (ad E k0)), (1, .int p1), (2, .int p2), (3, .int p3)] [] r2 Q
  exact Ev.vret dX2_moveTub_14 rfl (wp_ret h)

noncomputable def f_X2_estates_4 (k0 : Nat) (M : Mem) : Nat → Int32 → Int32 → Option Int32
  | 0, _, _ => none
  | n + 1, x1, x2 => if (M k0 4) ≤ x2 then some x1 else (f_X2_ofTub k0 x2 4 M).bind fun r2 => li (x1 + r2) fun y3 => (f_X2_estates_4 k0 M n) y3 (x2 + 1)
theorem o_X2_estates_4 {E : GE} {Q : Option Value → Mem → Prop} {k0 : Nat} {M : Mem} (gk0 : isSea k0) : ∀ (n : Nat) {x1 : Int32} {x2 : Int32}, wp (f_X2_estates_4 k0 M n x1 x2) (gI M) Q → Ev E mi_X2_estates 4 [(0, .ref (ad E k0)), (1, .int x1), (2, .int x2)] [] M Q := by
  intro n
  induction n with
  | zero => intro _ _ h; exact absurd h wp_none
  | succ n ih =>
    intro x1 x2 h
    unfold f_X2_estates_4 at h
    refine Ev.iload_n dX2_estates_4 rfl 2 rfl ?_
    refine Ev.aload_n dX2_estates_5 rfl 0 rfl ?_
    refine Ev.get dX2_estates_6 fl_X2_27 (sea_k0 gk0) (sea_n0 gk0) rfl ?_
    refine Ev.icmp_ge (tgt := 27) dX2_estates_9 (by decide) (fun c1 => ?_) (fun c1 => ?_)
    · replace h := wp_t c1 h
      refine Ev.iload_n dX2_estates_27 rfl 1 rfl ?_
      exact Ev.ret dX2_estates_28 rfl rfl (wp_ret h)
    · replace h := wp_f c1 h
      refine Ev.iload_n dX2_estates_12 rfl 1 rfl ?_
      refine Ev.aload_n dX2_estates_13 rfl 0 rfl ?_
      refine Ev.iload_n dX2_estates_14 rfl 2 rfl ?_
      refine Ev.iconst (v := 4) dX2_estates_15 rfl ?_
      obtain ⟨r2, er2, h⟩ := wp_bind h
      refine Ev.callV (k := k0) (as := [.int x2, .int 4]) (rest := [.int x1]) dX2_estates_16 cl_X2_47 mok_X2_ofTub (sea_cl gk0) (sea_k7 gk0) (sea_n0 gk0) ⟨Nat.le_of_ble_eq_true rfl, Nat.le_of_ble_eq_true rfl⟩ (Nat.le_of_ble_eq_true rfl) rfl rfl (o_X2_ofTub gk0 ⟨r2, er2, ?_⟩)
      show Ev E mi_X2_estates 19 [(0, .ref (ad E k0)), (1, .int x1), (2, .int x2)] [.int r2, .int x1] M Q
      refine Ev.iadd dX2_estates_19 ?_
      refine Ev.topi (fun y3 ey3 => ?_)
      replace h := wp_li h y3 ey3
      refine Ev.istore_n dX2_estates_20 rfl (Nat.le_of_ble_eq_true rfl) rfl ?_
      show Ev E mi_X2_estates 21 [(1, .int y3), (0, .ref (ad E k0)), (2, .int x2)] [] M Q
      refine Ev.iinc (v := x2 + 1) dX2_estates_21 2 rfl rfl (Nat.le_of_ble_eq_true rfl) rfl ?_
      show Ev E mi_X2_estates 24 [(2, .int (x2 + 1)), (1, .int y3), (0, .ref (ad E k0))] [] M Q
      refine Ev.goto (tgt := 4) dX2_estates_24 (by decide) ?_
      refine Ev.sub [2, 1, 0] rfl ?_
      exact ih h
noncomputable def f_X2_estates (k0 : Nat) (M : Mem) : Option Int32 := f_X2_estates_4 k0 M FU 0 0
theorem o_X2_estates {E : GE} {Q : Option Value → Mem → Prop} {k0 : Nat} {M : Mem} (gk0 : isSea k0) (h : wp (f_X2_estates k0 M) (gI M) Q) : Runs E mi_X2_estates [.ref (ad E k0)] M Q := by
  refine Runs.ofEv (by decide +kernel) (Nat.le_of_ble_eq_true rfl) ?_
  show Ev E mi_X2_estates 0 [(0, .ref (ad E k0))] [] M Q
  unfold f_X2_estates at h
  refine Ev.iconst (v := 0) dX2_estates_0 rfl ?_
  refine Ev.istore_n dX2_estates_1 rfl (Nat.le_of_ble_eq_true rfl) rfl ?_
  show Ev E mi_X2_estates 2 [(1, .int 0), (0, .ref (ad E k0))] [] M Q
  refine Ev.iconst (v := 0) dX2_estates_2 rfl ?_
  refine Ev.istore_n dX2_estates_3 rfl (Nat.le_of_ble_eq_true rfl) rfl ?_
  show Ev E mi_X2_estates 4 [(2, .int 0), (1, .int 0), (0, .ref (ad E k0))] [] M Q
  refine Ev.sub [2, 1, 0] rfl ?_
  exact o_X2_estates_4 gk0 FU h

noncomputable def f_X2_hooks_4 (k0 : Nat) (M : Mem) : Nat → Int32 → Int32 → Option Int32
  | 0, _, _ => none
  | n + 1, x1, x2 => if (M k0 5) ≤ x2 then some x1 else (f_X2_ofHeir k0 x2 3 M).bind fun r2 => li (x1 + r2) fun y3 => (f_X2_hooks_4 k0 M n) y3 (x2 + 1)
theorem o_X2_hooks_4 {E : GE} {Q : Option Value → Mem → Prop} {k0 : Nat} {M : Mem} (gk0 : isSea k0) : ∀ (n : Nat) {x1 : Int32} {x2 : Int32}, wp (f_X2_hooks_4 k0 M n x1 x2) (gI M) Q → Ev E mi_X2_hooks 4 [(0, .ref (ad E k0)), (1, .int x1), (2, .int x2)] [] M Q := by
  intro n
  induction n with
  | zero => intro _ _ h; exact absurd h wp_none
  | succ n ih =>
    intro x1 x2 h
    unfold f_X2_hooks_4 at h
    refine Ev.iload_n dX2_hooks_4 rfl 2 rfl ?_
    refine Ev.aload_n dX2_hooks_5 rfl 0 rfl ?_
    refine Ev.get dX2_hooks_6 fl_X2_31 (sea_k0 gk0) (sea_n0 gk0) rfl ?_
    refine Ev.icmp_ge (tgt := 27) dX2_hooks_9 (by decide) (fun c1 => ?_) (fun c1 => ?_)
    · replace h := wp_t c1 h
      refine Ev.iload_n dX2_hooks_27 rfl 1 rfl ?_
      exact Ev.ret dX2_hooks_28 rfl rfl (wp_ret h)
    · replace h := wp_f c1 h
      refine Ev.iload_n dX2_hooks_12 rfl 1 rfl ?_
      refine Ev.aload_n dX2_hooks_13 rfl 0 rfl ?_
      refine Ev.iload_n dX2_hooks_14 rfl 2 rfl ?_
      refine Ev.iconst (v := 3) dX2_hooks_15 rfl ?_
      obtain ⟨r2, er2, h⟩ := wp_bind h
      refine Ev.callV (k := k0) (as := [.int x2, .int 3]) (rest := [.int x1]) dX2_hooks_16 cl_X2_51 mok_X2_ofHeir (sea_cl gk0) (sea_k7 gk0) (sea_n0 gk0) ⟨Nat.le_of_ble_eq_true rfl, Nat.le_of_ble_eq_true rfl⟩ (Nat.le_of_ble_eq_true rfl) rfl rfl (o_X2_ofHeir gk0 ⟨r2, er2, ?_⟩)
      show Ev E mi_X2_hooks 19 [(0, .ref (ad E k0)), (1, .int x1), (2, .int x2)] [.int r2, .int x1] M Q
      refine Ev.iadd dX2_hooks_19 ?_
      refine Ev.topi (fun y3 ey3 => ?_)
      replace h := wp_li h y3 ey3
      refine Ev.istore_n dX2_hooks_20 rfl (Nat.le_of_ble_eq_true rfl) rfl ?_
      show Ev E mi_X2_hooks 21 [(1, .int y3), (0, .ref (ad E k0)), (2, .int x2)] [] M Q
      refine Ev.iinc (v := x2 + 1) dX2_hooks_21 2 rfl rfl (Nat.le_of_ble_eq_true rfl) rfl ?_
      show Ev E mi_X2_hooks 24 [(2, .int (x2 + 1)), (1, .int y3), (0, .ref (ad E k0))] [] M Q
      refine Ev.goto (tgt := 4) dX2_hooks_24 (by decide) ?_
      refine Ev.sub [2, 1, 0] rfl ?_
      exact ih h
noncomputable def f_X2_hooks (k0 : Nat) (M : Mem) : Option Int32 := f_X2_hooks_4 k0 M FU 0 0
theorem o_X2_hooks {E : GE} {Q : Option Value → Mem → Prop} {k0 : Nat} {M : Mem} (gk0 : isSea k0) (h : wp (f_X2_hooks k0 M) (gI M) Q) : Runs E mi_X2_hooks [.ref (ad E k0)] M Q := by
  refine Runs.ofEv (by decide +kernel) (Nat.le_of_ble_eq_true rfl) ?_
  show Ev E mi_X2_hooks 0 [(0, .ref (ad E k0))] [] M Q
  unfold f_X2_hooks at h
  refine Ev.iconst (v := 0) dX2_hooks_0 rfl ?_
  refine Ev.istore_n dX2_hooks_1 rfl (Nat.le_of_ble_eq_true rfl) rfl ?_
  show Ev E mi_X2_hooks 2 [(1, .int 0), (0, .ref (ad E k0))] [] M Q
  refine Ev.iconst (v := 0) dX2_hooks_2 rfl ?_
  refine Ev.istore_n dX2_hooks_3 rfl (Nat.le_of_ble_eq_true rfl) rfl ?_
  show Ev E mi_X2_hooks 4 [(2, .int 0), (1, .int 0), (0, .ref (ad E k0))] [] M Q
  refine Ev.sub [2, 1, 0] rfl ?_
  exact o_X2_hooks_4 gk0 FU h

noncomputable def f_X2_moving_23 (k0 : Nat) (M : Mem) (t4 : Int32 → Int32 → Option Int32) (x1 : Int32) (x2 : Int32) : Option Int32 := t4 x1 (x2 + 1)
theorem o_X2_moving_23 {E : GE} {Q : Option Value → Mem → Prop} {k0 : Nat} {M : Mem} {t4 : Int32 → Int32 → Option Int32} {x1 : Int32} {x2 : Int32} (gk0 : isSea k0) (ht4 : ∀ (x1 : Int32) (x2 : Int32), wp (t4 x1 x2) (gI M) Q → Ev E mi_X2_moving 4 [(0, .ref (ad E k0)), (1, .int x1), (2, .int x2)] [] M Q) (h : wp (f_X2_moving_23 k0 M t4 x1 x2) (gI M) Q) : Ev E mi_X2_moving 23 [(0, .ref (ad E k0)), (1, .int x1), (2, .int x2)] [] M Q := by
  unfold f_X2_moving_23 at h
  refine Ev.iinc (v := x2 + 1) dX2_moving_23 2 rfl rfl (Nat.le_of_ble_eq_true rfl) rfl ?_
  show Ev E mi_X2_moving 26 [(2, .int (x2 + 1)), (0, .ref (ad E k0)), (1, .int x1)] [] M Q
  refine Ev.goto (tgt := 4) dX2_moving_26 (by decide) ?_
  refine Ev.sub [1, 2, 0] rfl ?_
  exact ht4 _ _ h
noncomputable def f_X2_moving_4 (k0 : Nat) (M : Mem) : Nat → Int32 → Int32 → Option Int32
  | 0, _, _ => none
  | n + 1, x1, x2 => if 10 ≤ x2 then some x1 else rd (M (k0 + 3)) 10 x2 fun r3 => if r3 = 2 then f_X2_moving_23 k0 M (f_X2_moving_4 k0 M n) x1 x2 else f_X2_moving_23 k0 M (f_X2_moving_4 k0 M n) (x1 + 1) x2
theorem o_X2_moving_4 {E : GE} {Q : Option Value → Mem → Prop} {k0 : Nat} {M : Mem} (gk0 : isSea k0) : ∀ (n : Nat) {x1 : Int32} {x2 : Int32}, wp (f_X2_moving_4 k0 M n x1 x2) (gI M) Q → Ev E mi_X2_moving 4 [(0, .ref (ad E k0)), (1, .int x1), (2, .int x2)] [] M Q := by
  intro n
  induction n with
  | zero => intro _ _ h; exact absurd h wp_none
  | succ n ih =>
    intro x1 x2 h
    unfold f_X2_moving_4 at h
    refine Ev.iload_n dX2_moving_4 rfl 2 rfl ?_
    refine Ev.bipush (v := 10) dX2_moving_5 rfl ?_
    refine Ev.icmp_ge (tgt := 29) dX2_moving_7 (by decide) (fun c1 => ?_) (fun c1 => ?_)
    · replace h := wp_t c1 h
      refine Ev.iload_n dX2_moving_29 rfl 1 rfl ?_
      exact Ev.ret dX2_moving_30 rfl rfl (wp_ret h)
    · replace h := wp_f c1 h
      refine Ev.aload_n dX2_moving_10 rfl 0 rfl ?_
      refine Ev.get dX2_moving_11 fl_X2_18 (sea_k0 gk0) (sea_n0 gk0) (sea_fv2 gk0) ?_
      refine Ev.iload_n dX2_moving_14 rfl 2 rfl ?_
      obtain ⟨g2, h⟩ := wp_rd h
      refine Ev.iald dX2_moving_15 (sea_k3x gk0) (sea_n3 gk0) (sea_l3 gk0) g2 ?_
      refine Ev.topi (fun r3 er3 => ?_)
      replace h := h r3 er3
      refine Ev.iconst (v := 2) dX2_moving_16 rfl ?_
      refine Ev.icmp_eq (tgt := 23) dX2_moving_17 (by decide) (fun c4 => ?_) (fun c4 => ?_)
      · replace h := wp_t c4 h
        exact o_X2_moving_23 gk0 (fun _ _ h => ih h) h
      · replace h := wp_f c4 h
        refine Ev.iinc (v := x1 + 1) dX2_moving_20 1 rfl rfl (Nat.le_of_ble_eq_true rfl) rfl ?_
        show Ev E mi_X2_moving 23 [(1, .int (x1 + 1)), (0, .ref (ad E k0)), (2, .int x2)] [] M Q
        refine Ev.sub [1, 0, 2] rfl ?_
        exact o_X2_moving_23 gk0 (fun _ _ h => ih h) h
noncomputable def f_X2_moving (k0 : Nat) (M : Mem) : Option Int32 := f_X2_moving_4 k0 M FU 0 0
theorem o_X2_moving {E : GE} {Q : Option Value → Mem → Prop} {k0 : Nat} {M : Mem} (gk0 : isSea k0) (h : wp (f_X2_moving k0 M) (gI M) Q) : Runs E mi_X2_moving [.ref (ad E k0)] M Q := by
  refine Runs.ofEv (by decide +kernel) (Nat.le_of_ble_eq_true rfl) ?_
  show Ev E mi_X2_moving 0 [(0, .ref (ad E k0))] [] M Q
  unfold f_X2_moving at h
  refine Ev.iconst (v := 0) dX2_moving_0 rfl ?_
  refine Ev.istore_n dX2_moving_1 rfl (Nat.le_of_ble_eq_true rfl) rfl ?_
  show Ev E mi_X2_moving 2 [(1, .int 0), (0, .ref (ad E k0))] [] M Q
  refine Ev.iconst (v := 0) dX2_moving_2 rfl ?_
  refine Ev.istore_n dX2_moving_3 rfl (Nat.le_of_ble_eq_true rfl) rfl ?_
  show Ev E mi_X2_moving 4 [(2, .int 0), (1, .int 0), (0, .ref (ad E k0))] [] M Q
  refine Ev.sub [2, 1, 0] rfl ?_
  exact o_X2_moving_4 gk0 FU h

noncomputable def f_X3_renew_12 (k0 : Nat) (p1 : Int32) (p2 : Int32) : Nat → Int32 → Mem → Option Mem
  | 0, _, _ => none
  | n + 1, x3, M => if 40 ≤ x3 then some M else inb x3 40 <| lm (up M (k0 + 1) x3.toNatClampNeg 0) fun M3 => (f_X3_renew_12 k0 p1 p2 n) (x3 + 1) M3
theorem o_X3_renew_12 {E : GE} {Q : Option Value → Mem → Prop} {k0 : Nat} {p1 : Int32} {p2 : Int32} (gk0 : isSheet k0) : ∀ (n : Nat) {x3 : Int32} {M : Mem}, wp (f_X3_renew_12 k0 p1 p2 n x3 M) gVM Q → Ev E mi_X3_renew 12 [(0, .ref (ad E k0)), (3, .int x3)] [] M Q := by
  intro n
  induction n with
  | zero => intro _ _ h; exact absurd h wp_none
  | succ n ih =>
    intro x3 M h
    unfold f_X3_renew_12 at h
    refine Ev.iload_n dX3_renew_12 rfl 1 rfl ?_
    refine Ev.bipush (v := 40) dX3_renew_13 rfl ?_
    refine Ev.icmp_ge (tgt := 31) dX3_renew_15 (by decide) (fun c1 => ?_) (fun c1 => ?_)
    · replace h := wp_t c1 h
      exact Ev.vret dX3_renew_31 rfl (wp_ret h)
    · replace h := wp_f c1 h
      refine Ev.aload_n dX3_renew_18 rfl 0 rfl ?_
      refine Ev.get dX3_renew_19 fl_X3_9 (sheet_k0 gk0) (sheet_n0 gk0) (sheet_fv0 gk0) ?_
      refine Ev.iload_n dX3_renew_22 rfl 1 rfl ?_
      refine Ev.iconst (v := 0) dX3_renew_23 rfl ?_
      obtain ⟨g2, h⟩ := wp_inb h
      refine Ev.iast dX3_renew_24 (sheet_k1x gk0) (sheet_n1 gk0) (sheet_l1 gk0) g2 ?_
      refine Ev.topM (fun M3 eM3 => ?_)
      replace h := wp_lm h M3 eM3
      refine Ev.iinc (v := x3 + 1) dX3_renew_25 1 rfl rfl (Nat.le_of_ble_eq_true rfl) rfl ?_
      show Ev E mi_X3_renew 28 [(3, .int (x3 + 1)), (0, .ref (ad E k0))] [] M3 Q
      refine Ev.goto (tgt := 12) dX3_renew_28 (by decide) ?_
      refine Ev.sub [1, 0] rfl ?_
      exact ih h
noncomputable def f_X3_renew (k0 : Nat) (p1 : Int32) (p2 : Int32) (M : Mem) : Option Mem := lm (up M k0 1 p1) fun M1 => lm (up M1 k0 2 p2) fun M2 => f_X3_renew_12 k0 p1 p2 FU 0 M2
theorem o_X3_renew {E : GE} {Q : Option Value → Mem → Prop} {k0 : Nat} {p1 : Int32} {p2 : Int32} {M : Mem} (gk0 : isSheet k0) (h : wp (f_X3_renew k0 p1 p2 M) gVM Q) : Runs E mi_X3_renew [.ref (ad E k0), .int p1, .int p2] M Q := by
  refine Runs.ofEv (by decide +kernel) (Nat.le_of_ble_eq_true rfl) ?_
  show Ev E mi_X3_renew 0 [(0, .ref (ad E k0)), (1, .int p1), (2, .int p2)] [] M Q
  unfold f_X3_renew at h
  refine Ev.aload_n dX3_renew_0 rfl 0 rfl ?_
  refine Ev.iload_n dX3_renew_1 rfl 1 rfl ?_
  refine Ev.putA dX3_renew_2 fl_X3_15 (sheet_k0 gk0) (sheet_n0 gk0) rfl rfl pf_I rfl rfl ?_
  refine Ev.topM (fun M1 eM1 => ?_)
  replace h := wp_lm h M1 eM1
  refine Ev.aload_n dX3_renew_5 rfl 0 rfl ?_
  refine Ev.iload_n dX3_renew_6 rfl 2 rfl ?_
  refine Ev.putA dX3_renew_7 fl_X3_19 (sheet_k0 gk0) (sheet_n0 gk0) rfl rfl pf_I rfl rfl ?_
  refine Ev.topM (fun M2 eM2 => ?_)
  replace h := wp_lm h M2 eM2
  refine Ev.iconst (v := 0) dX3_renew_10 rfl ?_
  refine Ev.istore_n dX3_renew_11 rfl (Nat.le_of_ble_eq_true rfl) rfl ?_
  show Ev E mi_X3_renew 12 [(3, .int 0), (0, .ref (ad E k0)), (1, .int p1), (2, .int p2)] [] M2 Q
  refine Ev.sub [1, 0] rfl ?_
  exact o_X3_renew_12 gk0 FU h

noncomputable def f_X3_faultOf_35 (k0 : Nat) (p1 : Int32) (p2 : Int32) (p3 : Int32) (M : Mem) : Option Int32 := some 2
theorem o_X3_faultOf_35 {E : GE} {Q : Option Value → Mem → Prop} {k0 : Nat} {p1 : Int32} {p2 : Int32} {p3 : Int32} {M : Mem} (gk0 : isSheet k0) (h : wp (f_X3_faultOf_35 k0 p1 p2 p3 M) (gI M) Q) : Ev E mi_X3_faultOf 35 [] [] M Q := by
  unfold f_X3_faultOf_35 at h
  refine Ev.iconst (v := 2) dX3_faultOf_35 rfl ?_
  refine Ev.goto (tgt := 40) dX3_faultOf_36 (by decide) ?_
  exact Ev.ret dX3_faultOf_40 rfl rfl (wp_ret h)
noncomputable def f_X3_faultOf (k0 : Nat) (p1 : Int32) (p2 : Int32) (p3 : Int32) (M : Mem) : Option Int32 := if (M k0 1) = (-4) then some 1 else if (M k0 1) = p1 then if p2 < 0 then f_X3_faultOf_35 k0 p1 p2 p3 M else if p2 ≤ ((M k0 2) - p3) then some 0 else f_X3_faultOf_35 k0 p1 p2 p3 M else some 3
theorem o_X3_faultOf {E : GE} {Q : Option Value → Mem → Prop} {k0 : Nat} {p1 : Int32} {p2 : Int32} {p3 : Int32} {M : Mem} (gk0 : isSheet k0) (h : wp (f_X3_faultOf k0 p1 p2 p3 M) (gI M) Q) : Runs E mi_X3_faultOf [.ref (ad E k0), .int p1, .int p2, .int p3] M Q := by
  refine Runs.ofEv (by decide +kernel) (Nat.le_of_ble_eq_true rfl) ?_
  show Ev E mi_X3_faultOf 0 [(0, .ref (ad E k0)), (1, .int p1), (2, .int p2), (3, .int p3)] [] M Q
  unfold f_X3_faultOf at h
  refine Ev.aload_n dX3_faultOf_0 rfl 0 rfl ?_
  refine Ev.get dX3_faultOf_1 fl_X3_15 (sheet_k0 gk0) (sheet_n0 gk0) rfl ?_
  refine Ev.bipush (v := (-4)) dX3_faultOf_4 rfl ?_
  refine Ev.icmp_ne (tgt := 11) dX3_faultOf_6 (by decide) (fun c1 => ?_) (fun c1 => ?_)
  · replace h := wp_t c1 h
    refine Ev.iconst (v := 1) dX3_faultOf_9 rfl ?_
    exact Ev.ret dX3_faultOf_10 rfl rfl (wp_ret h)
  · replace h := wp_f c1 h
    refine Ev.aload_n dX3_faultOf_11 rfl 0 rfl ?_
    refine Ev.get dX3_faultOf_12 fl_X3_15 (sheet_k0 gk0) (sheet_n0 gk0) rfl ?_
    refine Ev.iload_n dX3_faultOf_15 rfl 1 rfl ?_
    refine Ev.icmp_eq (tgt := 21) dX3_faultOf_16 (by decide) (fun c2 => ?_) (fun c2 => ?_)
    · replace h := wp_t c2 h
      refine Ev.iload_n dX3_faultOf_21 rfl 2 rfl ?_
      refine Ev.if_lt (tgt := 35) dX3_faultOf_22 (by decide) (fun c3 => ?_) (fun c3 => ?_)
      · replace h := wp_t c3 h
        refine Ev.sub [] rfl ?_
        exact o_X3_faultOf_35 gk0 h
      · replace h := wp_f c3 h
        refine Ev.iload_n dX3_faultOf_25 rfl 2 rfl ?_
        refine Ev.aload_n dX3_faultOf_26 rfl 0 rfl ?_
        refine Ev.get dX3_faultOf_27 fl_X3_19 (sheet_k0 gk0) (sheet_n0 gk0) rfl ?_
        refine Ev.iload_n dX3_faultOf_30 rfl 3 rfl ?_
        refine Ev.isub dX3_faultOf_31 ?_
        refine Ev.icmp_le (tgt := 39) dX3_faultOf_32 (by decide) (fun c4 => ?_) (fun c4 => ?_)
        · replace h := wp_t c4 h
          refine Ev.iconst (v := 0) dX3_faultOf_39 rfl ?_
          exact Ev.ret dX3_faultOf_40 rfl rfl (wp_ret h)
        · replace h := wp_f c4 h
          refine Ev.sub [] rfl ?_
          exact o_X3_faultOf_35 gk0 h
    · replace h := wp_f c2 h
      refine Ev.iconst (v := 3) dX3_faultOf_19 rfl ?_
      exact Ev.ret dX3_faultOf_20 rfl rfl (wp_ret h)

noncomputable def f_X3_put (k0 : Nat) (p1 : Int32) (p2 : Int32) (M : Mem) : Option Mem := if (M k0 1) = 0 then inb p1 40 <| lm (up M (k0 + 1) p1.toNatClampNeg p2.toInt8.toInt32) fun M3 => some M3 else if (M k0 1) = 1 then inb p1 40 <| lm (up M (k0 + 1) p1.toNatClampNeg p2.toInt16.toInt32) fun M6 => some M6 else inb p1 40 <| lm (up M (k0 + 1) p1.toNatClampNeg p2) fun M8 => some M8
theorem o_X3_put {E : GE} {Q : Option Value → Mem → Prop} {k0 : Nat} {p1 : Int32} {p2 : Int32} {M : Mem} (gk0 : isSheet k0) (h : wp (f_X3_put k0 p1 p2 M) gVM Q) : Runs E mi_X3_put [.ref (ad E k0), .int p1, .int p2] M Q := by
  refine Runs.ofEv (by decide +kernel) (Nat.le_of_ble_eq_true rfl) ?_
  show Ev E mi_X3_put 0 [(0, .ref (ad E k0)), (1, .int p1), (2, .int p2)] [] M Q
  unfold f_X3_put at h
  refine Ev.aload_n dX3_put_0 rfl 0 rfl ?_
  refine Ev.get dX3_put_1 fl_X3_15 (sheet_k0 gk0) (sheet_n0 gk0) rfl ?_
  by_cases c1 : (M k0 1) = 0
  · replace h := wp_t c1 h
    refine Ev.lookup (tgt := 32) dX3_put_4 (by decide) (by rw [c1] <;> rfl) (by decide) ?_
    refine Ev.aload_n dX3_put_32 rfl 0 rfl ?_
    refine Ev.get dX3_put_33 fl_X3_9 (sheet_k0 gk0) (sheet_n0 gk0) (sheet_fv0 gk0) ?_
    refine Ev.iload_n dX3_put_36 rfl 1 rfl ?_
    refine Ev.iload_n dX3_put_37 rfl 2 rfl ?_
    refine Ev.i2b dX3_put_38 ?_
    obtain ⟨g2, h⟩ := wp_inb h
    refine Ev.iast dX3_put_39 (sheet_k1x gk0) (sheet_n1 gk0) (sheet_l1 gk0) g2 ?_
    refine Ev.topM (fun M3 eM3 => ?_)
    replace h := wp_lm h M3 eM3
    refine Ev.goto (tgt := 61) dX3_put_40 (by decide) ?_
    exact Ev.vret dX3_put_61 rfl (wp_ret h)
  · replace h := wp_f c1 h
    by_cases c4 : (M k0 1) = 1
    · replace h := wp_t c4 h
      refine Ev.lookup (tgt := 43) dX3_put_4 (by decide) (by rw [c4] <;> rfl) (by decide) ?_
      refine Ev.aload_n dX3_put_43 rfl 0 rfl ?_
      refine Ev.get dX3_put_44 fl_X3_9 (sheet_k0 gk0) (sheet_n0 gk0) (sheet_fv0 gk0) ?_
      refine Ev.iload_n dX3_put_47 rfl 1 rfl ?_
      refine Ev.iload_n dX3_put_48 rfl 2 rfl ?_
      refine Ev.i2s dX3_put_49 ?_
      obtain ⟨g5, h⟩ := wp_inb h
      refine Ev.iast dX3_put_50 (sheet_k1x gk0) (sheet_n1 gk0) (sheet_l1 gk0) g5 ?_
      refine Ev.topM (fun M6 eM6 => ?_)
      replace h := wp_lm h M6 eM6
      refine Ev.goto (tgt := 61) dX3_put_51 (by decide) ?_
      exact Ev.vret dX3_put_61 rfl (wp_ret h)
    · replace h := wp_f c4 h
      refine Ev.lookup (tgt := 54) (off := 50) dX3_put_4 (by decide) ((lv_osw c1 rfl).trans ((lv_osw c4 rfl).trans (rfl))) (by decide) ?_
      refine Ev.aload_n dX3_put_54 rfl 0 rfl ?_
      refine Ev.get dX3_put_55 fl_X3_9 (sheet_k0 gk0) (sheet_n0 gk0) (sheet_fv0 gk0) ?_
      refine Ev.iload_n dX3_put_58 rfl 1 rfl ?_
      refine Ev.iload_n dX3_put_59 rfl 2 rfl ?_
      obtain ⟨g7, h⟩ := wp_inb h
      refine Ev.iast dX3_put_60 (sheet_k1x gk0) (sheet_n1 gk0) (sheet_l1 gk0) g7 ?_
      refine Ev.topM (fun M8 eM8 => ?_)
      replace h := wp_lm h M8 eM8
      exact Ev.vret dX3_put_61 rfl (wp_ret h)

noncomputable def f_X4_add (p1 : Int32) (M : Mem) : Option (Int32 × Mem) := if (M 2 1) < 160 then inb (M 2 1) 160 <| lm (up M 3 (M 2 1).toNatClampNeg p1) fun M3 => lm (up M3 2 1 ((M3 2 1) + 1)) fun M4 => some (1, M4) else some (0, M)
theorem o_X4_add {E : GE} {Q : Option Value → Mem → Prop} {p1 : Int32} {M : Mem} (h : wp (f_X4_add p1 M) gIM Q) : Runs E mi_X4_add [.ref (ad E 2), .int p1] M Q := by
  refine Runs.ofEv (by decide +kernel) (Nat.le_of_ble_eq_true rfl) ?_
  show Ev E mi_X4_add 0 [(0, .ref (ad E 2)), (1, .int p1)] [] M Q
  unfold f_X4_add at h
  refine Ev.aload_n dX4_add_0 rfl 0 rfl ?_
  refine Ev.get dX4_add_1 fl_X4_15 rfl (Nat.le_of_ble_eq_true rfl) rfl ?_
  refine Ev.sipush (v := 160) dX4_add_4 rfl ?_
  refine Ev.icmp_lt (tgt := 12) dX4_add_7 (by decide) (fun c1 => ?_) (fun c1 => ?_)
  · replace h := wp_t c1 h
    refine Ev.aload_n dX4_add_12 rfl 0 rfl ?_
    refine Ev.get dX4_add_13 fl_X4_9 rfl (Nat.le_of_ble_eq_true rfl) (v := .ref (ad E 3)) rfl ?_
    refine Ev.aload_n dX4_add_16 rfl 0 rfl ?_
    refine Ev.get dX4_add_17 fl_X4_15 rfl (Nat.le_of_ble_eq_true rfl) rfl ?_
    refine Ev.iload_n dX4_add_20 rfl 1 rfl ?_
    obtain ⟨g2, h⟩ := wp_inb h
    refine Ev.iast dX4_add_21 rfl (Nat.le_of_ble_eq_true rfl) rfl g2 ?_
    refine Ev.topM (fun M3 eM3 => ?_)
    replace h := wp_lm h M3 eM3
    refine Ev.aload_n dX4_add_22 rfl 0 rfl ?_
    refine Ev.dup dX4_add_23 rfl ?_
    refine Ev.get dX4_add_24 fl_X4_15 rfl (Nat.le_of_ble_eq_true rfl) rfl ?_
    refine Ev.iconst (v := 1) dX4_add_27 rfl ?_
    refine Ev.iadd dX4_add_28 ?_
    refine Ev.putA dX4_add_29 fl_X4_15 rfl (Nat.le_of_ble_eq_true rfl) rfl rfl pf_I rfl rfl ?_
    refine Ev.topM (fun M4 eM4 => ?_)
    replace h := wp_lm h M4 eM4
    refine Ev.iconst (v := 1) dX4_add_32 rfl ?_
    exact Ev.ret dX4_add_33 rfl rfl (wp_ret h)
  · replace h := wp_f c1 h
    refine Ev.iconst (v := 0) dX4_add_10 rfl ?_
    exact Ev.ret dX4_add_11 rfl rfl (wp_ret h)
