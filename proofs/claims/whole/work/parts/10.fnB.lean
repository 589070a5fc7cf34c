noncomputable def f_X0_sailHour_158 (k1 : Nat) (p2 : Int32) (p3 : Int32) (x6 : Int32) (x7 : Int32) (M : Mem) : Option Mem := inb p2 4 <| lm (up M 41 p2.toNatClampNeg x6) fun M2 => inb p2 4 <| lm (up M2 42 p2.toNatClampNeg x7) fun M4 => some M4
theorem o_X0_sailHour_158 {E : GE} {Q : Option Value → Mem → Prop} {k1 : Nat} {p2 : Int32} {p3 : Int32} {x6 : Int32} {x7 : Int32} {M : Mem} (gk1 : isSea k1) (h : wp (f_X0_sailHour_158 k1 p2 p3 x6 x7 M) gVM Q) : Ev E mi_X0_sailHour 158 [(0, .ref (ad E 40)), (2, .int p2), (6, .int x6), (7, .int x7)] [] M Q := by
  unfold f_X0_sailHour_158 at h
  refine Ev.aload_n dX0_sailHour_158 rfl 0 rfl ?_
  refine Ev.get dX0_sailHour_159 fl_X0_9 rfl (Nat.le_of_ble_eq_true rfl) (v := .ref (ad E 41)) rfl ?_
  refine Ev.iload_n dX0_sailHour_162 rfl 1 rfl ?_
  refine Ev.iload dX0_sailHour_163 2 rfl ?_
  obtain ⟨g1, h⟩ := wp_inb h
  refine Ev.iast dX0_sailHour_165 rfl (Nat.le_of_ble_eq_true rfl) rfl g1 ?_
  refine Ev.topM (fun M2 eM2 => ?_)
  replace h := wp_lm h M2 eM2
  refine Ev.aload_n dX0_sailHour_166 rfl 0 rfl ?_
  refine Ev.get dX0_sailHour_167 fl_X0_15 rfl (Nat.le_of_ble_eq_true rfl) (v := .ref (ad E 42)) rfl ?_
  refine Ev.iload_n dX0_sailHour_170 rfl 1 rfl ?_
  refine Ev.iload dX0_sailHour_171 3 rfl ?_
  obtain ⟨g3, h⟩ := wp_inb h
  refine Ev.iast dX0_sailHour_173 rfl (Nat.le_of_ble_eq_true rfl) rfl g3 ?_
  refine Ev.topM (fun M4 eM4 => ?_)
  replace h := wp_lm h M4 eM4
  exact Ev.vret dX0_sailHour_174 rfl (wp_ret h)
noncomputable def f_X0_sailHour_142 (k1 : Nat) (p2 : Int32) (p3 : Int32) (x6 : Int32) (x7 : Int32) (M : Mem) : Option Mem := rd (M 43) 4 p2 fun r2 => if r2 = 0 then f_X0_sailHour_158 k1 p2 p3 x6 x7 M else inb p2 4 <| lm (up M 44 p2.toNatClampNeg p3) fun M5 => f_X0_sailHour_158 k1 p2 p3 x6 x7 M5
theorem o_X0_sailHour_142 {E : GE} {Q : Option Value → Mem → Prop} {k1 : Nat} {p2 : Int32} {p3 : Int32} {x6 : Int32} {x7 : Int32} {M : Mem} (gk1 : isSea k1) (h : wp (f_X0_sailHour_142 k1 p2 p3 x6 x7 M) gVM Q) : Ev E mi_X0_sailHour 142 [(0, .ref (ad E 40)), (2, .int p2), (3, .int p3), (6, .int x6), (7, .int x7)] [] M Q := by
  unfold f_X0_sailHour_142 at h
  refine Ev.aload_n dX0_sailHour_142 rfl 0 rfl ?_
  refine Ev.get dX0_sailHour_143 fl_X0_18 rfl (Nat.le_of_ble_eq_true rfl) (v := .ref (ad E 43)) rfl ?_
  refine Ev.iload_n dX0_sailHour_146 rfl 1 rfl ?_
  obtain ⟨g1, h⟩ := wp_rd h
  refine Ev.iald dX0_sailHour_147 rfl (Nat.le_of_ble_eq_true rfl) rfl g1 ?_
  refine Ev.topi (fun r2 er2 => ?_)
  replace h := h r2 er2
  refine Ev.if_eq (tgt := 158) dX0_sailHour_148 (by decide) (fun c3 => ?_) (fun c3 => ?_)
  · replace h := wp_t c3 h
    refine Ev.sub [0, 1, 3, 4] rfl ?_
    exact o_X0_sailHour_158 gk1 h
  · replace h := wp_f c3 h
    refine Ev.aload_n dX0_sailHour_151 rfl 0 rfl ?_
    refine Ev.get dX0_sailHour_152 fl_X0_21 rfl (Nat.le_of_ble_eq_true rfl) (v := .ref (ad E 44)) rfl ?_
    refine Ev.iload_n dX0_sailHour_155 rfl 1 rfl ?_
    refine Ev.iload_n dX0_sailHour_156 rfl 2 rfl ?_
    obtain ⟨g4, h⟩ := wp_inb h
    refine Ev.iast dX0_sailHour_157 rfl (Nat.le_of_ble_eq_true rfl) rfl g4 ?_
    refine Ev.topM (fun M5 eM5 => ?_)
    replace h := wp_lm h M5 eM5
    refine Ev.sub [0, 1, 3, 4] rfl ?_
    exact o_X0_sailHour_158 gk1 h
noncomputable def f_X0_sailHour_135 (k1 : Nat) (p2 : Int32) (p3 : Int32) (x6 : Int32) (x7 : Int32) (M : Mem) : Option Mem := inb p2 4 <| lm (up M 43 p2.toNatClampNeg 3) fun M2 => f_X0_sailHour_142 k1 p2 p3 x6 x7 M2
theorem o_X0_sailHour_135 {E : GE} {Q : Option Value → Mem → Prop} {k1 : Nat} {p2 : Int32} {p3 : Int32} {x6 : Int32} {x7 : Int32} {M : Mem} (gk1 : isSea k1) (h : wp (f_X0_sailHour_135 k1 p2 p3 x6 x7 M) gVM Q) : Ev E mi_X0_sailHour 135 [(0, .ref (ad E 40)), (2, .int p2), (3, .int p3), (6, .int x6), (7, .int x7)] [] M Q := by
  unfold f_X0_sailHour_135 at h
  refine Ev.aload_n dX0_sailHour_135 rfl 0 rfl ?_
  refine Ev.get dX0_sailHour_136 fl_X0_18 rfl (Nat.le_of_ble_eq_true rfl) (v := .ref (ad E 43)) rfl ?_
  refine Ev.iload_n dX0_sailHour_139 rfl 1 rfl ?_
  refine Ev.iconst (v := 3) dX0_sailHour_140 rfl ?_
  obtain ⟨g1, h⟩ := wp_inb h
  refine Ev.iast dX0_sailHour_141 rfl (Nat.le_of_ble_eq_true rfl) rfl g1 ?_
  refine Ev.topM (fun M2 eM2 => ?_)
  replace h := wp_lm h M2 eM2
  exact o_X0_sailHour_142 gk1 h
noncomputable def f_X0_sailHour (k1 : Nat) (p2 : Int32) (p3 : Int32) (M : Mem) : Option Mem := rd (M (k1 + 4)) 24 p3 fun r2 => (f_X2_ofTub k1 p2 0 M).bind fun r3 => rd (tbV 3) 4 r3 fun r5 => rd (M 41) 4 p2 fun r7 => rd (M 42) 4 p2 fun r9 => rd (M (k1 + 3)) 10 r9 fun r11 => rd (tbV 4) 5 r2 fun r13 => li (((r7 + r11) - 2) + (r13 * r5)) fun y14 => rd (M 42) 4 p2 fun r16 => (f_X2_tideAt k1 p3 M).bind fun r17 => rd (tbV 5) 5 r2 fun r19 => li ((r16 + r17) + (r19 * r5)) fun y20 => if 0 < y20 then rd (tbV 1) 5 2 fun r23 => if r23 < y20 then f_X0_sailHour_135 k1 p2 p3 y14 y20 M else if y14 < 0 then f_X0_sailHour_135 k1 p2 p3 y14 y20 M else rd (tbV 1) 5 1 fun r27 => if y14 ≤ r27 then f_X0_sailHour_142 k1 p2 p3 y14 y20 M else f_X0_sailHour_135 k1 p2 p3 y14 y20 M else inb p2 4 <| lm (up M 43 p2.toNatClampNeg 2) fun M30 => rd (tbV 1) 5 1 fun r32 => li (if 0 < (if y14 < r32 then y14 else r32) then (if y14 < r32 then y14 else r32) else 0) fun y33 => f_X0_sailHour_142 k1 p2 p3 y33 0 M30
theorem o_X0_sailHour {E : GE} {Q : Option Value → Mem → Prop} {k1 : Nat} {p2 : Int32} {p3 : Int32} {M : Mem} (gk1 : isSea k1) (h : wp (f_X0_sailHour k1 p2 p3 M) gVM Q) : Runs E mi_X0_sailHour [.ref (ad E 40), .ref (ad E k1), .int p2, .int p3] M Q := by
  refine Runs.ofEv (by decide +kernel) (Nat.le_of_ble_eq_true rfl) ?_
  show Ev E mi_X0_sailHour 0 [(0, .ref (ad E 40)), (1, .ref (ad E k1)), (2, .int p2), (3, .int p3)] [] M Q
  unfold f_X0_sailHour at h
  refine Ev.aload_n dX0_sailHour_0 rfl 1 rfl ?_
  refine Ev.getN dX0_sailHour_1 nl_X0_53 (sea_k0 gk1) (sea_n0 gk1) (sea_fv3 gk1) ?_
  refine Ev.iload_n dX0_sailHour_4 rfl 3 rfl ?_
  obtain ⟨g1, h⟩ := wp_rd h
  refine Ev.iald dX0_sailHour_5 (sea_k4x gk1) (sea_n4 gk1) (sea_l4 gk1) g1 ?_
  refine Ev.topi (fun r2 er2 => ?_)
  replace h := h r2 er2
  refine Ev.istore dX0_sailHour_6 (Nat.le_of_ble_eq_true rfl) rfl ?_
  show Ev E mi_X0_sailHour 8 [(4, .int r2), (0, .ref (ad E 40)), (1, .ref (ad E k1)), (2, .int p2), (3, .int p3)] [] M Q
  refine Ev.getTN dX0_sailHour_8 sl_X0_56 ?_
  refine Ev.aload_n dX0_sailHour_11 rfl 2 rfl ?_
  refine Ev.iload_n dX0_sailHour_12 rfl 3 rfl ?_
  refine Ev.iconst (v := 0) dX0_sailHour_13 rfl ?_
  obtain ⟨r3, er3, h⟩ := wp_bind h
  refine Ev.callN (k := k1) (as := [.int p2, .int 0]) (rest := [.ref (sT E 3)]) dX0_sailHour_14 cn_X0_46 mok_X2_ofTub (sea_cl gk1) (sea_k7 gk1) (sea_n0 gk1) ⟨Nat.le_of_ble_eq_true rfl, Nat.le_of_ble_eq_true rfl⟩ (Nat.le_of_ble_eq_true rfl) rfl rfl (o_X2_ofTub gk1 ⟨r3, er3, ?_⟩)
  show Ev E mi_X0_sailHour 17 [(4, .int r2), (0, .ref (ad E 40)), (1, .ref (ad E k1)), (2, .int p2), (3, .int p3)] [.int r3, .ref (sT E 3)] M Q
  obtain ⟨g4, h⟩ := wp_rd h
  refine Ev.tald dX0_sailHour_17 (Nat.le_of_ble_eq_true rfl) rfl g4 ?_
  refine Ev.topi (fun r5 er5 => ?_)
  replace h := h r5 er5
  refine Ev.istore dX0_sailHour_18 (Nat.le_of_ble_eq_true rfl) rfl ?_
  show Ev E mi_X0_sailHour 20 [(5, .int r5), (4, .int r2), (0, .ref (ad E 40)), (1, .ref (ad E k1)), (2, .int p2), (3, .int p3)] [] M Q
  refine Ev.aload_n dX0_sailHour_20 rfl 2 rfl ?_
  refine Ev.get dX0_sailHour_21 fl_X0_9 rfl (Nat.le_of_ble_eq_true rfl) (v := .ref (ad E 41)) rfl ?_
  refine Ev.iload_n dX0_sailHour_24 rfl 4 rfl ?_
  obtain ⟨g6, h⟩ := wp_rd h
  refine Ev.iald dX0_sailHour_25 rfl (Nat.le_of_ble_eq_true rfl) rfl g6 ?_
  refine Ev.topi (fun r7 er7 => ?_)
  replace h := h r7 er7
  refine Ev.aload_n dX0_sailHour_26 rfl 3 rfl ?_
  refine Ev.getN dX0_sailHour_27 nl_X0_59 (sea_k0 gk1) (sea_n0 gk1) (sea_fv2 gk1) ?_
  refine Ev.aload_n dX0_sailHour_30 rfl 2 rfl ?_
  refine Ev.get dX0_sailHour_31 fl_X0_15 rfl (Nat.le_of_ble_eq_true rfl) (v := .ref (ad E 42)) rfl ?_
  refine Ev.iload_n dX0_sailHour_34 rfl 4 rfl ?_
  obtain ⟨g8, h⟩ := wp_rd h
  refine Ev.iald dX0_sailHour_35 rfl (Nat.le_of_ble_eq_true rfl) rfl g8 ?_
  refine Ev.topi (fun r9 er9 => ?_)
  replace h := h r9 er9
  obtain ⟨g10, h⟩ := wp_rd h
  refine Ev.iald dX0_sailHour_36 (sea_k3x gk1) (sea_n3 gk1) (sea_l3 gk1) g10 ?_
  refine Ev.topi (fun r11 er11 => ?_)
  replace h := h r11 er11
  refine Ev.iadd dX0_sailHour_37 ?_
  refine Ev.iconst (v := 2) dX0_sailHour_38 rfl ?_
  refine Ev.isub dX0_sailHour_39 ?_
  refine Ev.getTN dX0_sailHour_40 sl_X0_62 ?_
  refine Ev.iload dX0_sailHour_43 1 rfl ?_
  obtain ⟨g12, h⟩ := wp_rd h
  refine Ev.tald dX0_sailHour_45 (Nat.le_of_ble_eq_true rfl) rfl g12 ?_
  refine Ev.topi (fun r13 er13 => ?_)
  replace h := h r13 er13
  refine Ev.iload dX0_sailHour_46 0 rfl ?_
  refine Ev.imul dX0_sailHour_48 ?_
  refine Ev.iadd dX0_sailHour_49 ?_
  refine Ev.topi (fun y14 ey14 => ?_)
  replace h := wp_li h y14 ey14
  refine Ev.istore dX0_sailHour_50 (Nat.le_of_ble_eq_true rfl) rfl ?_
  show Ev E mi_X0_sailHour 52 [(6, .int y14), (5, .int r5), (4, .int r2), (0, .ref (ad E 40)), (1, .ref (ad E k1)), (2, .int p2), (3, .int p3)] [] M Q
  refine Ev.aload_n dX0_sailHour_52 rfl 3 rfl ?_
  refine Ev.get dX0_sailHour_53 fl_X0_15 rfl (Nat.le_of_ble_eq_true rfl) (v := .ref (ad E 42)) rfl ?_
  refine Ev.iload_n dX0_sailHour_56 rfl 5 rfl ?_
  obtain ⟨g15, h⟩ := wp_rd h
  refine Ev.iald dX0_sailHour_57 rfl (Nat.le_of_ble_eq_true rfl) rfl g15 ?_
  refine Ev.topi (fun r16 er16 => ?_)
  replace h := h r16 er16
  refine Ev.aload_n dX0_sailHour_58 rfl 4 rfl ?_
  refine Ev.iload_n dX0_sailHour_59 rfl 6 rfl ?_
  obtain ⟨r17, er17, h⟩ := wp_bind h
  refine Ev.callN (k := k1) (as := [.int p3]) (rest := [.int r16]) dX0_sailHour_60 cn_X0_65 mok_X2_tideAt (sea_cl gk1) (sea_k7 gk1) (sea_n0 gk1) ⟨Nat.le_of_ble_eq_true rfl, Nat.le_of_ble_eq_true rfl⟩ (Nat.le_of_ble_eq_true rfl) rfl rfl (o_X2_tideAt gk1 ⟨r17, er17, ?_⟩)
  show Ev E mi_X0_sailHour 63 [(6, .int y14), (5, .int r5), (4, .int r2), (0, .ref (ad E 40)), (1, .ref (ad E k1)), (2, .int p2), (3, .int p3)] [.int r17, .int r16] M Q
  refine Ev.iadd dX0_sailHour_63 ?_
  refine Ev.getTN dX0_sailHour_64 sl_X0_69 ?_
  refine Ev.iload dX0_sailHour_67 2 rfl ?_
  obtain ⟨g18, h⟩ := wp_rd h
  refine Ev.tald dX0_sailHour_69 (Nat.le_of_ble_eq_true rfl) rfl g18 ?_
  refine Ev.topi (fun r19 er19 => ?_)
  replace h := h r19 er19
  refine Ev.iload dX0_sailHour_70 1 rfl ?_
  refine Ev.imul dX0_sailHour_72 ?_
  refine Ev.iadd dX0_sailHour_73 ?_
  refine Ev.topi (fun y20 ey20 => ?_)
  replace h := wp_li h y20 ey20
  refine Ev.istore dX0_sailHour_74 (Nat.le_of_ble_eq_true rfl) rfl ?_
  show Ev E mi_X0_sailHour 76 [(7, .int y20), (6, .int y14), (5, .int r5), (4, .int r2), (0, .ref (ad E 40)), (1, .ref (ad E k1)), (2, .int p2), (3, .int p3)] [] M Q
  refine Ev.iload dX0_sailHour_76 0 rfl ?_
  refine Ev.if_gt (tgt := 110) dX0_sailHour_78 (by decide) (fun c21 => ?_) (fun c21 => ?_)
  · replace h := wp_t c21 h
    refine Ev.iload dX0_sailHour_110 0 rfl ?_
    refine Ev.getTN dX0_sailHour_112 sl_X0_72 ?_
    refine Ev.iconst (v := 2) dX0_sailHour_115 rfl ?_
    obtain ⟨g22, h⟩ := wp_rd h
    refine Ev.tald dX0_sailHour_116 (Nat.le_of_ble_eq_true rfl) rfl g22 ?_
    refine Ev.topi (fun r23 er23 => ?_)
    replace h := h r23 er23
    refine Ev.icmp_gt (tgt := 135) dX0_sailHour_117 (by decide) (fun c24 => ?_) (fun c24 => ?_)
    · replace h := wp_t c24 h
      refine Ev.sub [4, 6, 7, 1, 0] rfl ?_
      exact o_X0_sailHour_135 gk1 h
    · replace h := wp_f c24 h
      refine Ev.iload dX0_sailHour_120 1 rfl ?_
      refine Ev.if_lt (tgt := 135) dX0_sailHour_122 (by decide) (fun c25 => ?_) (fun c25 => ?_)
      · replace h := wp_t c25 h
        refine Ev.sub [4, 6, 7, 1, 0] rfl ?_
        exact o_X0_sailHour_135 gk1 h
      · replace h := wp_f c25 h
        refine Ev.iload dX0_sailHour_125 1 rfl ?_
        refine Ev.getTN dX0_sailHour_127 sl_X0_72 ?_
        refine Ev.iconst (v := 1) dX0_sailHour_130 rfl ?_
        obtain ⟨g26, h⟩ := wp_rd h
        refine Ev.tald dX0_sailHour_131 (Nat.le_of_ble_eq_true rfl) rfl g26 ?_
        refine Ev.topi (fun r27 er27 => ?_)
        replace h := h r27 er27
        refine Ev.icmp_le (tgt := 142) dX0_sailHour_132 (by decide) (fun c28 => ?_) (fun c28 => ?_)
        · replace h := wp_t c28 h
          refine Ev.sub [4, 6, 7, 1, 0] rfl ?_
          exact o_X0_sailHour_142 gk1 h
        · replace h := wp_f c28 h
          refine Ev.sub [4, 6, 7, 1, 0] rfl ?_
          exact o_X0_sailHour_135 gk1 h
  · replace h := wp_f c21 h
    refine Ev.aload_n dX0_sailHour_81 rfl 4 rfl ?_
    refine Ev.get dX0_sailHour_82 fl_X0_18 rfl (Nat.le_of_ble_eq_true rfl) (v := .ref (ad E 43)) rfl ?_
    refine Ev.iload_n dX0_sailHour_85 rfl 6 rfl ?_
    refine Ev.iconst (v := 2) dX0_sailHour_86 rfl ?_
    obtain ⟨g29, h⟩ := wp_inb h
    refine Ev.iast dX0_sailHour_87 rfl (Nat.le_of_ble_eq_true rfl) rfl g29 ?_
    refine Ev.topM (fun M30 eM30 => ?_)
    replace h := wp_lm h M30 eM30
    refine Ev.iconst (v := 0) dX0_sailHour_88 rfl ?_
    refine Ev.getTN dX0_sailHour_89 sl_X0_72 ?_
    refine Ev.iconst (v := 1) dX0_sailHour_92 rfl ?_
    obtain ⟨g31, h⟩ := wp_rd h
    refine Ev.tald dX0_sailHour_93 (Nat.le_of_ble_eq_true rfl) rfl g31 ?_
    refine Ev.topi (fun r32 er32 => ?_)
    replace h := h r32 er32
    refine Ev.iload dX0_sailHour_94 1 rfl ?_
    refine Ev.mmin dX0_sailHour_96 mk_X0_75 mok_min ⟨Nat.le_of_ble_eq_true rfl, Nat.le_of_ble_eq_true rfl⟩ (Nat.le_of_ble_eq_true rfl) ?_
    refine Ev.mmax dX0_sailHour_99 mk_X0_80 mok_max ⟨Nat.le_of_ble_eq_true rfl, Nat.le_of_ble_eq_true rfl⟩ (Nat.le_of_ble_eq_true rfl) ?_
    refine Ev.topi (fun y33 ey33 => ?_)
    replace h := wp_li h y33 ey33
    refine Ev.istore dX0_sailHour_102 (Nat.le_of_ble_eq_true rfl) rfl ?_
    show Ev E mi_X0_sailHour 104 [(6, .int y33), (7, .int y20), (5, .int r5), (4, .int r2), (0, .ref (ad E 40)), (1, .ref (ad E k1)), (2, .int p2), (3, .int p3)] [] M30 Q
    refine Ev.iconst (v := 0) dX0_sailHour_104 rfl ?_
    refine Ev.istore dX0_sailHour_105 (Nat.le_of_ble_eq_true rfl) rfl ?_
    show Ev E mi_X0_sailHour 107 [(7, .int 0), (6, .int y33), (5, .int r5), (4, .int r2), (0, .ref (ad E 40)), (1, .ref (ad E k1)), (2, .int p2), (3, .int p3)] [] M30 Q
    refine Ev.goto (tgt := 142) dX0_sailHour_107 (by decide) ?_
    refine Ev.sub [4, 6, 7, 1, 0] rfl ?_
    exact o_X0_sailHour_142 gk1 h

noncomputable def f_X0_sailTub_47 (k1 : Nat) (p2 : Int32) (p3 : Int32) : Nat → Int32 → Mem → Option Mem
  | 0, _, _ => none
  | n + 1, x4, M => if p3 ≤ x4 then some M else rd (M 43) 4 p2 fun r3 => if r3 = 0 then (f_X0_sailHour k1 p2 x4 M).bind fun r5 => (f_X0_sailTub_47 k1 p2 p3 n) (x4 + 1) r5 else some M
theorem o_X0_sailTub_47 {E : GE} {Q : Option Value → Mem → Prop} {k1 : Nat} {p2 : Int32} {p3 : Int32} (gk1 : isSea k1) : ∀ (n : Nat) {x4 : Int32} {M : Mem}, wp (f_X0_sailTub_47 k1 p2 p3 n x4 M) gVM Q → Ev E mi_X0_sailTub 47 [(0, .ref (ad E 40)), (1, .ref (ad E k1)), (2, .int p2), (3, .int p3), (4, .int x4)] [] M Q := by
  intro n
  induction n with
  | zero => intro _ _ h; exact absurd h wp_none
  | succ n ih =>
    intro x4 M h
    unfold f_X0_sailTub_47 at h
    refine Ev.iload dX0_sailTub_47 4 rfl ?_
    refine Ev.iload_n dX0_sailTub_49 rfl 3 rfl ?_
    refine Ev.icmp_ge (tgt := 76) dX0_sailTub_50 (by decide) (fun c1 => ?_) (fun c1 => ?_)
    · replace h := wp_t c1 h
      exact Ev.vret dX0_sailTub_76 rfl (wp_ret h)
    · replace h := wp_f c1 h
      refine Ev.aload_n dX0_sailTub_53 rfl 0 rfl ?_
      refine Ev.get dX0_sailTub_54 fl_X0_18 rfl (Nat.le_of_ble_eq_true rfl) (v := .ref (ad E 43)) rfl ?_
      refine Ev.iload_n dX0_sailTub_57 rfl 2 rfl ?_
      obtain ⟨g2, h⟩ := wp_rd h
      refine Ev.iald dX0_sailTub_58 rfl (Nat.le_of_ble_eq_true rfl) rfl g2 ?_
      refine Ev.topi (fun r3 er3 => ?_)
      replace h := h r3 er3
      refine Ev.if_ne (tgt := 76) dX0_sailTub_59 (by decide) (fun c4 => ?_) (fun c4 => ?_)
      · replace h := wp_t c4 h
        refine Ev.aload_n dX0_sailTub_62 rfl 0 rfl ?_
        refine Ev.aload_n dX0_sailTub_63 rfl 1 rfl ?_
        refine Ev.iload_n dX0_sailTub_64 rfl 2 rfl ?_
        refine Ev.iload dX0_sailTub_65 4 rfl ?_
        obtain ⟨r5, er5, h⟩ := wp_bind h
        refine Ev.callV (k := 40) (as := [.ref (ad E k1), .int p2, .int x4]) (rest := []) dX0_sailTub_67 cl_X0_50 mok_X0_sailHour rfl (Nat.le_of_ble_eq_true rfl) (Nat.le_of_ble_eq_true rfl) ⟨Nat.le_of_ble_eq_true rfl, Nat.le_of_ble_eq_true rfl⟩ (Nat.le_of_ble_eq_true rfl) rfl rfl (o_X0_sailHour gk1 ⟨r5, er5, ?_⟩)
        show Ev E mi_X0_sailTub 70 [(0, .ref (ad E 40)), (1, .ref (ad E k1)), (2, .int p2), (3, .int p3), (4, .int x4)] [] r5 Q
        refine Ev.iinc (v := x4 + 1) dX0_sailTub_70 4 rfl rfl (Nat.le_of_ble_eq_true rfl) rfl ?_
        show Ev E mi_X0_sailTub 73 [(4, .int (x4 + 1)), (0, .ref (ad E 40)), (1, .ref (ad E k1)), (2, .int p2), (3, .int p3)] [] r5 Q
        refine Ev.goto (tgt := 47) dX0_sailTub_73 (by decide) ?_
        refine Ev.sub [1, 2, 3, 4, 0] rfl ?_
        exact ih h
      · replace h := wp_f c4 h
        exact Ev.vret dX0_sailTub_76 rfl (wp_ret h)
noncomputable def f_X0_sailTub (k1 : Nat) (p2 : Int32) (p3 : Int32) (M : Mem) : Option Mem := (f_X2_ofTub k1 p2 1 M).bind fun r1 => inb p2 4 <| lm (up M 41 p2.toNatClampNeg r1) fun M3 => (f_X2_ofTub k1 p2 2 M3).bind fun r4 => inb p2 4 <| lm (up M3 42 p2.toNatClampNeg r4) fun M6 => inb p2 4 <| lm (up M6 43 p2.toNatClampNeg 0) fun M8 => inb p2 4 <| lm (up M8 44 p2.toNatClampNeg (-4)) fun M10 => (f_X2_ofTub k1 p2 3 M10).bind fun r11 => f_X0_sailTub_47 k1 p2 p3 FU r11 M10
theorem o_X0_sailTub {E : GE} {Q : Option Value → Mem → Prop} {k1 : Nat} {p2 : Int32} {p3 : Int32} {M : Mem} (gk1 : isSea k1) (h : wp (f_X0_sailTub k1 p2 p3 M) gVM Q) : Runs E mi_X0_sailTub [.ref (ad E 40), .ref (ad E k1), .int p2, .int p3] M Q := by
  refine Runs.ofEv (by decide +kernel) (Nat.le_of_ble_eq_true rfl) ?_
  show Ev E mi_X0_sailTub 0 [(0, .ref (ad E 40)), (1, .ref (ad E k1)), (2, .int p2), (3, .int p3)] [] M Q
  unfold f_X0_sailTub at h
  refine Ev.aload_n dX0_sailTub_0 rfl 0 rfl ?_
  refine Ev.get dX0_sailTub_1 fl_X0_9 rfl (Nat.le_of_ble_eq_true rfl) (v := .ref (ad E 41)) rfl ?_
  refine Ev.iload_n dX0_sailTub_4 rfl 2 rfl ?_
  refine Ev.aload_n dX0_sailTub_5 rfl 1 rfl ?_
  refine Ev.iload_n dX0_sailTub_6 rfl 2 rfl ?_
  refine Ev.iconst (v := 1) dX0_sailTub_7 rfl ?_
  obtain ⟨r1, er1, h⟩ := wp_bind h
  refine Ev.callN (k := k1) (as := [.int p2, .int 1]) (rest := [.int p2, .ref (ad E 41)]) dX0_sailTub_8 cn_X0_46 mok_X2_ofTub (sea_cl gk1) (sea_k7 gk1) (sea_n0 gk1) ⟨Nat.le_of_ble_eq_true rfl, Nat.le_of_ble_eq_true rfl⟩ (Nat.le_of_ble_eq_true rfl) rfl rfl (o_X2_ofTub gk1 ⟨r1, er1, ?_⟩)
  show Ev E mi_X0_sailTub 11 [(0, .ref (ad E 40)), (1, .ref (ad E k1)), (2, .int p2), (3, .int p3)] [.int r1, .int p2, .ref (ad E 41)] M Q
  obtain ⟨g2, h⟩ := wp_inb h
  refine Ev.iast dX0_sailTub_11 rfl (Nat.le_of_ble_eq_true rfl) rfl g2 ?_
  refine Ev.topM (fun M3 eM3 => ?_)
  replace h := wp_lm h M3 eM3
  refine Ev.aload_n dX0_sailTub_12 rfl 0 rfl ?_
  refine Ev.get dX0_sailTub_13 fl_X0_15 rfl (Nat.le_of_ble_eq_true rfl) (v := .ref (ad E 42)) rfl ?_
  refine Ev.iload_n dX0_sailTub_16 rfl 2 rfl ?_
  refine Ev.aload_n dX0_sailTub_17 rfl 1 rfl ?_
  refine Ev.iload_n dX0_sailTub_18 rfl 2 rfl ?_
  refine Ev.iconst (v := 2) dX0_sailTub_19 rfl ?_
  obtain ⟨r4, er4, h⟩ := wp_bind h
  refine Ev.callN (k := k1) (as := [.int p2, .int 2]) (rest := [.int p2, .ref (ad E 42)]) dX0_sailTub_20 cn_X0_46 mok_X2_ofTub (sea_cl gk1) (sea_k7 gk1) (sea_n0 gk1) ⟨Nat.le_of_ble_eq_true rfl, Nat.le_of_ble_eq_true rfl⟩ (Nat.le_of_ble_eq_true rfl) rfl rfl (o_X2_ofTub gk1 ⟨r4, er4, ?_⟩)
  show Ev E mi_X0_sailTub 23 [(0, .ref (ad E 40)), (1, .ref (ad E k1)), (2, .int p2), (3, .int p3)] [.int r4, .int p2, .ref (ad E 42)] M3 Q
  obtain ⟨g5, h⟩ := wp_inb h
  refine Ev.iast dX0_sailTub_23 rfl (Nat.le_of_ble_eq_true rfl) rfl g5 ?_
  refine Ev.topM (fun M6 eM6 => ?_)
  replace h := wp_lm h M6 eM6
  refine Ev.aload_n dX0_sailTub_24 rfl 0 rfl ?_
  refine Ev.get dX0_sailTub_25 fl_X0_18 rfl (Nat.le_of_ble_eq_true rfl) (v := .ref (ad E 43)) rfl ?_
  refine Ev.iload_n dX0_sailTub_28 rfl 2 rfl ?_
  refine Ev.iconst (v := 0) dX0_sailTub_29 rfl ?_
  obtain ⟨g7, h⟩ := wp_inb h
  refine Ev.iast dX0_sailTub_30 rfl (Nat.le_of_ble_eq_true rfl) rfl g7 ?_
  refine Ev.topM (fun M8 eM8 => ?_)
  replace h := wp_lm h M8 eM8
  refine Ev.aload_n dX0_sailTub_31 rfl 0 rfl ?_
  refine Ev.get dX0_sailTub_32 fl_X0_21 rfl (Nat.le_of_ble_eq_true rfl) (v := .ref (ad E 44)) rfl ?_
  refine Ev.iload_n dX0_sailTub_35 rfl 2 rfl ?_
  refine Ev.bipush (v := (-4)) dX0_sailTub_36 rfl ?_
  obtain ⟨g9, h⟩ := wp_inb h
  refine Ev.iast dX0_sailTub_38 rfl (Nat.le_of_ble_eq_true rfl) rfl g9 ?_
  refine Ev.topM (fun M10 eM10 => ?_)
  replace h := wp_lm h M10 eM10
  refine Ev.aload_n dX0_sailTub_39 rfl 1 rfl ?_
  refine Ev.iload_n dX0_sailTub_40 rfl 2 rfl ?_
  refine Ev.iconst (v := 3) dX0_sailTub_41 rfl ?_
  obtain ⟨r11, er11, h⟩ := wp_bind h
  refine Ev.callN (k := k1) (as := [.int p2, .int 3]) (rest := []) dX0_sailTub_42 cn_X0_46 mok_X2_ofTub (sea_cl gk1) (sea_k7 gk1) (sea_n0 gk1) ⟨Nat.le_of_ble_eq_true rfl, Nat.le_of_ble_eq_true rfl⟩ (Nat.le_of_ble_eq_true rfl) rfl rfl (o_X2_ofTub gk1 ⟨r11, er11, ?_⟩)
  show Ev E mi_X0_sailTub 45 [(0, .ref (ad E 40)), (1, .ref (ad E k1)), (2, .int p2), (3, .int p3)] [.int r11] M10 Q
  refine Ev.istore dX0_sailTub_45 (Nat.le_of_ble_eq_true rfl) rfl ?_
  show Ev E mi_X0_sailTub 47 [(4, .int r11), (0, .ref (ad E 40)), (1, .ref (ad E k1)), (2, .int p2), (3, .int p3)] [] M10 Q
  refine Ev.sub [1, 2, 3, 4, 0] rfl ?_
  exact o_X0_sailTub_47 gk1 FU h

noncomputable def f_X0_meetTub_187 (k1 : Nat) (p2 : Int32) (p3 : Int32) (t33 : Int32 → Int32 → Mem → Option Mem) (x4 : Int32) (x5 : Int32) (M : Mem) : Option Mem := t33 x4 (x5 + 1) M
theorem o_X0_meetTub_187 {E : GE} {Q : Option Value → Mem → Prop} {k1 : Nat} {p2 : Int32} {p3 : Int32} {t33 : Int32 → Int32 → Mem → Option Mem} {x4 : Int32} {x5 : Int32} {M : Mem} (gk1 : isSea k1) (ht33 : ∀ (x4 : Int32) (x5 : Int32) (M : Mem), wp (t33 x4 x5 M) gVM Q → Ev E mi_X0_meetTub 33 [(0, .ref (ad E 40)), (1, .ref (ad E k1)), (2, .int p2), (3, .int p3), (4, .int x4), (5, .int x5)] [] M Q) (h : wp (f_X0_meetTub_187 k1 p2 p3 t33 x4 x5 M) gVM Q) : Ev E mi_X0_meetTub 187 [(0, .ref (ad E 40)), (1, .ref (ad E k1)), (2, .int p2), (3, .int p3), (4, .int x4), (5, .int x5)] [] M Q := by
  unfold f_X0_meetTub_187 at h
  refine Ev.iinc (v := x5 + 1) dX0_meetTub_187 5 rfl rfl (Nat.le_of_ble_eq_true rfl) rfl ?_
  show Ev E mi_X0_meetTub 190 [(5, .int (x5 + 1)), (0, .ref (ad E 40)), (1, .ref (ad E k1)), (2, .int p2), (3, .int p3), (4, .int x4)] [] M Q
  refine Ev.goto (tgt := 33) dX0_meetTub_190 (by decide) ?_
  refine Ev.sub [1, 2, 3, 4, 5, 0] rfl ?_
  exact ht33 _ _ _ h
noncomputable def f_X0_meetTub_167 (k1 : Nat) (p2 : Int32) (p3 : Int32) (t33 : Int32 → Int32 → Mem → Option Mem) (x5 : Int32) (x6 : Int32) (x7 : Int32) (M : Mem) : Option Mem := inb p2 4 <| lm (up M 45 p2.toNatClampNeg x5) fun M2 => inb p2 4 <| lm (up M2 46 p2.toNatClampNeg x7) fun M4 => f_X0_meetTub_187 k1 p2 p3 t33 x6 x5 M4
theorem o_X0_meetTub_167 {E : GE} {Q : Option Value → Mem → Prop} {k1 : Nat} {p2 : Int32} {p3 : Int32} {t33 : Int32 → Int32 → Mem → Option Mem} {x5 : Int32} {x6 : Int32} {x7 : Int32} {M : Mem} (gk1 : isSea k1) (ht33 : ∀ (x4 : Int32) (x5 : Int32) (M : Mem), wp (t33 x4 x5 M) gVM Q → Ev E mi_X0_meetTub 33 [(0, .ref (ad E 40)), (1, .ref (ad E k1)), (2, .int p2), (3, .int p3), (4, .int x4), (5, .int x5)] [] M Q) (h : wp (f_X0_meetTub_167 k1 p2 p3 t33 x5 x6 x7 M) gVM Q) : Ev E mi_X0_meetTub 167 [(0, .ref (ad E 40)), (1, .ref (ad E k1)), (2, .int p2), (3, .int p3), (5, .int x5), (6, .int x6), (7, .int x7)] [] M Q := by
  unfold f_X0_meetTub_167 at h
  refine Ev.aload_n dX0_meetTub_167 rfl 0 rfl ?_
  refine Ev.get dX0_meetTub_168 fl_X0_24 rfl (Nat.le_of_ble_eq_true rfl) (v := .ref (ad E 45)) rfl ?_
  refine Ev.iload_n dX0_meetTub_171 rfl 2 rfl ?_
  refine Ev.iload dX0_meetTub_172 4 rfl ?_
  obtain ⟨g1, h⟩ := wp_inb h
  refine Ev.iast dX0_meetTub_174 rfl (Nat.le_of_ble_eq_true rfl) rfl g1 ?_
  refine Ev.topM (fun M2 eM2 => ?_)
  replace h := wp_lm h M2 eM2
  refine Ev.aload_n dX0_meetTub_175 rfl 0 rfl ?_
  refine Ev.get dX0_meetTub_176 fl_X0_27 rfl (Nat.le_of_ble_eq_true rfl) (v := .ref (ad E 46)) rfl ?_
  refine Ev.iload_n dX0_meetTub_179 rfl 2 rfl ?_
  refine Ev.iload dX0_meetTub_180 6 rfl ?_
  obtain ⟨g3, h⟩ := wp_inb h
  refine Ev.iast dX0_meetTub_182 rfl (Nat.le_of_ble_eq_true rfl) rfl g3 ?_
  refine Ev.topM (fun M4 eM4 => ?_)
  replace h := wp_lm h M4 eM4
  refine Ev.iload dX0_meetTub_183 5 rfl ?_
  refine Ev.istore dX0_meetTub_185 (Nat.le_of_ble_eq_true rfl) rfl ?_
  show Ev E mi_X0_meetTub 187 [(4, .int x6), (0, .ref (ad E 40)), (1, .ref (ad E k1)), (2, .int p2), (3, .int p3), (5, .int x5), (6, .int x6), (7, .int x7)] [] M4 Q
  refine Ev.sub [1, 2, 3, 4, 0, 5] rfl ?_
  exact o_X0_meetTub_187 gk1 ht33 h
noncomputable def f_X0_meetTub_139 (k1 : Nat) (p2 : Int32) (p3 : Int32) (t33 : Int32 → Int32 → Mem → Option Mem) (x4 : Int32) (x5 : Int32) (x6 : Int32) (x7 : Int32) (s0 : Int32) (M : Mem) : Option Mem := if s0 = 0 then rd (M 46) 4 p2 fun r3 => if r3 < x7 then f_X0_meetTub_187 k1 p2 p3 t33 x4 x5 M else if x6 < x4 then f_X0_meetTub_167 k1 p2 p3 t33 x5 x6 x7 M else f_X0_meetTub_187 k1 p2 p3 t33 x4 x5 M else f_X0_meetTub_167 k1 p2 p3 t33 x5 x6 x7 M
theorem o_X0_meetTub_139 {E : GE} {Q : Option Value → Mem → Prop} {k1 : Nat} {p2 : Int32} {p3 : Int32} {t33 : Int32 → Int32 → Mem → Option Mem} {x4 : Int32} {x5 : Int32} {x6 : Int32} {x7 : Int32} {s0 : Int32} {M : Mem} (gk1 : isSea k1) (ht33 : ∀ (x4 : Int32) (x5 : Int32) (M : Mem), wp (t33 x4 x5 M) gVM Q → Ev E mi_X0_meetTub 33 [(0, .ref (ad E 40)), (1, .ref (ad E k1)), (2, .int p2), (3, .int p3), (4, .int x4), (5, .int x5)] [] M Q) (h : wp (f_X0_meetTub_139 k1 p2 p3 t33 x4 x5 x6 x7 s0 M) gVM Q) : Ev E mi_X0_meetTub 139 [(0, .ref (ad E 40)), (1, .ref (ad E k1)), (2, .int p2), (3, .int p3), (4, .int x4), (5, .int x5), (6, .int x6), (7, .int x7)] [.int s0] M Q := by
  unfold f_X0_meetTub_139 at h
  refine Ev.istore dX0_meetTub_139 (Nat.le_of_ble_eq_true rfl) rfl ?_
  show Ev E mi_X0_meetTub 141 [(8, .int s0), (0, .ref (ad E 40)), (1, .ref (ad E k1)), (2, .int p2), (3, .int p3), (4, .int x4), (5, .int x5), (6, .int x6), (7, .int x7)] [] M Q
  refine Ev.iload dX0_meetTub_141 0 rfl ?_
  refine Ev.if_ne (tgt := 167) dX0_meetTub_143 (by decide) (fun c1 => ?_) (fun c1 => ?_)
  · replace h := wp_t c1 h
    refine Ev.iload dX0_meetTub_146 8 rfl ?_
    refine Ev.aload_n dX0_meetTub_148 rfl 1 rfl ?_
    refine Ev.get dX0_meetTub_149 fl_X0_27 rfl (Nat.le_of_ble_eq_true rfl) (v := .ref (ad E 46)) rfl ?_
    refine Ev.iload_n dX0_meetTub_152 rfl 3 rfl ?_
    obtain ⟨g2, h⟩ := wp_rd h
    refine Ev.iald dX0_meetTub_153 rfl (Nat.le_of_ble_eq_true rfl) rfl g2 ?_
    refine Ev.topi (fun r3 er3 => ?_)
    replace h := h r3 er3
    refine Ev.icmp_gt (tgt := 187) dX0_meetTub_154 (by decide) (fun c4 => ?_) (fun c4 => ?_)
    · replace h := wp_t c4 h
      refine Ev.sub [1, 2, 3, 4, 5, 6] rfl ?_
      exact o_X0_meetTub_187 gk1 ht33 h
    · replace h := wp_f c4 h
      refine Ev.iload dX0_meetTub_157 7 rfl ?_
      refine Ev.iload dX0_meetTub_159 5 rfl ?_
      refine Ev.icmp_lt (tgt := 167) dX0_meetTub_161 (by decide) (fun c5 => ?_) (fun c5 => ?_)
      · replace h := wp_t c5 h
        refine Ev.sub [1, 2, 3, 4, 6, 7, 8] rfl ?_
        exact o_X0_meetTub_167 gk1 ht33 h
      · replace h := wp_f c5 h
        refine Ev.goto (tgt := 187) dX0_meetTub_164 (by decide) ?_
        refine Ev.sub [1, 2, 3, 4, 5, 6] rfl ?_
        exact o_X0_meetTub_187 gk1 ht33 h
  · replace h := wp_f c1 h
    refine Ev.sub [1, 2, 3, 4, 6, 7, 8] rfl ?_
    exact o_X0_meetTub_167 gk1 ht33 h
noncomputable def f_X0_meetTub_134 (k1 : Nat) (p2 : Int32) (p3 : Int32) (t33 : Int32 → Int32 → Mem → Option Mem) (x4 : Int32) (x5 : Int32) (x6 : Int32) (x7 : Int32) (M : Mem) : Option Mem := f_X0_meetTub_139 k1 p2 p3 t33 x4 x5 x6 x7 1 M
theorem o_X0_meetTub_134 {E : GE} {Q : Option Value → Mem → Prop} {k1 : Nat} {p2 : Int32} {p3 : Int32} {t33 : Int32 → Int32 → Mem → Option Mem} {x4 : Int32} {x5 : Int32} {x6 : Int32} {x7 : Int32} {M : Mem} (gk1 : isSea k1) (ht33 : ∀ (x4 : Int32) (x5 : Int32) (M : Mem), wp (t33 x4 x5 M) gVM Q → Ev E mi_X0_meetTub 33 [(0, .ref (ad E 40)), (1, .ref (ad E k1)), (2, .int p2), (3, .int p3), (4, .int x4), (5, .int x5)] [] M Q) (h : wp (f_X0_meetTub_134 k1 p2 p3 t33 x4 x5 x6 x7 M) gVM Q) : Ev E mi_X0_meetTub 134 [(0, .ref (ad E 40)), (1, .ref (ad E k1)), (2, .int p2), (3, .int p3), (4, .int x4), (5, .int x5), (6, .int x6), (7, .int x7)] [] M Q := by
  unfold f_X0_meetTub_134 at h
  refine Ev.iconst (v := 1) dX0_meetTub_134 rfl ?_
  refine Ev.goto (tgt := 139) dX0_meetTub_135 (by decide) ?_
  exact o_X0_meetTub_139 gk1 ht33 h
noncomputable def f_X0_meetTub_33 (k1 : Nat) (p2 : Int32) (p3 : Int32) : Nat → Int32 → Int32 → Mem → Option Mem
  | 0, _, _, _ => none
  | n + 1, x4, x5, M => if (M k1 5) ≤ x5 then some M else rd (M 41) 4 p2 fun r3 => (f_X2_ofHeir k1 x5 0 M).bind fun r4 => li (if 0 ≤ (r3 - r4) then (r3 - r4) else 0 - (r3 - r4)) fun y5 => rd (M 44) 4 p2 fun r7 => (f_X2_ofHeir k1 x5 1 M).bind fun r8 => li (if r7 < r8 then r8 else r7) fun y9 => (f_X2_ofHeir k1 x5 3 M).bind fun r10 => if r10 < y5 then f_X0_meetTub_187 k1 p2 p3 (f_X0_meetTub_33 k1 p2 p3 n) x4 x5 M else (f_X2_ofHeir k1 x5 2 M).bind fun r12 => if r12 < y9 then f_X0_meetTub_187 k1 p2 p3 (f_X0_meetTub_33 k1 p2 p3 n) x4 x5 M else if y9 < p3 then rd (M 45) 4 p2 fun r16 => if r16 = (-4) then f_X0_meetTub_134 k1 p2 p3 (f_X0_meetTub_33 k1 p2 p3 n) x4 x5 y5 y9 M else rd (M 46) 4 p2 fun r19 => if r19 ≤ y9 then f_X0_meetTub_139 k1 p2 p3 (f_X0_meetTub_33 k1 p2 p3 n) x4 x5 y5 y9 0 M else f_X0_meetTub_134 k1 p2 p3 (f_X0_meetTub_33 k1 p2 p3 n) x4 x5 y5 y9 M else f_X0_meetTub_187 k1 p2 p3 (f_X0_meetTub_33 k1 p2 p3 n) x4 x5 M
theorem o_X0_meetTub_33 {E : GE} {Q : Option Value → Mem → Prop} {k1 : Nat} {p2 : Int32} {p3 : Int32} (gk1 : isSea k1) : ∀ (n : Nat) {x4 : Int32} {x5 : Int32} {M : Mem}, wp (f_X0_meetTub_33 k1 p2 p3 n x4 x5 M) gVM Q → Ev E mi_X0_meetTub 33 [(0, .ref (ad E 40)), (1, .ref (ad E k1)), (2, .int p2), (3, .int p3), (4, .int x4), (5, .int x5)] [] M Q := by
  intro n
  induction n with
  | zero => intro _ _ _ h; exact absurd h wp_none
  | succ n ih =>
    intro x4 x5 M h
    unfold f_X0_meetTub_33 at h
    refine Ev.iload dX0_meetTub_33 5 rfl ?_
    refine Ev.aload_n dX0_meetTub_35 rfl 1 rfl ?_
    refine Ev.getN dX0_meetTub_36 nl_X0_83 (sea_k0 gk1) (sea_n0 gk1) rfl ?_
    refine Ev.icmp_ge (tgt := 193) dX0_meetTub_39 (by decide) (fun c1 => ?_) (fun c1 => ?_)
    · replace h := wp_t c1 h
      exact Ev.vret dX0_meetTub_193 rfl (wp_ret h)
    · replace h := wp_f c1 h
      refine Ev.aload_n dX0_meetTub_42 rfl 0 rfl ?_
      refine Ev.get dX0_meetTub_43 fl_X0_9 rfl (Nat.le_of_ble_eq_true rfl) (v := .ref (ad E 41)) rfl ?_
      refine Ev.iload_n dX0_meetTub_46 rfl 2 rfl ?_
      obtain ⟨g2, h⟩ := wp_rd h
      refine Ev.iald dX0_meetTub_47 rfl (Nat.le_of_ble_eq_true rfl) rfl g2 ?_
      refine Ev.topi (fun r3 er3 => ?_)
      replace h := h r3 er3
      refine Ev.aload_n dX0_meetTub_48 rfl 1 rfl ?_
      refine Ev.iload dX0_meetTub_49 5 rfl ?_
      refine Ev.iconst (v := 0) dX0_meetTub_51 rfl ?_
      obtain ⟨r4, er4, h⟩ := wp_bind h
      refine Ev.callN (k := k1) (as := [.int x5, .int 0]) (rest := [.int r3]) dX0_meetTub_52 cn_X0_86 mok_X2_ofHeir (sea_cl gk1) (sea_k7 gk1) (sea_n0 gk1) ⟨Nat.le_of_ble_eq_true rfl, Nat.le_of_ble_eq_true rfl⟩ (Nat.le_of_ble_eq_true rfl) rfl rfl (o_X2_ofHeir gk1 ⟨r4, er4, ?_⟩)
      show Ev E mi_X0_meetTub 55 [(0, .ref (ad E 40)), (1, .ref (ad E k1)), (2, .int p2), (3, .int p3), (4, .int x4), (5, .int x5)] [.int r4, .int r3] M Q
      refine Ev.isub dX0_meetTub_55 ?_
      refine Ev.mabs dX0_meetTub_56 mk_X0_89 mok_abs ⟨Nat.le_of_ble_eq_true rfl, Nat.le_of_ble_eq_true rfl⟩ (Nat.le_of_ble_eq_true rfl) ?_
      refine Ev.topi (fun y5 ey5 => ?_)
      replace h := wp_li h y5 ey5
      refine Ev.istore dX0_meetTub_59 (Nat.le_of_ble_eq_true rfl) rfl ?_
      show Ev E mi_X0_meetTub 61 [(6, .int y5), (0, .ref (ad E 40)), (1, .ref (ad E k1)), (2, .int p2), (3, .int p3), (4, .int x4), (5, .int x5)] [] M Q
      refine Ev.aload_n dX0_meetTub_61 rfl 1 rfl ?_
      refine Ev.get dX0_meetTub_62 fl_X0_21 rfl (Nat.le_of_ble_eq_true rfl) (v := .ref (ad E 44)) rfl ?_
      refine Ev.iload_n dX0_meetTub_65 rfl 3 rfl ?_
      obtain ⟨g6, h⟩ := wp_rd h
      refine Ev.iald dX0_meetTub_66 rfl (Nat.le_of_ble_eq_true rfl) rfl g6 ?_
      refine Ev.topi (fun r7 er7 => ?_)
      replace h := h r7 er7
      refine Ev.aload_n dX0_meetTub_67 rfl 2 rfl ?_
      refine Ev.iload dX0_meetTub_68 6 rfl ?_
      refine Ev.iconst (v := 1) dX0_meetTub_70 rfl ?_
      obtain ⟨r8, er8, h⟩ := wp_bind h
      refine Ev.callN (k := k1) (as := [.int x5, .int 1]) (rest := [.int r7]) dX0_meetTub_71 cn_X0_86 mok_X2_ofHeir (sea_cl gk1) (sea_k7 gk1) (sea_n0 gk1) ⟨Nat.le_of_ble_eq_true rfl, Nat.le_of_ble_eq_true rfl⟩ (Nat.le_of_ble_eq_true rfl) rfl rfl (o_X2_ofHeir gk1 ⟨r8, er8, ?_⟩)
      show Ev E mi_X0_meetTub 74 [(6, .int y5), (0, .ref (ad E 40)), (1, .ref (ad E k1)), (2, .int p2), (3, .int p3), (4, .int x4), (5, .int x5)] [.int r8, .int r7] M Q
      refine Ev.mmax dX0_meetTub_74 mk_X0_80 mok_max ⟨Nat.le_of_ble_eq_true rfl, Nat.le_of_ble_eq_true rfl⟩ (Nat.le_of_ble_eq_true rfl) ?_
      refine Ev.topi (fun y9 ey9 => ?_)
      replace h := wp_li h y9 ey9
      refine Ev.istore dX0_meetTub_77 (Nat.le_of_ble_eq_true rfl) rfl ?_
      show Ev E mi_X0_meetTub 79 [(7, .int y9), (6, .int y5), (0, .ref (ad E 40)), (1, .ref (ad E k1)), (2, .int p2), (3, .int p3), (4, .int x4), (5, .int x5)] [] M Q
      refine Ev.iload dX0_meetTub_79 1 rfl ?_
      refine Ev.aload_n dX0_meetTub_81 rfl 3 rfl ?_
      refine Ev.iload dX0_meetTub_82 7 rfl ?_
      refine Ev.iconst (v := 3) dX0_meetTub_84 rfl ?_
      obtain ⟨r10, er10, h⟩ := wp_bind h
      refine Ev.callN (k := k1) (as := [.int x5, .int 3]) (rest := [.int y5]) dX0_meetTub_85 cn_X0_86 mok_X2_ofHeir (sea_cl gk1) (sea_k7 gk1) (sea_n0 gk1) ⟨Nat.le_of_ble_eq_true rfl, Nat.le_of_ble_eq_true rfl⟩ (Nat.le_of_ble_eq_true rfl) rfl rfl (o_X2_ofHeir gk1 ⟨r10, er10, ?_⟩)
      show Ev E mi_X0_meetTub 88 [(7, .int y9), (6, .int y5), (0, .ref (ad E 40)), (1, .ref (ad E k1)), (2, .int p2), (3, .int p3), (4, .int x4), (5, .int x5)] [.int r10, .int y5] M Q
      refine Ev.icmp_gt (tgt := 187) dX0_meetTub_88 (by decide) (fun c11 => ?_) (fun c11 => ?_)
      · replace h := wp_t c11 h
        refine Ev.sub [2, 3, 4, 5, 6, 7] rfl ?_
        exact o_X0_meetTub_187 gk1 (fun _ _ _ h => ih h) h
      · replace h := wp_f c11 h
        refine Ev.iload dX0_meetTub_91 0 rfl ?_
        refine Ev.aload_n dX0_meetTub_93 rfl 3 rfl ?_
        refine Ev.iload dX0_meetTub_94 7 rfl ?_
        refine Ev.iconst (v := 2) dX0_meetTub_96 rfl ?_
        obtain ⟨r12, er12, h⟩ := wp_bind h
        refine Ev.callN (k := k1) (as := [.int x5, .int 2]) (rest := [.int y9]) dX0_meetTub_97 cn_X0_86 mok_X2_ofHeir (sea_cl gk1) (sea_k7 gk1) (sea_n0 gk1) ⟨Nat.le_of_ble_eq_true rfl, Nat.le_of_ble_eq_true rfl⟩ (Nat.le_of_ble_eq_true rfl) rfl rfl (o_X2_ofHeir gk1 ⟨r12, er12, ?_⟩)
        show Ev E mi_X0_meetTub 100 [(7, .int y9), (6, .int y5), (0, .ref (ad E 40)), (1, .ref (ad E k1)), (2, .int p2), (3, .int p3), (4, .int x4), (5, .int x5)] [.int r12, .int y9] M Q
        refine Ev.icmp_gt (tgt := 187) dX0_meetTub_100 (by decide) (fun c13 => ?_) (fun c13 => ?_)
        · replace h := wp_t c13 h
          refine Ev.sub [2, 3, 4, 5, 6, 7] rfl ?_
          exact o_X0_meetTub_187 gk1 (fun _ _ _ h => ih h) h
        · replace h := wp_f c13 h
          refine Ev.iload dX0_meetTub_103 0 rfl ?_
          refine Ev.iload_n dX0_meetTub_105 rfl 5 rfl ?_
          refine Ev.icmp_lt (tgt := 112) dX0_meetTub_106 (by decide) (fun c14 => ?_) (fun c14 => ?_)
          · replace h := wp_t c14 h
            refine Ev.aload_n dX0_meetTub_112 rfl 2 rfl ?_
            refine Ev.get dX0_meetTub_113 fl_X0_24 rfl (Nat.le_of_ble_eq_true rfl) (v := .ref (ad E 45)) rfl ?_
            refine Ev.iload_n dX0_meetTub_116 rfl 4 rfl ?_
            obtain ⟨g15, h⟩ := wp_rd h
            refine Ev.iald dX0_meetTub_117 rfl (Nat.le_of_ble_eq_true rfl) rfl g15 ?_
            refine Ev.topi (fun r16 er16 => ?_)
            replace h := h r16 er16
            refine Ev.bipush (v := (-4)) dX0_meetTub_118 rfl ?_
            refine Ev.icmp_eq (tgt := 134) dX0_meetTub_120 (by decide) (fun c17 => ?_) (fun c17 => ?_)
            · replace h := wp_t c17 h
              refine Ev.sub [2, 3, 4, 5, 6, 7, 1, 0] rfl ?_
              exact o_X0_meetTub_134 gk1 (fun _ _ _ h => ih h) h
            · replace h := wp_f c17 h
              refine Ev.iload dX0_meetTub_123 0 rfl ?_
              refine Ev.aload_n dX0_meetTub_125 rfl 2 rfl ?_
              refine Ev.get dX0_meetTub_126 fl_X0_27 rfl (Nat.le_of_ble_eq_true rfl) (v := .ref (ad E 46)) rfl ?_
              refine Ev.iload_n dX0_meetTub_129 rfl 4 rfl ?_
              obtain ⟨g18, h⟩ := wp_rd h
              refine Ev.iald dX0_meetTub_130 rfl (Nat.le_of_ble_eq_true rfl) rfl g18 ?_
              refine Ev.topi (fun r19 er19 => ?_)
              replace h := h r19 er19
              refine Ev.icmp_ge (tgt := 138) dX0_meetTub_131 (by decide) (fun c20 => ?_) (fun c20 => ?_)
              · replace h := wp_t c20 h
                refine Ev.iconst (v := 0) dX0_meetTub_138 rfl ?_
                refine Ev.sub [2, 3, 4, 5, 6, 7, 1, 0] rfl ?_
                exact o_X0_meetTub_139 gk1 (fun _ _ _ h => ih h) h
              · replace h := wp_f c20 h
                refine Ev.sub [2, 3, 4, 5, 6, 7, 1, 0] rfl ?_
                exact o_X0_meetTub_134 gk1 (fun _ _ _ h => ih h) h
          · replace h := wp_f c14 h
            refine Ev.goto (tgt := 187) dX0_meetTub_109 (by decide) ?_
            refine Ev.sub [2, 3, 4, 5, 6, 7] rfl ?_
            exact o_X0_meetTub_187 gk1 (fun _ _ _ h => ih h) h
noncomputable def f_X0_meetTub (k1 : Nat) (p2 : Int32) (p3 : Int32) (M : Mem) : Option Mem := inb p2 4 <| lm (up M 45 p2.toNatClampNeg (-4)) fun M2 => inb p2 4 <| lm (up M2 46 p2.toNatClampNeg (-4)) fun M4 => rd (M4 43) 4 p2 fun r6 => if r6 = 2 then f_X0_meetTub_33 k1 p2 p3 FU 0 0 M4 else some M4
theorem o_X0_meetTub {E : GE} {Q : Option Value → Mem → Prop} {k1 : Nat} {p2 : Int32} {p3 : Int32} {M : Mem} (gk1 : isSea k1) (h : wp (f_X0_meetTub k1 p2 p3 M) gVM Q) : Runs E mi_X0_meetTub [.ref (ad E 40), .ref (ad E k1), .int p2, .int p3] M Q := by
  refine Runs.ofEv (by decide +kernel) (Nat.le_of_ble_eq_true rfl) ?_
  show Ev E mi_X0_meetTub 0 [(0, .ref (ad E 40)), (1, .ref (ad E k1)), (2, .int p2), (3, .int p3)] [] M Q
  unfold f_X0_meetTub at h
  refine Ev.aload_n dX0_meetTub_0 rfl 0 rfl ?_
  refine Ev.get dX0_meetTub_1 fl_X0_24 rfl (Nat.le_of_ble_eq_true rfl) (v := .ref (ad E 45)) rfl ?_
  refine Ev.iload_n dX0_meetTub_4 rfl 2 rfl ?_
  refine Ev.bipush (v := (-4)) dX0_meetTub_5 rfl ?_
  obtain ⟨g1, h⟩ := wp_inb h
  refine Ev.iast dX0_meetTub_7 rfl (Nat.le_of_ble_eq_true rfl) rfl g1 ?_
  refine Ev.topM (fun M2 eM2 => ?_)
  replace h := wp_lm h M2 eM2
  refine Ev.aload_n dX0_meetTub_8 rfl 0 rfl ?_
  refine Ev.get dX0_meetTub_9 fl_X0_27 rfl (Nat.le_of_ble_eq_true rfl) (v := .ref (ad E 46)) rfl ?_
  refine Ev.iload_n dX0_meetTub_12 rfl 2 rfl ?_
  refine Ev.bipush (v := (-4)) dX0_meetTub_13 rfl ?_
  obtain ⟨g3, h⟩ := wp_inb h
  refine Ev.iast dX0_meetTub_15 rfl (Nat.le_of_ble_eq_true rfl) rfl g3 ?_
  refine Ev.topM (fun M4 eM4 => ?_)
  replace h := wp_lm h M4 eM4
  refine Ev.aload_n dX0_meetTub_16 rfl 0 rfl ?_
  refine Ev.get dX0_meetTub_17 fl_X0_18 rfl (Nat.le_of_ble_eq_true rfl) (v := .ref (ad E 43)) rfl ?_
  refine Ev.iload_n dX0_meetTub_20 rfl 2 rfl ?_
  obtain ⟨g5, h⟩ := wp_rd h
  refine Ev.iald dX0_meetTub_21 rfl (Nat.le_of_ble_eq_true rfl) rfl g5 ?_
  refine Ev.topi (fun r6 er6 => ?_)
  replace h := h r6 er6
  refine Ev.iconst (v := 2) dX0_meetTub_22 rfl ?_
  refine Ev.icmp_eq (tgt := 27) dX0_meetTub_23 (by decide) (fun c7 => ?_) (fun c7 => ?_)
  · replace h := wp_t c7 h
    refine Ev.iconst (v := 0) dX0_meetTub_27 rfl ?_
    refine Ev.istore dX0_meetTub_28 (Nat.le_of_ble_eq_true rfl) rfl ?_
    show Ev E mi_X0_meetTub 30 [(4, .int 0), (0, .ref (ad E 40)), (1, .ref (ad E k1)), (2, .int p2), (3, .int p3)] [] M4 Q
    refine Ev.iconst (v := 0) dX0_meetTub_30 rfl ?_
    refine Ev.istore dX0_meetTub_31 (Nat.le_of_ble_eq_true rfl) rfl ?_
    show Ev E mi_X0_meetTub 33 [(5, .int 0), (4, .int 0), (0, .ref (ad E 40)), (1, .ref (ad E k1)), (2, .int p2), (3, .int p3)] [] M4 Q
    refine Ev.sub [2, 3, 4, 5, 1, 0] rfl ?_
    exact o_X0_meetTub_33 gk1 FU h
  · replace h := wp_f c7 h
    exact Ev.vret dX0_meetTub_26 rfl (wp_ret h)

noncomputable def f_X0_runTub (k1 : Nat) (p2 : Int32) (p3 : Int32) (M : Mem) : Option Mem := (f_X0_sailTub k1 p2 p3 M).bind fun r1 => (f_X0_meetTub k1 p2 p3 r1).bind fun r2 => some r2
theorem o_X0_runTub {E : GE} {Q : Option Value → Mem → Prop} {k1 : Nat} {p2 : Int32} {p3 : Int32} {M : Mem} (gk1 : isSea k1) (h : wp (f_X0_runTub k1 p2 p3 M) gVM Q) : Runs E mi_X0_runTub [.ref (ad E 40), .ref (ad E k1), .int p2, .int p3] M Q := by
  refine Runs.ofEv (by decide +kernel) (Nat.le_of_ble_eq_true rfl) ?_
  show Ev E mi_X0_runTub 0 [(0, .ref (ad E 40)), (1, .ref (ad E k1)), (2, .int p2), (3, .int p3)] [] M Q
  unfold f_X0_runTub at h
  refine Ev.aload_n dX0_runTub_0 rfl 0 rfl ?_
  refine Ev.aload_n dX0_runTub_1 rfl 1 rfl ?_
  refine Ev.iload_n dX0_runTub_2 rfl 2 rfl ?_
  refine Ev.iload_n dX0_runTub_3 rfl 3 rfl ?_
  obtain ⟨r1, er1, h⟩ := wp_bind h
  refine Ev.callV (k := 40) (as := [.ref (ad E k1), .int p2, .int p3]) (rest := []) dX0_runTub_4 cl_X0_40 mok_X0_sailTub rfl (Nat.le_of_ble_eq_true rfl) (Nat.le_of_ble_eq_true rfl) ⟨Nat.le_of_ble_eq_true rfl, Nat.le_of_ble_eq_true rfl⟩ (Nat.le_of_ble_eq_true rfl) rfl rfl (o_X0_sailTub gk1 ⟨r1, er1, ?_⟩)
  show Ev E mi_X0_runTub 7 [(0, .ref (ad E 40)), (1, .ref (ad E k1)), (2, .int p2), (3, .int p3)] [] r1 Q
  refine Ev.aload_n dX0_runTub_7 rfl 0 rfl ?_
  refine Ev.aload_n dX0_runTub_8 rfl 1 rfl ?_
  refine Ev.iload_n dX0_runTub_9 rfl 2 rfl ?_
  refine Ev.iload_n dX0_runTub_10 rfl 3 rfl ?_
  obtain ⟨r2, er2, h⟩ := wp_bind h
  refine Ev.callV (k := 40) (as := [.ref (ad E k1), .int p2, .int p3]) (rest := []) dX0_runTub_11 cl_X0_43 mok_X0_meetTub rfl (Nat.le_of_ble_eq_true rfl) (Nat.le_of_ble_eq_true rfl) ⟨Nat.le_of_ble_eq_true rfl, Nat.le_of_ble_eq_true rfl⟩ (Nat.le_of_ble_eq_true rfl) rfl rfl (o_X0_meetTub gk1 ⟨r2, er2, ?_⟩)
  show Ev E mi_X0_runTub 14 [(0, .ref (ad E 40)), (1, .ref (ad E k1)), (2, .int p2), (3, .int p3)] [] r2 Q
  exact Ev.vret dX0_runTub_14 rfl (wp_ret h)

noncomputable def f_X0_run_2 (k1 : Nat) : Nat → Int32 → Mem → Option Mem
  | 0, _, _ => none
  | n + 1, x2, M => if (M k1 4) ≤ x2 then some M else (f_X0_runTub k1 x2 24 M).bind fun r2 => (f_X0_run_2 k1 n) (x2 + 1) r2
theorem o_X0_run_2 {E : GE} {Q : Option Value → Mem → Prop} {k1 : Nat} (gk1 : isSea k1) : ∀ (n : Nat) {x2 : Int32} {M : Mem}, wp (f_X0_run_2 k1 n x2 M) gVM Q → Ev E mi_X0_run 2 [(0, .ref (ad E 40)), (1, .ref (ad E k1)), (2, .int x2)] [] M Q := by
  intro n
  induction n with
  | zero => intro _ _ h; exact absurd h wp_none
  | succ n ih =>
    intro x2 M h
    unfold f_X0_run_2 at h
    refine Ev.iload_n dX0_run_2 rfl 2 rfl ?_
    refine Ev.aload_n dX0_run_3 rfl 1 rfl ?_
    refine Ev.getN dX0_run_4 nl_X0_30 (sea_k0 gk1) (sea_n0 gk1) rfl ?_
    refine Ev.icmp_ge (tgt := 24) dX0_run_7 (by decide) (fun c1 => ?_) (fun c1 => ?_)
    · replace h := wp_t c1 h
      exact Ev.vret dX0_run_24 rfl (wp_ret h)
    · replace h := wp_f c1 h
      refine Ev.aload_n dX0_run_10 rfl 0 rfl ?_
      refine Ev.aload_n dX0_run_11 rfl 1 rfl ?_
      refine Ev.iload_n dX0_run_12 rfl 2 rfl ?_
      refine Ev.bipush (v := 24) dX0_run_13 rfl ?_
      obtain ⟨r2, er2, h⟩ := wp_bind h
      refine Ev.callV (k := 40) (as := [.ref (ad E k1), .int x2, .int 24]) (rest := []) dX0_run_15 cl_X0_36 mok_X0_runTub rfl (Nat.le_of_ble_eq_true rfl) (Nat.le_of_ble_eq_true rfl) ⟨Nat.le_of_ble_eq_true rfl, Nat.le_of_ble_eq_true rfl⟩ (Nat.le_of_ble_eq_true rfl) rfl rfl (o_X0_runTub gk1 ⟨r2, er2, ?_⟩)
      show Ev E mi_X0_run 18 [(0, .ref (ad E 40)), (1, .ref (ad E k1)), (2, .int x2)] [] r2 Q
      refine Ev.iinc (v := x2 + 1) dX0_run_18 2 rfl rfl (Nat.le_of_ble_eq_true rfl) rfl ?_
      show Ev E mi_X0_run 21 [(2, .int (x2 + 1)), (0, .ref (ad E 40)), (1, .ref (ad E k1))] [] r2 Q
      refine Ev.goto (tgt := 2) dX0_run_21 (by decide) ?_
      refine Ev.sub [1, 2, 0] rfl ?_
      exact ih h
noncomputable def f_X0_run (k1 : Nat) (M : Mem) : Option Mem := f_X0_run_2 k1 FU 0 M
theorem o_X0_run {E : GE} {Q : Option Value → Mem → Prop} {k1 : Nat} {M : Mem} (gk1 : isSea k1) (h : wp (f_X0_run k1 M) gVM Q) : Runs E mi_X0_run [.ref (ad E 40), .ref (ad E k1)] M Q := by
  refine Runs.ofEv (by decide +kernel) (Nat.le_of_ble_eq_true rfl) ?_
  show Ev E mi_X0_run 0 [(0, .ref (ad E 40)), (1, .ref (ad E k1))] [] M Q
  unfold f_X0_run at h
  refine Ev.iconst (v := 0) dX0_run_0 rfl ?_
  refine Ev.istore_n dX0_run_1 rfl (Nat.le_of_ble_eq_true rfl) rfl ?_
  show Ev E mi_X0_run 2 [(2, .int 0), (0, .ref (ad E 40)), (1, .ref (ad E k1))] [] M Q
  refine Ev.sub [1, 2, 0] rfl ?_
  exact o_X0_run_2 gk1 FU h

noncomputable def f_X0_sail_2 (k1 : Nat) : Nat → Int32 → Mem → Option Mem
  | 0, _, _ => none
  | n + 1, x2, M => if (M k1 4) ≤ x2 then some M else (f_X0_sailTub k1 x2 24 M).bind fun r2 => (f_X0_sail_2 k1 n) (x2 + 1) r2
theorem o_X0_sail_2 {E : GE} {Q : Option Value → Mem → Prop} {k1 : Nat} (gk1 : isSea k1) : ∀ (n : Nat) {x2 : Int32} {M : Mem}, wp (f_X0_sail_2 k1 n x2 M) gVM Q → Ev E mi_X0_sail 2 [(0, .ref (ad E 40)), (1, .ref (ad E k1)), (2, .int x2)] [] M Q := by
  intro n
  induction n with
  | zero => intro _ _ h; exact absurd h wp_none
  | succ n ih =>
    intro x2 M h
    unfold f_X0_sail_2 at h
    refine Ev.iload_n dX0_sail_2 rfl 2 rfl ?_
    refine Ev.aload_n dX0_sail_3 rfl 1 rfl ?_
    refine Ev.getN dX0_sail_4 nl_X0_30 (sea_k0 gk1) (sea_n0 gk1) rfl ?_
    refine Ev.icmp_ge (tgt := 24) dX0_sail_7 (by decide) (fun c1 => ?_) (fun c1 => ?_)
    · replace h := wp_t c1 h
      exact Ev.vret dX0_sail_24 rfl (wp_ret h)
    · replace h := wp_f c1 h
      refine Ev.aload_n dX0_sail_10 rfl 0 rfl ?_
      refine Ev.aload_n dX0_sail_11 rfl 1 rfl ?_
      refine Ev.iload_n dX0_sail_12 rfl 2 rfl ?_
      refine Ev.bipush (v := 24) dX0_sail_13 rfl ?_
      obtain ⟨r2, er2, h⟩ := wp_bind h
      refine Ev.callV (k := 40) (as := [.ref (ad E k1), .int x2, .int 24]) (rest := []) dX0_sail_15 cl_X0_40 mok_X0_sailTub rfl (Nat.le_of_ble_eq_true rfl) (Nat.le_of_ble_eq_true rfl) ⟨Nat.le_of_ble_eq_true rfl, Nat.le_of_ble_eq_true rfl⟩ (Nat.le_of_ble_eq_true rfl) rfl rfl (o_X0_sailTub gk1 ⟨r2, er2, ?_⟩)
      show Ev E mi_X0_sail 18 [(0, .ref (ad E 40)), (1, .ref (ad E k1)), (2, .int x2)] [] r2 Q
      refine Ev.iinc (v := x2 + 1) dX0_sail_18 2 rfl rfl (Nat.le_of_ble_eq_true rfl) rfl ?_
      show Ev E mi_X0_sail 21 [(2, .int (x2 + 1)), (0, .ref (ad E 40)), (1, .ref (ad E k1))] [] r2 Q
      refine Ev.goto (tgt := 2) dX0_sail_21 (by decide) ?_
      refine Ev.sub [1, 2, 0] rfl ?_
      exact ih h
noncomputable def f_X0_sail (k1 : Nat) (M : Mem) : Option Mem := f_X0_sail_2 k1 FU 0 M
theorem o_X0_sail {E : GE} {Q : Option Value → Mem → Prop} {k1 : Nat} {M : Mem} (gk1 : isSea k1) (h : wp (f_X0_sail k1 M) gVM Q) : Runs E mi_X0_sail [.ref (ad E 40), .ref (ad E k1)] M Q := by
  refine Runs.ofEv (by decide +kernel) (Nat.le_of_ble_eq_true rfl) ?_
  show Ev E mi_X0_sail 0 [(0, .ref (ad E 40)), (1, .ref (ad E k1))] [] M Q
  unfold f_X0_sail at h
  refine Ev.iconst (v := 0) dX0_sail_0 rfl ?_
  refine Ev.istore_n dX0_sail_1 rfl (Nat.le_of_ble_eq_true rfl) rfl ?_
  show Ev E mi_X0_sail 2 [(2, .int 0), (0, .ref (ad E 40)), (1, .ref (ad E k1))] [] M Q
  refine Ev.sub [1, 2, 0] rfl ?_
  exact o_X0_sail_2 gk1 FU h

noncomputable def f_X0_meet_2 (k1 : Nat) : Nat → Int32 → Mem → Option Mem
  | 0, _, _ => none
  | n + 1, x2, M => if (M k1 4) ≤ x2 then some M else (f_X0_meetTub k1 x2 24 M).bind fun r2 => (f_X0_meet_2 k1 n) (x2 + 1) r2
theorem o_X0_meet_2 {E : GE} {Q : Option Value → Mem → Prop} {k1 : Nat} (gk1 : isSea k1) : ∀ (n : Nat) {x2 : Int32} {M : Mem}, wp (f_X0_meet_2 k1 n x2 M) gVM Q → Ev E mi_X0_meet 2 [(0, .ref (ad E 40)), (1, .ref (ad E k1)), (2, .int x2)] [] M Q := by
  intro n
  induction n with
  | zero => intro _ _ h; exact absurd h wp_none
  | succ n ih =>
    intro x2 M h
    unfold f_X0_meet_2 at h
    refine Ev.iload_n dX0_meet_2 rfl 2 rfl ?_
    refine Ev.aload_n dX0_meet_3 rfl 1 rfl ?_
    refine Ev.getN dX0_meet_4 nl_X0_30 (sea_k0 gk1) (sea_n0 gk1) rfl ?_
    refine Ev.icmp_ge (tgt := 24) dX0_meet_7 (by decide) (fun c1 => ?_) (fun c1 => ?_)
    · replace h := wp_t c1 h
      exact Ev.vret dX0_meet_24 rfl (wp_ret h)
    · replace h := wp_f c1 h
      refine Ev.aload_n dX0_meet_10 rfl 0 rfl ?_
      refine Ev.aload_n dX0_meet_11 rfl 1 rfl ?_
      refine Ev.iload_n dX0_meet_12 rfl 2 rfl ?_
      refine Ev.bipush (v := 24) dX0_meet_13 rfl ?_
      obtain ⟨r2, er2, h⟩ := wp_bind h
      refine Ev.callV (k := 40) (as := [.ref (ad E k1), .int x2, .int 24]) (rest := []) dX0_meet_15 cl_X0_43 mok_X0_meetTub rfl (Nat.le_of_ble_eq_true rfl) (Nat.le_of_ble_eq_true rfl) ⟨Nat.le_of_ble_eq_true rfl, Nat.le_of_ble_eq_true rfl⟩ (Nat.le_of_ble_eq_true rfl) rfl rfl (o_X0_meetTub gk1 ⟨r2, er2, ?_⟩)
      show Ev E mi_X0_meet 18 [(0, .ref (ad E 40)), (1, .ref (ad E k1)), (2, .int x2)] [] r2 Q
      refine Ev.iinc (v := x2 + 1) dX0_meet_18 2 rfl rfl (Nat.le_of_ble_eq_true rfl) rfl ?_
      show Ev E mi_X0_meet 21 [(2, .int (x2 + 1)), (0, .ref (ad E 40)), (1, .ref (ad E k1))] [] r2 Q
      refine Ev.goto (tgt := 2) dX0_meet_21 (by decide) ?_
      refine Ev.sub [1, 2, 0] rfl ?_
      exact ih h
noncomputable def f_X0_meet (k1 : Nat) (M : Mem) : Option Mem := f_X0_meet_2 k1 FU 0 M
theorem o_X0_meet {E : GE} {Q : Option Value → Mem → Prop} {k1 : Nat} {M : Mem} (gk1 : isSea k1) (h : wp (f_X0_meet k1 M) gVM Q) : Runs E mi_X0_meet [.ref (ad E 40), .ref (ad E k1)] M Q := by
  refine Runs.ofEv (by decide +kernel) (Nat.le_of_ble_eq_true rfl) ?_
  show Ev E mi_X0_meet 0 [(0, .ref (ad E 40)), (1, .ref (ad E k1))] [] M Q
  unfold f_X0_meet at h
  refine Ev.iconst (v := 0) dX0_meet_0 rfl ?_
  refine Ev.istore_n dX0_meet_1 rfl (Nat.le_of_ble_eq_true rfl) rfl ?_
  show Ev E mi_X0_meet 2 [(2, .int 0), (0, .ref (ad E 40)), (1, .ref (ad E k1))] [] M Q
  refine Ev.sub [1, 2, 0] rfl ?_
  exact o_X0_meet_2 gk1 FU h

noncomputable def f_X0_gives (k1 : Nat) (p2 : Int32) (p3 : Int32) (M : Mem) : Option (Int32 × Mem) := (f_X0_runTub k1 p2 24 M).bind fun r1 => rd (r1 45) 4 p2 fun r3 => if r3 = p3 then some (1, r1) else some (0, r1)
theorem o_X0_gives {E : GE} {Q : Option Value → Mem → Prop} {k1 : Nat} {p2 : Int32} {p3 : Int32} {M : Mem} (gk1 : isSea k1) (h : wp (f_X0_gives k1 p2 p3 M) gIM Q) : Runs E mi_X0_gives [.ref (ad E 40), .ref (ad E k1), .int p2, .int p3] M Q := by
  refine Runs.ofEv (by decide +kernel) (Nat.le_of_ble_eq_true rfl) ?_
  show Ev E mi_X0_gives 0 [(0, .ref (ad E 40)), (1, .ref (ad E k1)), (2, .int p2), (3, .int p3)] [] M Q
  unfold f_X0_gives at h
  refine Ev.aload_n dX0_gives_0 rfl 0 rfl ?_
  refine Ev.aload_n dX0_gives_1 rfl 1 rfl ?_
  refine Ev.iload_n dX0_gives_2 rfl 2 rfl ?_
  refine Ev.bipush (v := 24) dX0_gives_3 rfl ?_
  obtain ⟨r1, er1, h⟩ := wp_bind h
  refine Ev.callV (k := 40) (as := [.ref (ad E k1), .int p2, .int 24]) (rest := []) dX0_gives_5 cl_X0_36 mok_X0_runTub rfl (Nat.le_of_ble_eq_true rfl) (Nat.le_of_ble_eq_true rfl) ⟨Nat.le_of_ble_eq_true rfl, Nat.le_of_ble_eq_true rfl⟩ (Nat.le_of_ble_eq_true rfl) rfl rfl (o_X0_runTub gk1 ⟨r1, er1, ?_⟩)
  show Ev E mi_X0_gives 8 [(0, .ref (ad E 40)), (1, .ref (ad E k1)), (2, .int p2), (3, .int p3)] [] r1 Q
  refine Ev.aload_n dX0_gives_8 rfl 0 rfl ?_
  refine Ev.get dX0_gives_9 fl_X0_24 rfl (Nat.le_of_ble_eq_true rfl) (v := .ref (ad E 45)) rfl ?_
  refine Ev.iload_n dX0_gives_12 rfl 2 rfl ?_
  obtain ⟨g2, h⟩ := wp_rd h
  refine Ev.iald dX0_gives_13 rfl (Nat.le_of_ble_eq_true rfl) rfl g2 ?_
  refine Ev.topi (fun r3 er3 => ?_)
  replace h := h r3 er3
  refine Ev.iload_n dX0_gives_14 rfl 3 rfl ?_
  refine Ev.icmp_ne (tgt := 22) dX0_gives_15 (by decide) (fun c4 => ?_) (fun c4 => ?_)
  · replace h := wp_t c4 h
    refine Ev.iconst (v := 1) dX0_gives_18 rfl ?_
    refine Ev.goto (tgt := 23) dX0_gives_19 (by decide) ?_
    exact Ev.ret dX0_gives_23 rfl rfl (wp_ret h)
  · replace h := wp_f c4 h
    refine Ev.iconst (v := 0) dX0_gives_22 rfl ?_
    exact Ev.ret dX0_gives_23 rfl rfl (wp_ret h)

noncomputable def f_X0_wayOf (p1 : Int32) (M : Mem) : Option Int32 := rd (M 45) 4 p1 fun r2 => if r2 = (-4) then rd (M 43) 4 p1 fun r5 => some r5 else some 1
theorem o_X0_wayOf {E : GE} {Q : Option Value → Mem → Prop} {p1 : Int32} {M : Mem} (h : wp (f_X0_wayOf p1 M) (gI M) Q) : Runs E mi_X0_wayOf [.ref (ad E 40), .int p1] M Q := by
  refine Runs.ofEv (by decide +kernel) (Nat.le_of_ble_eq_true rfl) ?_
  show Ev E mi_X0_wayOf 0 [(0, .ref (ad E 40)), (1, .int p1)] [] M Q
  unfold f_X0_wayOf at h
  refine Ev.aload_n dX0_wayOf_0 rfl 0 rfl ?_
  refine Ev.get dX0_wayOf_1 fl_X0_24 rfl (Nat.le_of_ble_eq_true rfl) (v := .ref (ad E 45)) rfl ?_
  refine Ev.iload_n dX0_wayOf_4 rfl 1 rfl ?_
  obtain ⟨g1, h⟩ := wp_rd h
  refine Ev.iald dX0_wayOf_5 rfl (Nat.le_of_ble_eq_true rfl) rfl g1 ?_
  refine Ev.topi (fun r2 er2 => ?_)
  replace h := h r2 er2
  refine Ev.bipush (v := (-4)) dX0_wayOf_6 rfl ?_
  refine Ev.icmp_ne (tgt := 20) dX0_wayOf_8 (by decide) (fun c3 => ?_) (fun c3 => ?_)
  · replace h := wp_t c3 h
    refine Ev.aload_n dX0_wayOf_11 rfl 0 rfl ?_
    refine Ev.get dX0_wayOf_12 fl_X0_18 rfl (Nat.le_of_ble_eq_true rfl) (v := .ref (ad E 43)) rfl ?_
    refine Ev.iload_n dX0_wayOf_15 rfl 1 rfl ?_
    obtain ⟨g4, h⟩ := wp_rd h
    refine Ev.iald dX0_wayOf_16 rfl (Nat.le_of_ble_eq_true rfl) rfl g4 ?_
    refine Ev.topi (fun r5 er5 => ?_)
    replace h := h r5 er5
    refine Ev.goto (tgt := 21) dX0_wayOf_17 (by decide) ?_
    exact Ev.ret dX0_wayOf_21 rfl rfl (wp_ret h)
  · replace h := wp_f c3 h
    refine Ev.iconst (v := 1) dX0_wayOf_20 rfl ?_
    exact Ev.ret dX0_wayOf_21 rfl rfl (wp_ret h)

noncomputable def f_X0_eastOf (p1 : Int32) (M : Mem) : Option Int32 := rd (M 41) 4 p1 fun r2 => some (r2 + 10)
theorem o_X0_eastOf {E : GE} {Q : Option Value → Mem → Prop} {p1 : Int32} {M : Mem} (h : wp (f_X0_eastOf p1 M) (gI M) Q) : Runs E mi_X0_eastOf [.ref (ad E 40), .int p1] M Q := by
  refine Runs.ofEv (by decide +kernel) (Nat.le_of_ble_eq_true rfl) ?_
  show Ev E mi_X0_eastOf 0 [(0, .ref (ad E 40)), (1, .int p1)] [] M Q
  unfold f_X0_eastOf at h
  refine Ev.aload_n dX0_eastOf_0 rfl 0 rfl ?_
  refine Ev.get dX0_eastOf_1 fl_X0_9 rfl (Nat.le_of_ble_eq_true rfl) (v := .ref (ad E 41)) rfl ?_
  refine Ev.iload_n dX0_eastOf_4 rfl 1 rfl ?_
  obtain ⟨g1, h⟩ := wp_rd h
  refine Ev.iald dX0_eastOf_5 rfl (Nat.le_of_ble_eq_true rfl) rfl g1 ?_
  refine Ev.topi (fun r2 er2 => ?_)
  replace h := h r2 er2
  refine Ev.bipush (v := 10) dX0_eastOf_6 rfl ?_
  refine Ev.iadd dX0_eastOf_8 ?_
  exact Ev.ret dX0_eastOf_9 rfl rfl (wp_ret h)

noncomputable def f_X0_estatesOf_35 (k1 : Nat) (p2 : Int32) (M : Mem) (t5 : Int32 → Int32 → Option Int32) (x3 : Int32) (x4 : Int32) : Option Int32 := t5 x3 (x4 + 1)
theorem o_X0_estatesOf_35 {E : GE} {Q : Option Value → Mem → Prop} {k1 : Nat} {p2 : Int32} {M : Mem} {t5 : Int32 → Int32 → Option Int32} {x3 : Int32} {x4 : Int32} (gk1 : isSea k1) (ht5 : ∀ (x3 : Int32) (x4 : Int32), wp (t5 x3 x4) (gI M) Q → Ev E mi_X0_estatesOf 5 [(0, .ref (ad E 40)), (1, .ref (ad E k1)), (2, .int p2), (3, .int x3), (4, .int x4)] [] M Q) (h : wp (f_X0_estatesOf_35 k1 p2 M t5 x3 x4) (gI M) Q) : Ev E mi_X0_estatesOf 35 [(0, .ref (ad E 40)), (1, .ref (ad E k1)), (2, .int p2), (3, .int x3), (4, .int x4)] [] M Q := by
  unfold f_X0_estatesOf_35 at h
  refine Ev.iinc (v := x4 + 1) dX0_estatesOf_35 4 rfl rfl (Nat.le_of_ble_eq_true rfl) rfl ?_
  show Ev E mi_X0_estatesOf 38 [(4, .int (x4 + 1)), (0, .ref (ad E 40)), (1, .ref (ad E k1)), (2, .int p2), (3, .int x3)] [] M Q
  refine Ev.goto (tgt := 5) dX0_estatesOf_38 (by decide) ?_
  refine Ev.sub [1, 2, 3, 4, 0] rfl ?_
  exact ht5 _ _ h
noncomputable def f_X0_estatesOf_5 (k1 : Nat) (p2 : Int32) (M : Mem) : Nat → Int32 → Int32 → Option Int32
  | 0, _, _ => none
  | n + 1, x3, x4 => if (M k1 4) ≤ x4 then some x3 else rd (M 45) 4 x4 fun r3 => if r3 = p2 then (f_X2_ofTub k1 x4 4 M).bind fun r5 => li (x3 + r5) fun y6 => f_X0_estatesOf_35 k1 p2 M (f_X0_estatesOf_5 k1 p2 M n) y6 x4 else f_X0_estatesOf_35 k1 p2 M (f_X0_estatesOf_5 k1 p2 M n) x3 x4
theorem o_X0_estatesOf_5 {E : GE} {Q : Option Value → Mem → Prop} {k1 : Nat} {p2 : Int32} {M : Mem} (gk1 : isSea k1) : ∀ (n : Nat) {x3 : Int32} {x4 : Int32}, wp (f_X0_estatesOf_5 k1 p2 M n x3 x4) (gI M) Q → Ev E mi_X0_estatesOf 5 [(0, .ref (ad E 40)), (1, .ref (ad E k1)), (2, .int p2), (3, .int x3), (4, .int x4)] [] M Q := by
  intro n
  induction n with
  | zero => intro _ _ h; exact absurd h wp_none
  | succ n ih =>
    intro x3 x4 h
    unfold f_X0_estatesOf_5 at h
    refine Ev.iload dX0_estatesOf_5 4 rfl ?_
    refine Ev.aload_n dX0_estatesOf_7 rfl 1 rfl ?_
    refine Ev.getN dX0_estatesOf_8 nl_X0_30 (sea_k0 gk1) (sea_n0 gk1) rfl ?_
    refine Ev.icmp_ge (tgt := 41) dX0_estatesOf_11 (by decide) (fun c1 => ?_) (fun c1 => ?_)
    · replace h := wp_t c1 h
      refine Ev.iload_n dX0_estatesOf_41 rfl 3 rfl ?_
      exact Ev.ret dX0_estatesOf_42 rfl rfl (wp_ret h)
    · replace h := wp_f c1 h
      refine Ev.aload_n dX0_estatesOf_14 rfl 0 rfl ?_
      refine Ev.get dX0_estatesOf_15 fl_X0_24 rfl (Nat.le_of_ble_eq_true rfl) (v := .ref (ad E 45)) rfl ?_
      refine Ev.iload dX0_estatesOf_18 4 rfl ?_
      obtain ⟨g2, h⟩ := wp_rd h
      refine Ev.iald dX0_estatesOf_20 rfl (Nat.le_of_ble_eq_true rfl) rfl g2 ?_
      refine Ev.topi (fun r3 er3 => ?_)
      replace h := h r3 er3
      refine Ev.iload_n dX0_estatesOf_21 rfl 2 rfl ?_
      refine Ev.icmp_ne (tgt := 35) dX0_estatesOf_22 (by decide) (fun c4 => ?_) (fun c4 => ?_)
      · replace h := wp_t c4 h
        refine Ev.iload_n dX0_estatesOf_25 rfl 3 rfl ?_
        refine Ev.aload_n dX0_estatesOf_26 rfl 1 rfl ?_
        refine Ev.iload dX0_estatesOf_27 4 rfl ?_
        refine Ev.iconst (v := 4) dX0_estatesOf_29 rfl ?_
        obtain ⟨r5, er5, h⟩ := wp_bind h
        refine Ev.callN (k := k1) (as := [.int x4, .int 4]) (rest := [.int x3]) dX0_estatesOf_30 cn_X0_46 mok_X2_ofTub (sea_cl gk1) (sea_k7 gk1) (sea_n0 gk1) ⟨Nat.le_of_ble_eq_true rfl, Nat.le_of_ble_eq_true rfl⟩ (Nat.le_of_ble_eq_true rfl) rfl rfl (o_X2_ofTub gk1 ⟨r5, er5, ?_⟩)
        show Ev E mi_X0_estatesOf 33 [(0, .ref (ad E 40)), (1, .ref (ad E k1)), (2, .int p2), (3, .int x3), (4, .int x4)] [.int r5, .int x3] M Q
        refine Ev.iadd dX0_estatesOf_33 ?_
        refine Ev.topi (fun y6 ey6 => ?_)
        replace h := wp_li h y6 ey6
        refine Ev.istore_n dX0_estatesOf_34 rfl (Nat.le_of_ble_eq_true rfl) rfl ?_
        show Ev E mi_X0_estatesOf 35 [(3, .int y6), (0, .ref (ad E 40)), (1, .ref (ad E k1)), (2, .int p2), (4, .int x4)] [] M Q
        refine Ev.sub [1, 2, 3, 0, 4] rfl ?_
        exact o_X0_estatesOf_35 gk1 (fun _ _ h => ih h) h
      · replace h := wp_f c4 h
        exact o_X0_estatesOf_35 gk1 (fun _ _ h => ih h) h
noncomputable def f_X0_estatesOf (k1 : Nat) (p2 : Int32) (M : Mem) : Option Int32 := f_X0_estatesOf_5 k1 p2 M FU 0 0
theorem o_X0_estatesOf {E : GE} {Q : Option Value → Mem → Prop} {k1 : Nat} {p2 : Int32} {M : Mem} (gk1 : isSea k1) (h : wp (f_X0_estatesOf k1 p2 M) (gI M) Q) : Runs E mi_X0_estatesOf [.ref (ad E 40), .ref (ad E k1), .int p2] M Q := by
  refine Runs.ofEv (by decide +kernel) (Nat.le_of_ble_eq_true rfl) ?_
  show Ev E mi_X0_estatesOf 0 [(0, .ref (ad E 40)), (1, .ref (ad E k1)), (2, .int p2)] [] M Q
  unfold f_X0_estatesOf at h
  refine Ev.iconst (v := 0) dX0_estatesOf_0 rfl ?_
  refine Ev.istore_n dX0_estatesOf_1 rfl (Nat.le_of_ble_eq_true rfl) rfl ?_
  show Ev E mi_X0_estatesOf 2 [(3, .int 0), (0, .ref (ad E 40)), (1, .ref (ad E k1)), (2, .int p2)] [] M Q
  refine Ev.iconst (v := 0) dX0_estatesOf_2 rfl ?_
  refine Ev.istore dX0_estatesOf_3 (Nat.le_of_ble_eq_true rfl) rfl ?_
  show Ev E mi_X0_estatesOf 5 [(4, .int 0), (3, .int 0), (0, .ref (ad E 40)), (1, .ref (ad E k1)), (2, .int p2)] [] M Q
  refine Ev.sub [2, 3, 4, 1, 0] rfl ?_
  exact o_X0_estatesOf_5 gk1 FU h

noncomputable def f_X0_tubsOf_32 (k1 : Nat) (p2 : Int32) (M : Mem) (t5 : Int32 → Int32 → Option Int32) (x3 : Int32) (x4 : Int32) : Option Int32 := t5 x3 (x4 + 1)
theorem o_X0_tubsOf_32 {E : GE} {Q : Option Value → Mem → Prop} {k1 : Nat} {p2 : Int32} {M : Mem} {t5 : Int32 → Int32 → Option Int32} {x3 : Int32} {x4 : Int32} (gk1 : isSea k1) (ht5 : ∀ (x3 : Int32) (x4 : Int32), wp (t5 x3 x4) (gI M) Q → Ev E mi_X0_tubsOf 5 [(0, .ref (ad E 40)), (1, .ref (ad E k1)), (2, .int p2), (3, .int x3), (4, .int x4)] [] M Q) (h : wp (f_X0_tubsOf_32 k1 p2 M t5 x3 x4) (gI M) Q) : Ev E mi_X0_tubsOf 32 [(0, .ref (ad E 40)), (1, .ref (ad E k1)), (2, .int p2), (3, .int x3), (4, .int x4)] [] M Q := by
  unfold f_X0_tubsOf_32 at h
  refine Ev.iinc (v := x4 + 1) dX0_tubsOf_32 4 rfl rfl (Nat.le_of_ble_eq_true rfl) rfl ?_
  show Ev E mi_X0_tubsOf 35 [(4, .int (x4 + 1)), (0, .ref (ad E 40)), (1, .ref (ad E k1)), (2, .int p2), (3, .int x3)] [] M Q
  refine Ev.goto (tgt := 5) dX0_tubsOf_35 (by decide) ?_
  refine Ev.sub [1, 2, 3, 4, 0] rfl ?_
  exact ht5 _ _ h
noncomputable def f_X0_tubsOf_5 (k1 : Nat) (p2 : Int32) (M : Mem) : Nat → Int32 → Int32 → Option Int32
  | 0, _, _ => none
  | n + 1, x3, x4 => if (M k1 4) ≤ x4 then some x3 else rd (M 45) 4 x4 fun r3 => if r3 = p2 then li (x3 ||| (1 <<< (x4 &&& 31))) fun y5 => f_X0_tubsOf_32 k1 p2 M (f_X0_tubsOf_5 k1 p2 M n) y5 x4 else f_X0_tubsOf_32 k1 p2 M (f_X0_tubsOf_5 k1 p2 M n) x3 x4
theorem o_X0_tubsOf_5 {E : GE} {Q : Option Value → Mem → Prop} {k1 : Nat} {p2 : Int32} {M : Mem} (gk1 : isSea k1) : ∀ (n : Nat) {x3 : Int32} {x4 : Int32}, wp (f_X0_tubsOf_5 k1 p2 M n x3 x4) (gI M) Q → Ev E mi_X0_tubsOf 5 [(0, .ref (ad E 40)), (1, .ref (ad E k1)), (2, .int p2), (3, .int x3), (4, .int x4)] [] M Q := by
  intro n
  induction n with
  | zero => intro _ _ h; exact absurd h wp_none
  | succ n ih =>
    intro x3 x4 h
    unfold f_X0_tubsOf_5 at h
    refine Ev.iload dX0_tubsOf_5 4 rfl ?_
    refine Ev.aload_n dX0_tubsOf_7 rfl 1 rfl ?_
    refine Ev.getN dX0_tubsOf_8 nl_X0_30 (sea_k0 gk1) (sea_n0 gk1) rfl ?_
    refine Ev.icmp_ge (tgt := 38) dX0_tubsOf_11 (by decide) (fun c1 => ?_) (fun c1 => ?_)
    · replace h := wp_t c1 h
      refine Ev.iload_n dX0_tubsOf_38 rfl 3 rfl ?_
      exact Ev.ret dX0_tubsOf_39 rfl rfl (wp_ret h)
    · replace h := wp_f c1 h
      refine Ev.aload_n dX0_tubsOf_14 rfl 0 rfl ?_
      refine Ev.get dX0_tubsOf_15 fl_X0_24 rfl (Nat.le_of_ble_eq_true rfl) (v := .ref (ad E 45)) rfl ?_
      refine Ev.iload dX0_tubsOf_18 4 rfl ?_
      obtain ⟨g2, h⟩ := wp_rd h
      refine Ev.iald dX0_tubsOf_20 rfl (Nat.le_of_ble_eq_true rfl) rfl g2 ?_
      refine Ev.topi (fun r3 er3 => ?_)
      replace h := h r3 er3
      refine Ev.iload_n dX0_tubsOf_21 rfl 2 rfl ?_
      refine Ev.icmp_ne (tgt := 32) dX0_tubsOf_22 (by decide) (fun c4 => ?_) (fun c4 => ?_)
      · replace h := wp_t c4 h
        refine Ev.iload_n dX0_tubsOf_25 rfl 3 rfl ?_
        refine Ev.iconst (v := 1) dX0_tubsOf_26 rfl ?_
        refine Ev.iload dX0_tubsOf_27 4 rfl ?_
        refine Ev.ishl dX0_tubsOf_29 ?_
        refine Ev.ior dX0_tubsOf_30 ?_
        refine Ev.topi (fun y5 ey5 => ?_)
        replace h := wp_li h y5 ey5
        refine Ev.istore_n dX0_tubsOf_31 rfl (Nat.le_of_ble_eq_true rfl) rfl ?_
        show Ev E mi_X0_tubsOf 32 [(3, .int y5), (0, .ref (ad E 40)), (1, .ref (ad E k1)), (2, .int p2), (4, .int x4)] [] M Q
        refine Ev.sub [1, 2, 3, 0, 4] rfl ?_
        exact o_X0_tubsOf_32 gk1 (fun _ _ h => ih h) h
      · replace h := wp_f c4 h
        exact o_X0_tubsOf_32 gk1 (fun _ _ h => ih h) h
noncomputable def f_X0_tubsOf (k1 : Nat) (p2 : Int32) (M : Mem) : Option Int32 := f_X0_tubsOf_5 k1 p2 M FU 0 0
theorem o_X0_tubsOf {E : GE} {Q : Option Value → Mem → Prop} {k1 : Nat} {p2 : Int32} {M : Mem} (gk1 : isSea k1) (h : wp (f_X0_tubsOf k1 p2 M) (gI M) Q) : Runs E mi_X0_tubsOf [.ref (ad E 40), .ref (ad E k1), .int p2] M Q := by
  refine Runs.ofEv (by decide +kernel) (Nat.le_of_ble_eq_true rfl) ?_
  show Ev E mi_X0_tubsOf 0 [(0, .ref (ad E 40)), (1, .ref (ad E k1)), (2, .int p2)] [] M Q
  unfold f_X0_tubsOf at h
  refine Ev.iconst (v := 0) dX0_tubsOf_0 rfl ?_
  refine Ev.istore_n dX0_tubsOf_1 rfl (Nat.le_of_ble_eq_true rfl) rfl ?_
  show Ev E mi_X0_tubsOf 2 [(3, .int 0), (0, .ref (ad E 40)), (1, .ref (ad E k1)), (2, .int p2)] [] M Q
  refine Ev.iconst (v := 0) dX0_tubsOf_2 rfl ?_
  refine Ev.istore dX0_tubsOf_3 (Nat.le_of_ble_eq_true rfl) rfl ?_
  show Ev E mi_X0_tubsOf 5 [(4, .int 0), (3, .int 0), (0, .ref (ad E 40)), (1, .ref (ad E k1)), (2, .int p2)] [] M Q
  refine Ev.sub [2, 3, 4, 1, 0] rfl ?_
  exact o_X0_tubsOf_5 gk1 FU h

noncomputable def f_X0_estatesHooked_32 (k1 : Nat) (M : Mem) (t4 : Int32 → Int32 → Option Int32) (x2 : Int32) (x3 : Int32) : Option Int32 := t4 x2 (x3 + 1)
theorem o_X0_estatesHooked_32 {E : GE} {Q : Option Value → Mem → Prop} {k1 : Nat} {M : Mem} {t4 : Int32 → Int32 → Option Int32} {x2 : Int32} {x3 : Int32} (gk1 : isSea k1) (ht4 : ∀ (x2 : Int32) (x3 : Int32), wp (t4 x2 x3) (gI M) Q → Ev E mi_X0_estatesHooked 4 [(0, .ref (ad E 40)), (1, .ref (ad E k1)), (2, .int x2), (3, .int x3)] [] M Q) (h : wp (f_X0_estatesHooked_32 k1 M t4 x2 x3) (gI M) Q) : Ev E mi_X0_estatesHooked 32 [(0, .ref (ad E 40)), (1, .ref (ad E k1)), (2, .int x2), (3, .int x3)] [] M Q := by
  unfold f_X0_estatesHooked_32 at h
  refine Ev.iinc (v := x3 + 1) dX0_estatesHooked_32 3 rfl rfl (Nat.le_of_ble_eq_true rfl) rfl ?_
  show Ev E mi_X0_estatesHooked 35 [(3, .int (x3 + 1)), (0, .ref (ad E 40)), (1, .ref (ad E k1)), (2, .int x2)] [] M Q
  refine Ev.goto (tgt := 4) dX0_estatesHooked_35 (by decide) ?_
  refine Ev.sub [1, 2, 3, 0] rfl ?_
  exact ht4 _ _ h
noncomputable def f_X0_estatesHooked_4 (k1 : Nat) (M : Mem) : Nat → Int32 → Int32 → Option Int32
  | 0, _, _ => none
  | n + 1, x2, x3 => if (M k1 4) ≤ x3 then some x2 else rd (M 45) 4 x3 fun r3 => if r3 = (-4) then f_X0_estatesHooked_32 k1 M (f_X0_estatesHooked_4 k1 M n) x2 x3 else (f_X2_ofTub k1 x3 4 M).bind fun r5 => li (x2 + r5) fun y6 => f_X0_estatesHooked_32 k1 M (f_X0_estatesHooked_4 k1 M n) y6 x3
theorem o_X0_estatesHooked_4 {E : GE} {Q : Option Value → Mem → Prop} {k1 : Nat} {M : Mem} (gk1 : isSea k1) : ∀ (n : Nat) {x2 : Int32} {x3 : Int32}, wp (f_X0_estatesHooked_4 k1 M n x2 x3) (gI M) Q → Ev E mi_X0_estatesHooked 4 [(0, .ref (ad E 40)), (1, .ref (ad E k1)), (2, .int x2), (3, .int x3)] [] M Q := by
  intro n
  induction n with
  | zero => intro _ _ h; exact absurd h wp_none
  | succ n ih =>
    intro x2 x3 h
    unfold f_X0_estatesHooked_4 at h
    refine Ev.iload_n dX0_estatesHooked_4 rfl 3 rfl ?_
    refine Ev.aload_n dX0_estatesHooked_5 rfl 1 rfl ?_
    refine Ev.getN dX0_estatesHooked_6 nl_X0_30 (sea_k0 gk1) (sea_n0 gk1) rfl ?_
    refine Ev.icmp_ge (tgt := 38) dX0_estatesHooked_9 (by decide) (fun c1 => ?_) (fun c1 => ?_)
    · replace h := wp_t c1 h
      refine Ev.iload_n dX0_estatesHooked_38 rfl 2 rfl ?_
      exact Ev.ret dX0_estatesHooked_39 rfl rfl (wp_ret h)
    · replace h := wp_f c1 h
      refine Ev.aload_n dX0_estatesHooked_12 rfl 0 rfl ?_
      refine Ev.get dX0_estatesHooked_13 fl_X0_24 rfl (Nat.le_of_ble_eq_true rfl) (v := .ref (ad E 45)) rfl ?_
      refine Ev.iload_n dX0_estatesHooked_16 rfl 3 rfl ?_
      obtain ⟨g2, h⟩ := wp_rd h
      refine Ev.iald dX0_estatesHooked_17 rfl (Nat.le_of_ble_eq_true rfl) rfl g2 ?_
      refine Ev.topi (fun r3 er3 => ?_)
      replace h := h r3 er3
      refine Ev.bipush (v := (-4)) dX0_estatesHooked_18 rfl ?_
      refine Ev.icmp_eq (tgt := 32) dX0_estatesHooked_20 (by decide) (fun c4 => ?_) (fun c4 => ?_)
      · replace h := wp_t c4 h
        exact o_X0_estatesHooked_32 gk1 (fun _ _ h => ih h) h
      · replace h := wp_f c4 h
        refine Ev.iload_n dX0_estatesHooked_23 rfl 2 rfl ?_
        refine Ev.aload_n dX0_estatesHooked_24 rfl 1 rfl ?_
        refine Ev.iload_n dX0_estatesHooked_25 rfl 3 rfl ?_
        refine Ev.iconst (v := 4) dX0_estatesHooked_26 rfl ?_
        obtain ⟨r5, er5, h⟩ := wp_bind h
        refine Ev.callN (k := k1) (as := [.int x3, .int 4]) (rest := [.int x2]) dX0_estatesHooked_27 cn_X0_46 mok_X2_ofTub (sea_cl gk1) (sea_k7 gk1) (sea_n0 gk1) ⟨Nat.le_of_ble_eq_true rfl, Nat.le_of_ble_eq_true rfl⟩ (Nat.le_of_ble_eq_true rfl) rfl rfl (o_X2_ofTub gk1 ⟨r5, er5, ?_⟩)
        show Ev E mi_X0_estatesHooked 30 [(0, .ref (ad E 40)), (1, .ref (ad E k1)), (2, .int x2), (3, .int x3)] [.int r5, .int x2] M Q
        refine Ev.iadd dX0_estatesHooked_30 ?_
        refine Ev.topi (fun y6 ey6 => ?_)
        replace h := wp_li h y6 ey6
        refine Ev.istore_n dX0_estatesHooked_31 rfl (Nat.le_of_ble_eq_true rfl) rfl ?_
        show Ev E mi_X0_estatesHooked 32 [(2, .int y6), (0, .ref (ad E 40)), (1, .ref (ad E k1)), (3, .int x3)] [] M Q
        refine Ev.sub [1, 2, 0, 3] rfl ?_
        exact o_X0_estatesHooked_32 gk1 (fun _ _ h => ih h) h
noncomputable def f_X0_estatesHooked (k1 : Nat) (M : Mem) : Option Int32 := f_X0_estatesHooked_4 k1 M FU 0 0
theorem o_X0_estatesHooked {E : GE} {Q : Option Value → Mem → Prop} {k1 : Nat} {M : Mem} (gk1 : isSea k1) (h : wp (f_X0_estatesHooked k1 M) (gI M) Q) : Runs E mi_X0_estatesHooked [.ref (ad E 40), .ref (ad E k1)] M Q := by
  refine Runs.ofEv (by decide +kernel) (Nat.le_of_ble_eq_true rfl) ?_
  show Ev E mi_X0_estatesHooked 0 [(0, .ref (ad E 40)), (1, .ref (ad E k1))] [] M Q
  unfold f_X0_estatesHooked at h
  refine Ev.iconst (v := 0) dX0_estatesHooked_0 rfl ?_
  refine Ev.istore_n dX0_estatesHooked_1 rfl (Nat.le_of_ble_eq_true rfl) rfl ?_
  show Ev E mi_X0_estatesHooked 2 [(2, .int 0), (0, .ref (ad E 40)), (1, .ref (ad E k1))] [] M Q
  refine Ev.iconst (v := 0) dX0_estatesHooked_2 rfl ?_
  refine Ev.istore_n dX0_estatesHooked_3 rfl (Nat.le_of_ble_eq_true rfl) rfl ?_
  show Ev E mi_X0_estatesHooked 4 [(3, .int 0), (2, .int 0), (0, .ref (ad E 40)), (1, .ref (ad E k1))] [] M Q
  refine Ev.sub [2, 3, 1, 0] rfl ?_
  exact o_X0_estatesHooked_4 gk1 FU h

noncomputable def f_X0_tubsOfWay_31 (k1 : Nat) (p2 : Int32) (M : Mem) (t5 : Int32 → Int32 → Option Int32) (x3 : Int32) (x4 : Int32) : Option Int32 := t5 x3 (x4 + 1)
theorem o_X0_tubsOfWay_31 {E : GE} {Q : Option Value → Mem → Prop} {k1 : Nat} {p2 : Int32} {M : Mem} {t5 : Int32 → Int32 → Option Int32} {x3 : Int32} {x4 : Int32} (gk1 : isSea k1) (ht5 : ∀ (x3 : Int32) (x4 : Int32), wp (t5 x3 x4) (gI M) Q → Ev E mi_X0_tubsOfWay 5 [(0, .ref (ad E 40)), (1, .ref (ad E k1)), (2, .int p2), (3, .int x3), (4, .int x4)] [] M Q) (h : wp (f_X0_tubsOfWay_31 k1 p2 M t5 x3 x4) (gI M) Q) : Ev E mi_X0_tubsOfWay 31 [(0, .ref (ad E 40)), (1, .ref (ad E k1)), (2, .int p2), (3, .int x3), (4, .int x4)] [] M Q := by
  unfold f_X0_tubsOfWay_31 at h
  refine Ev.iinc (v := x4 + 1) dX0_tubsOfWay_31 4 rfl rfl (Nat.le_of_ble_eq_true rfl) rfl ?_
  show Ev E mi_X0_tubsOfWay 34 [(4, .int (x4 + 1)), (0, .ref (ad E 40)), (1, .ref (ad E k1)), (2, .int p2), (3, .int x3)] [] M Q
  refine Ev.goto (tgt := 5) dX0_tubsOfWay_34 (by decide) ?_
  refine Ev.sub [1, 2, 3, 4, 0] rfl ?_
  exact ht5 _ _ h
noncomputable def f_X0_tubsOfWay_5 (k1 : Nat) (p2 : Int32) (M : Mem) : Nat → Int32 → Int32 → Option Int32
  | 0, _, _ => none
  | n + 1, x3, x4 => if (M k1 4) ≤ x4 then some x3 else (f_X0_wayOf x4 M).bind fun r2 => if r2 = p2 then li (x3 ||| (1 <<< (x4 &&& 31))) fun y4 => f_X0_tubsOfWay_31 k1 p2 M (f_X0_tubsOfWay_5 k1 p2 M n) y4 x4 else f_X0_tubsOfWay_31 k1 p2 M (f_X0_tubsOfWay_5 k1 p2 M n) x3 x4
theorem o_X0_tubsOfWay_5 {E : GE} {Q : Option Value → Mem → Prop} {k1 : Nat} {p2 : Int32} {M : Mem} (gk1 : isSea k1) : ∀ (n : Nat) {x3 : Int32} {x4 : Int32}, wp (f_X0_tubsOfWay_5 k1 p2 M n x3 x4) (gI M) Q → Ev E mi_X0_tubsOfWay 5 [(0, .ref (ad E 40)), (1, .ref (ad E k1)), (2, .int p2), (3, .int x3), (4, .int x4)] [] M Q := by
  intro n
  induction n with
  | zero => intro _ _ h; exact absurd h wp_none
  | succ n ih =>
    intro x3 x4 h
    unfold f_X0_tubsOfWay_5 at h
    refine Ev.iload dX0_tubsOfWay_5 4 rfl ?_
    refine Ev.aload_n dX0_tubsOfWay_7 rfl 1 rfl ?_
    refine Ev.getN dX0_tubsOfWay_8 nl_X0_30 (sea_k0 gk1) (sea_n0 gk1) rfl ?_
    refine Ev.icmp_ge (tgt := 37) dX0_tubsOfWay_11 (by decide) (fun c1 => ?_) (fun c1 => ?_)
    · replace h := wp_t c1 h
      refine Ev.iload_n dX0_tubsOfWay_37 rfl 3 rfl ?_
      exact Ev.ret dX0_tubsOfWay_38 rfl rfl (wp_ret h)
    · replace h := wp_f c1 h
      refine Ev.aload_n dX0_tubsOfWay_14 rfl 0 rfl ?_
      refine Ev.iload dX0_tubsOfWay_15 4 rfl ?_
      obtain ⟨r2, er2, h⟩ := wp_bind h
      refine Ev.callV (k := 40) (as := [.int x4]) (rest := []) dX0_tubsOfWay_17 cl_X0_92 mok_X0_wayOf rfl (Nat.le_of_ble_eq_true rfl) (Nat.le_of_ble_eq_true rfl) ⟨Nat.le_of_ble_eq_true rfl, Nat.le_of_ble_eq_true rfl⟩ (Nat.le_of_ble_eq_true rfl) rfl rfl (o_X0_wayOf ⟨r2, er2, ?_⟩)
      show Ev E mi_X0_tubsOfWay 20 [(0, .ref (ad E 40)), (1, .ref (ad E k1)), (2, .int p2), (3, .int x3), (4, .int x4)] [.int r2] M Q
      refine Ev.iload_n dX0_tubsOfWay_20 rfl 2 rfl ?_
      refine Ev.icmp_ne (tgt := 31) dX0_tubsOfWay_21 (by decide) (fun c3 => ?_) (fun c3 => ?_)
      · replace h := wp_t c3 h
        refine Ev.iload_n dX0_tubsOfWay_24 rfl 3 rfl ?_
        refine Ev.iconst (v := 1) dX0_tubsOfWay_25 rfl ?_
        refine Ev.iload dX0_tubsOfWay_26 4 rfl ?_
        refine Ev.ishl dX0_tubsOfWay_28 ?_
        refine Ev.ior dX0_tubsOfWay_29 ?_
        refine Ev.topi (fun y4 ey4 => ?_)
        replace h := wp_li h y4 ey4
        refine Ev.istore_n dX0_tubsOfWay_30 rfl (Nat.le_of_ble_eq_true rfl) rfl ?_
        show Ev E mi_X0_tubsOfWay 31 [(3, .int y4), (0, .ref (ad E 40)), (1, .ref (ad E k1)), (2, .int p2), (4, .int x4)] [] M Q
        refine Ev.sub [1, 2, 3, 0, 4] rfl ?_
        exact o_X0_tubsOfWay_31 gk1 (fun _ _ h => ih h) h
      · replace h := wp_f c3 h
        exact o_X0_tubsOfWay_31 gk1 (fun _ _ h => ih h) h
noncomputable def f_X0_tubsOfWay (k1 : Nat) (p2 : Int32) (M : Mem) : Option Int32 := f_X0_tubsOfWay_5 k1 p2 M FU 0 0
theorem o_X0_tubsOfWay {E : GE} {Q : Option Value → Mem → Prop} {k1 : Nat} {p2 : Int32} {M : Mem} (gk1 : isSea k1) (h : wp (f_X0_tubsOfWay k1 p2 M) (gI M) Q) : Runs E mi_X0_tubsOfWay [.ref (ad E 40), .ref (ad E k1), .int p2] M Q := by
  refine Runs.ofEv (by decide +kernel) (Nat.le_of_ble_eq_true rfl) ?_
  show Ev E mi_X0_tubsOfWay 0 [(0, .ref (ad E 40)), (1, .ref (ad E k1)), (2, .int p2)] [] M Q
  unfold f_X0_tubsOfWay at h
  refine Ev.iconst (v := 0) dX0_tubsOfWay_0 rfl ?_
  refine Ev.istore_n dX0_tubsOfWay_1 rfl (Nat.le_of_ble_eq_true rfl) rfl ?_
  show Ev E mi_X0_tubsOfWay 2 [(3, .int 0), (0, .ref (ad E 40)), (1, .ref (ad E k1)), (2, .int p2)] [] M Q
  refine Ev.iconst (v := 0) dX0_tubsOfWay_2 rfl ?_
  refine Ev.istore dX0_tubsOfWay_3 (Nat.le_of_ble_eq_true rfl) rfl ?_
  show Ev E mi_X0_tubsOfWay 5 [(4, .int 0), (3, .int 0), (0, .ref (ad E 40)), (1, .ref (ad E k1)), (2, .int p2)] [] M Q
  refine Ev.sub [2, 3, 4, 1, 0] rfl ?_
  exact o_X0_tubsOfWay_5 gk1 FU h

noncomputable def f_X1_fail (p1 : Int32) (M : Mem) : Option Mem := lm (up M 1 2 p1) fun M1 => lm (up M1 1 3 (M1 2 4)) fun M2 => some M2
theorem o_X1_fail {E : GE} {Q : Option Value → Mem → Prop} {p1 : Int32} {M : Mem} (h : wp (f_X1_fail p1 M) gVM Q) : Runs E mi_X1_fail [.ref (ad E 1), .int p1] M Q := by
  refine Runs.ofEv (by decide +kernel) (Nat.le_of_ble_eq_true rfl) ?_
  show Ev E mi_X1_fail 0 [(0, .ref (ad E 1)), (1, .int p1)] [] M Q
  unfold f_X1_fail at h
  refine Ev.aload_n dX1_fail_0 rfl 0 rfl ?_
  refine Ev.iload_n dX1_fail_1 rfl 1 rfl ?_
  refine Ev.putA dX1_fail_2 fl_X1_31 rfl (Nat.le_of_ble_eq_true rfl) rfl rfl pf_I rfl rfl ?_
  refine Ev.topM (fun M1 eM1 => ?_)
  replace h := wp_lm h M1 eM1
  refine Ev.aload_n dX1_fail_5 rfl 0 rfl ?_
  refine Ev.aload_n dX1_fail_6 rfl 0 rfl ?_
  refine Ev.get dX1_fail_7 fl_X1_12 rfl (Nat.le_of_ble_eq_true rfl) (v := .ref (ad E 2)) rfl ?_
  refine Ev.getN dX1_fail_10 nl_X1_141 rfl (Nat.le_of_ble_eq_true rfl) rfl ?_
  refine Ev.putA dX1_fail_13 fl_X1_144 rfl (Nat.le_of_ble_eq_true rfl) rfl rfl pf_I rfl rfl ?_
  refine Ev.topM (fun M2 eM2 => ?_)
  replace h := wp_lm h M2 eM2
  exact Ev.vret dX1_fail_16 rfl (wp_ret h)

noncomputable def f_X1_failToken_17 (s1 : Int32) (M : Mem) : Option Mem := (f_X1_fail s1 M).bind fun r1 => some r1
theorem o_X1_failToken_17 {E : GE} {Q : Option Value → Mem → Prop} {s1 : Int32} {M : Mem} (h : wp (f_X1_failToken_17 s1 M) gVM Q) : Ev E mi_X1_failToken 17 [] [.int s1, .ref (ad E 1)] M Q := by
  unfold f_X1_failToken_17 at h
  obtain ⟨r1, er1, h⟩ := wp_bind h
  refine Ev.callV (k := 1) (as := [.int s1]) (rest := []) dX1_failToken_17 cl_X1_96 mok_X1_fail rfl (Nat.le_of_ble_eq_true rfl) (Nat.le_of_ble_eq_true rfl) ⟨Nat.le_of_ble_eq_true rfl, Nat.le_of_ble_eq_true rfl⟩ (Nat.le_of_ble_eq_true rfl) rfl rfl (o_X1_fail ⟨r1, er1, ?_⟩)
  show Ev E mi_X1_failToken 20 [] [] r1 Q
  exact Ev.vret dX1_failToken_20 rfl (wp_ret h)
noncomputable def f_X1_failToken (M : Mem) : Option Mem := if (M 2 3) = 4 then f_X1_failToken_17 1 M else f_X1_failToken_17 2 M
theorem o_X1_failToken {E : GE} {Q : Option Value → Mem → Prop} {M : Mem} (h : wp (f_X1_failToken M) gVM Q) : Runs E mi_X1_failToken [.ref (ad E 1)] M Q := by
  refine Runs.ofEv (by decide +kernel) (Nat.le_of_ble_eq_true rfl) ?_
  show Ev E mi_X1_failToken 0 [(0, .ref (ad E 1))] [] M Q
  unfold f_X1_failToken at h
  refine Ev.aload_n dX1_failToken_0 rfl 0 rfl ?_
  refine Ev.aload_n dX1_failToken_1 rfl 0 rfl ?_
  refine Ev.get dX1_failToken_2 fl_X1_12 rfl (Nat.le_of_ble_eq_true rfl) (v := .ref (ad E 2)) rfl ?_
  refine Ev.getN dX1_failToken_5 nl_X1_48 rfl (Nat.le_of_ble_eq_true rfl) rfl ?_
  refine Ev.iconst (v := 4) dX1_failToken_8 rfl ?_
  refine Ev.icmp_ne (tgt := 16) dX1_failToken_9 (by decide) (fun c1 => ?_) (fun c1 => ?_)
  · replace h := wp_t c1 h
    refine Ev.iconst (v := 1) dX1_failToken_12 rfl ?_
    refine Ev.goto (tgt := 17) dX1_failToken_13 (by decide) ?_
    refine Ev.sub [] rfl ?_
    exact o_X1_failToken_17 h
  · replace h := wp_f c1 h
    refine Ev.iconst (v := 2) dX1_failToken_16 rfl ?_
    refine Ev.sub [] rfl ?_
    exact o_X1_failToken_17 h

noncomputable def f_X5_within (p0 : Int32) (p1 : Int32) (p2 : Int32) (M : Mem) : Option Int32 := if p0 < p1 then some 0 else if p2 < p0 then some 0 else some 1
theorem o_X5_within {E : GE} {Q : Option Value → Mem → Prop} {p0 : Int32} {p1 : Int32} {p2 : Int32} {M : Mem} (h : wp (f_X5_within p0 p1 p2 M) (gI M) Q) : Runs E mi_X5_within [.int p0, .int p1, .int p2] M Q := by
  refine Runs.ofEv (by decide +kernel) (Nat.le_of_ble_eq_true rfl) ?_
  show Ev E mi_X5_within 0 [(0, .int p0), (1, .int p1), (2, .int p2)] [] M Q
  unfold f_X5_within at h
  refine Ev.iload_n dX5_within_0 rfl 0 rfl ?_
  refine Ev.iload_n dX5_within_1 rfl 1 rfl ?_
  refine Ev.icmp_lt (tgt := 14) dX5_within_2 (by decide) (fun c1 => ?_) (fun c1 => ?_)
  · replace h := wp_t c1 h
    refine Ev.iconst (v := 0) dX5_within_14 rfl ?_
    exact Ev.ret dX5_within_15 rfl rfl (wp_ret h)
  · replace h := wp_f c1 h
    refine Ev.iload_n dX5_within_5 rfl 0 rfl ?_
    refine Ev.iload_n dX5_within_6 rfl 2 rfl ?_
    refine Ev.icmp_gt (tgt := 14) dX5_within_7 (by decide) (fun c2 => ?_) (fun c2 => ?_)
    · replace h := wp_t c2 h
      refine Ev.iconst (v := 0) dX5_within_14 rfl ?_
      exact Ev.ret dX5_within_15 rfl rfl (wp_ret h)
    · replace h := wp_f c2 h
      refine Ev.iconst (v := 1) dX5_within_10 rfl ?_
      refine Ev.goto (tgt := 15) dX5_within_11 (by decide) ?_
      exact Ev.ret dX5_within_15 rfl rfl (wp_ret h)

noncomputable def f_X1_readNumber_54 (p1 : Int32) (p2 : Int32) (M : Mem) : Option (Int32 × Mem) := if (M 1 2) = 0 then some (M 2 5, M) else some (p1, M)
theorem o_X1_readNumber_54 {E : GE} {Q : Option Value → Mem → Prop} {p1 : Int32} {p2 : Int32} {M : Mem} (h : wp (f_X1_readNumber_54 p1 p2 M) gIM Q) : Ev E mi_X1_readNumber 54 [(0, .ref (ad E 1)), (1, .int p1)] [] M Q := by
  unfold f_X1_readNumber_54 at h
  refine Ev.aload_n dX1_readNumber_54 rfl 0 rfl ?_
  refine Ev.get dX1_readNumber_55 fl_X1_31 rfl (Nat.le_of_ble_eq_true rfl) rfl ?_
  refine Ev.if_ne (tgt := 71) dX1_readNumber_58 (by decide) (fun c1 => ?_) (fun c1 => ?_)
  · replace h := wp_t c1 h
    refine Ev.aload_n dX1_readNumber_61 rfl 0 rfl ?_
    refine Ev.get dX1_readNumber_62 fl_X1_12 rfl (Nat.le_of_ble_eq_true rfl) (v := .ref (ad E 2)) rfl ?_
    refine Ev.getN dX1_readNumber_65 nl_X1_134 rfl (Nat.le_of_ble_eq_true rfl) rfl ?_
    refine Ev.goto (tgt := 72) dX1_readNumber_68 (by decide) ?_
    exact Ev.ret dX1_readNumber_72 rfl rfl (wp_ret h)
  · replace h := wp_f c1 h
    refine Ev.iload_n dX1_readNumber_71 rfl 1 rfl ?_
    exact Ev.ret dX1_readNumber_72 rfl rfl (wp_ret h)
noncomputable def f_X1_readNumber (p1 : Int32) (p2 : Int32) (M : Mem) : Option (Int32 × Mem) := if (M 1 2) = 0 then (f_X4_take M).bind fun r2 => if (r2 2 3) = 2 then (f_X5_within (r2 2 5) p1 p2 r2).bind fun r4 => if r4 = 0 then (f_X1_fail 3 r2).bind fun r6 => f_X1_readNumber_54 p1 p2 r6 else f_X1_readNumber_54 p1 p2 r2 else (f_X1_failToken r2).bind fun r7 => f_X1_readNumber_54 p1 p2 r7 else some (p1, M)
theorem o_X1_readNumber {E : GE} {Q : Option Value → Mem → Prop} {p1 : Int32} {p2 : Int32} {M : Mem} (h : wp (f_X1_readNumber p1 p2 M) gIM Q) : Runs E mi_X1_readNumber [.ref (ad E 1), .int p1, .int p2] M Q := by
  refine Runs.ofEv (by decide +kernel) (Nat.le_of_ble_eq_true rfl) ?_
  show Ev E mi_X1_readNumber 0 [(0, .ref (ad E 1)), (1, .int p1), (2, .int p2)] [] M Q
  unfold f_X1_readNumber at h
  refine Ev.aload_n dX1_readNumber_0 rfl 0 rfl ?_
  refine Ev.get dX1_readNumber_1 fl_X1_31 rfl (Nat.le_of_ble_eq_true rfl) rfl ?_
  refine Ev.if_eq (tgt := 9) dX1_readNumber_4 (by decide) (fun c1 => ?_) (fun c1 => ?_)
  · replace h := wp_t c1 h
    refine Ev.aload_n dX1_readNumber_9 rfl 0 rfl ?_
    refine Ev.get dX1_readNumber_10 fl_X1_12 rfl (Nat.le_of_ble_eq_true rfl) (v := .ref (ad E 2)) rfl ?_
    obtain ⟨r2, er2, h⟩ := wp_bind h
    refine Ev.callN (k := 2) (as := []) (rest := []) dX1_readNumber_13 cn_X1_45 mok_X4_take rfl (Nat.le_of_ble_eq_true rfl) (Nat.le_of_ble_eq_true rfl) ⟨Nat.le_of_ble_eq_true rfl, Nat.le_of_ble_eq_true rfl⟩ (Nat.le_of_ble_eq_true rfl) rfl rfl (o_X4_take ⟨r2, er2, ?_⟩)
    show Ev E mi_X1_readNumber 16 [(0, .ref (ad E 1)), (1, .int p1), (2, .int p2)] [] r2 Q
    refine Ev.aload_n dX1_readNumber_16 rfl 0 rfl ?_
    refine Ev.get dX1_readNumber_17 fl_X1_12 rfl (Nat.le_of_ble_eq_true rfl) (v := .ref (ad E 2)) rfl ?_
    refine Ev.getN dX1_readNumber_20 nl_X1_48 rfl (Nat.le_of_ble_eq_true rfl) rfl ?_
    refine Ev.iconst (v := 2) dX1_readNumber_23 rfl ?_
    refine Ev.icmp_eq (tgt := 34) dX1_readNumber_24 (by decide) (fun c3 => ?_) (fun c3 => ?_)
    · replace h := wp_t c3 h
      refine Ev.aload_n dX1_readNumber_34 rfl 0 rfl ?_
      refine Ev.get dX1_readNumber_35 fl_X1_12 rfl (Nat.le_of_ble_eq_true rfl) (v := .ref (ad E 2)) rfl ?_
      refine Ev.getN dX1_readNumber_38 nl_X1_134 rfl (Nat.le_of_ble_eq_true rfl) rfl ?_
      refine Ev.iload_n dX1_readNumber_41 rfl 1 rfl ?_
      refine Ev.iload_n dX1_readNumber_42 rfl 2 rfl ?_
      obtain ⟨r4, er4, h⟩ := wp_bind h
      refine Ev.callSN (as := [.int (r2 2 5), .int p1, .int p2]) (rest := []) dX1_readNumber_43 cn_X1_137 mos_X5_within ⟨Nat.le_of_ble_eq_true rfl, Nat.le_of_ble_eq_true rfl⟩ (Nat.le_of_ble_eq_true rfl) rfl rfl (o_X5_within ⟨r4, er4, ?_⟩)
      show Ev E mi_X1_readNumber 46 [(0, .ref (ad E 1)), (1, .int p1), (2, .int p2)] [.int r4] r2 Q
      refine Ev.if_ne (tgt := 54) dX1_readNumber_46 (by decide) (fun c5 => ?_) (fun c5 => ?_)
      · replace h := wp_t c5 h
        refine Ev.aload_n dX1_readNumber_49 rfl 0 rfl ?_
        refine Ev.iconst (v := 3) dX1_readNumber_50 rfl ?_
        obtain ⟨r6, er6, h⟩ := wp_bind h
        refine Ev.callV (k := 1) (as := [.int 3]) (rest := []) dX1_readNumber_51 cl_X1_96 mok_X1_fail rfl (Nat.le_of_ble_eq_true rfl) (Nat.le_of_ble_eq_true rfl) ⟨Nat.le_of_ble_eq_true rfl, Nat.le_of_ble_eq_true rfl⟩ (Nat.le_of_ble_eq_true rfl) rfl rfl (o_X1_fail ⟨r6, er6, ?_⟩)
        show Ev E mi_X1_readNumber 54 [(0, .ref (ad E 1)), (1, .int p1), (2, .int p2)] [] r6 Q
        refine Ev.sub [0, 1] rfl ?_
        exact o_X1_readNumber_54 h
      · replace h := wp_f c5 h
        refine Ev.sub [0, 1] rfl ?_
        exact o_X1_readNumber_54 h
    · replace h := wp_f c3 h
      refine Ev.aload_n dX1_readNumber_27 rfl 0 rfl ?_
      obtain ⟨r7, er7, h⟩ := wp_bind h
      refine Ev.callV (k := 1) (as := []) (rest := []) dX1_readNumber_28 cl_X1_90 mok_X1_failToken rfl (Nat.le_of_ble_eq_true rfl) (Nat.le_of_ble_eq_true rfl) ⟨Nat.le_of_ble_eq_true rfl, Nat.le_of_ble_eq_true rfl⟩ (Nat.le_of_ble_eq_true rfl) rfl rfl (o_X1_failToken ⟨r7, er7, ?_⟩)
      show Ev E mi_X1_readNumber 31 [(0, .ref (ad E 1)), (1, .int p1), (2, .int p2)] [] r7 Q
      refine Ev.goto (tgt := 54) dX1_readNumber_31 (by decide) ?_
      refine Ev.sub [0, 1] rfl ?_
      exact o_X1_readNumber_54 h
  · replace h := wp_f c1 h
    refine Ev.iload_n dX1_readNumber_7 rfl 1 rfl ?_
    exact Ev.ret dX1_readNumber_8 rfl rfl (wp_ret h)

noncomputable def f_X1_readTub_44 (p1 : Int32) : Nat → Int32 → Int32 → Mem → Option Mem
  | 0, _, _, _ => none
  | n + 1, x2, x3, M => if 4 < x3 then some M else rd (tbV 0) 5 x3 fun r3 => rd (tbV 1) 5 x3 fun r5 => (f_X1_readNumber r3 r5 M).bind fun r6 => (f_X2_putTub 4 x2 x3 r6.1 r6.2).bind fun r7 => (f_X1_readTub_44 p1 n) x2 (x3 + 1) r7
theorem o_X1_readTub_44 {E : GE} {Q : Option Value → Mem → Prop} {p1 : Int32} : ∀ (n : Nat) {x2 : Int32} {x3 : Int32} {M : Mem}, wp (f_X1_readTub_44 p1 n x2 x3 M) gVM Q → Ev E mi_X1_readTub 44 [(0, .ref (ad E 1)), (2, .int x2), (3, .int x3)] [] M Q := by
  intro n
  induction n with
  | zero => intro _ _ _ h; exact absurd h wp_none
  | succ n ih =>
    intro x2 x3 M h
    unfold f_X1_readTub_44 at h
    refine Ev.iload_n dX1_readTub_44 rfl 2 rfl ?_
    refine Ev.iconst (v := 4) dX1_readTub_45 rfl ?_
    refine Ev.icmp_gt (tgt := 78) dX1_readTub_46 (by decide) (fun c1 => ?_) (fun c1 => ?_)
    · replace h := wp_t c1 h
      exact Ev.vret dX1_readTub_78 rfl (wp_ret h)
    · replace h := wp_f c1 h
      refine Ev.aload_n dX1_readTub_49 rfl 0 rfl ?_
      refine Ev.get dX1_readTub_50 fl_X1_21 rfl (Nat.le_of_ble_eq_true rfl) (v := .ref (ad E 4)) rfl ?_
      refine Ev.iload_n dX1_readTub_53 rfl 1 rfl ?_
      refine Ev.iload_n dX1_readTub_54 rfl 2 rfl ?_
      refine Ev.aload_n dX1_readTub_55 rfl 0 rfl ?_
      refine Ev.getTN dX1_readTub_56 sl_X1_103 ?_
      refine Ev.iload_n dX1_readTub_59 rfl 2 rfl ?_
      obtain ⟨g2, h⟩ := wp_rd h
      refine Ev.tald dX1_readTub_60 (Nat.le_of_ble_eq_true rfl) rfl g2 ?_
      refine Ev.topi (fun r3 er3 => ?_)
      replace h := h r3 er3
      refine Ev.getTN dX1_readTub_61 sl_X1_107 ?_
      refine Ev.iload_n dX1_readTub_64 rfl 2 rfl ?_
      obtain ⟨g4, h⟩ := wp_rd h
      refine Ev.tald dX1_readTub_65 (Nat.le_of_ble_eq_true rfl) rfl g4 ?_
      refine Ev.topi (fun r5 er5 => ?_)
      replace h := h r5 er5
      obtain ⟨r6, er6, h⟩ := wp_bind h
      refine Ev.callV (k := 1) (as := [.int r3, .int r5]) (rest := [.int x3, .int x2, .ref (ad E 4)]) dX1_readTub_66 cl_X1_110 mok_X1_readNumber rfl (Nat.le_of_ble_eq_true rfl) (Nat.le_of_ble_eq_true rfl) ⟨Nat.le_of_ble_eq_true rfl, Nat.le_of_ble_eq_true rfl⟩ (Nat.le_of_ble_eq_true rfl) rfl rfl (o_X1_readNumber ⟨r6, er6, ?_⟩)
      show Ev E mi_X1_readTub 69 [(0, .ref (ad E 1)), (2, .int x2), (3, .int x3)] [.int r6.1, .int x3, .int x2, .ref (ad E 4)] r6.2 Q
      obtain ⟨r7, er7, h⟩ := wp_bind h
      refine Ev.callN (k := 4) (as := [.int x2, .int x3, .int r6.1]) (rest := []) dX1_readTub_69 cn_X1_99 mok_X2_putTub rfl (Nat.le_of_ble_eq_true rfl) (Nat.le_of_ble_eq_true rfl) ⟨Nat.le_of_ble_eq_true rfl, Nat.le_of_ble_eq_true rfl⟩ (Nat.le_of_ble_eq_true rfl) rfl rfl (o_X2_putTub sea_4 ⟨r7, er7, ?_⟩)
      show Ev E mi_X1_readTub 72 [(0, .ref (ad E 1)), (2, .int x2), (3, .int x3)] [] r7 Q
      refine Ev.iinc (v := x3 + 1) dX1_readTub_72 2 rfl rfl (Nat.le_of_ble_eq_true rfl) rfl ?_
      show Ev E mi_X1_readTub 75 [(3, .int (x3 + 1)), (0, .ref (ad E 1)), (2, .int x2)] [] r7 Q
      refine Ev.goto (tgt := 44) dX1_readTub_75 (by decide) ?_
      refine Ev.sub [1, 2, 0] rfl ?_
      exact ih h
noncomputable def f_X1_readTub (p1 : Int32) (M : Mem) : Option Mem := li (M 4 4) fun y1 => if y1 < 4 then lm (up M 4 4 ((M 4 4) + 1)) fun M3 => (f_X2_putTub 4 y1 0 p1 M3).bind fun r4 => f_X1_readTub_44 p1 FU y1 1 r4 else (f_X1_fail 5 M).bind fun r5 => some r5
theorem o_X1_readTub {E : GE} {Q : Option Value → Mem → Prop} {p1 : Int32} {M : Mem} (h : wp (f_X1_readTub p1 M) gVM Q) : Runs E mi_X1_readTub [.ref (ad E 1), .int p1] M Q := by
  refine Runs.ofEv (by decide +kernel) (Nat.le_of_ble_eq_true rfl) ?_
  show Ev E mi_X1_readTub 0 [(0, .ref (ad E 1)), (1, .int p1)] [] M Q
  unfold f_X1_readTub at h
  refine Ev.aload_n dX1_readTub_0 rfl 0 rfl ?_
  refine Ev.get dX1_readTub_1 fl_X1_21 rfl (Nat.le_of_ble_eq_true rfl) (v := .ref (ad E 4)) rfl ?_
  refine Ev.getN dX1_readTub_4 nl_X1_93 rfl (Nat.le_of_ble_eq_true rfl) rfl ?_
  refine Ev.topi (fun y1 ey1 => ?_)
  replace h := wp_li h y1 ey1
  refine Ev.istore_n dX1_readTub_7 rfl (Nat.le_of_ble_eq_true rfl) rfl ?_
  show Ev E mi_X1_readTub 8 [(2, .int y1), (0, .ref (ad E 1)), (1, .int p1)] [] M Q
  refine Ev.iload_n dX1_readTub_8 rfl 0 rfl ?_
  refine Ev.iconst (v := 4) dX1_readTub_9 rfl ?_
  refine Ev.icmp_lt (tgt := 19) dX1_readTub_10 (by decide) (fun c2 => ?_) (fun c2 => ?_)
  · replace h := wp_t c2 h
    refine Ev.aload_n dX1_readTub_19 rfl 1 rfl ?_
    refine Ev.get dX1_readTub_20 fl_X1_21 rfl (Nat.le_of_ble_eq_true rfl) (v := .ref (ad E 4)) rfl ?_
    refine Ev.dup dX1_readTub_23 rfl ?_
    refine Ev.getN dX1_readTub_24 nl_X1_93 rfl (Nat.le_of_ble_eq_true rfl) rfl ?_
    refine Ev.iconst (v := 1) dX1_readTub_27 rfl ?_
    refine Ev.iadd dX1_readTub_28 ?_
    refine Ev.putN dX1_readTub_29 nl_X1_93 rfl (Nat.le_of_ble_eq_true rfl) rfl rfl pf_I rfl rfl ?_
    refine Ev.topM (fun M3 eM3 => ?_)
    replace h := wp_lm h M3 eM3
    refine Ev.aload_n dX1_readTub_32 rfl 1 rfl ?_
    refine Ev.get dX1_readTub_33 fl_X1_21 rfl (Nat.le_of_ble_eq_true rfl) (v := .ref (ad E 4)) rfl ?_
    refine Ev.iload_n dX1_readTub_36 rfl 0 rfl ?_
    refine Ev.iconst (v := 0) dX1_readTub_37 rfl ?_
    refine Ev.iload_n dX1_readTub_38 rfl 2 rfl ?_
    obtain ⟨r4, er4, h⟩ := wp_bind h
    refine Ev.callN (k := 4) (as := [.int y1, .int 0, .int p1]) (rest := []) dX1_readTub_39 cn_X1_99 mok_X2_putTub rfl (Nat.le_of_ble_eq_true rfl) (Nat.le_of_ble_eq_true rfl) ⟨Nat.le_of_ble_eq_true rfl, Nat.le_of_ble_eq_true rfl⟩ (Nat.le_of_ble_eq_true rfl) rfl rfl (o_X2_putTub sea_4 ⟨r4, er4, ?_⟩)
    show Ev E mi_X1_readTub 42 [(2, .int y1), (0, .ref (ad E 1)), (1, .int p1)] [] r4 Q
    refine Ev.iconst (v := 1) dX1_readTub_42 rfl ?_
    refine Ev.istore_n dX1_readTub_43 rfl (Nat.le_of_ble_eq_true rfl) rfl ?_
    show Ev E mi_X1_readTub 44 [(3, .int 1), (2, .int y1), (0, .ref (ad E 1)), (1, .int p1)] [] r4 Q
    refine Ev.sub [2, 1, 0] rfl ?_
    exact o_X1_readTub_44 FU h
  · replace h := wp_f c2 h
    refine Ev.aload_n dX1_readTub_13 rfl 1 rfl ?_
    refine Ev.iconst (v := 5) dX1_readTub_14 rfl ?_
    obtain ⟨r5, er5, h⟩ := wp_bind h
    refine Ev.callV (k := 1) (as := [.int 5]) (rest := []) dX1_readTub_15 cl_X1_96 mok_X1_fail rfl (Nat.le_of_ble_eq_true rfl) (Nat.le_of_ble_eq_true rfl) ⟨Nat.le_of_ble_eq_true rfl, Nat.le_of_ble_eq_true rfl⟩ (Nat.le_of_ble_eq_true rfl) rfl rfl (o_X1_fail ⟨r5, er5, ?_⟩)
    show Ev E mi_X1_readTub 18 [(2, .int y1), (0, .ref (ad E 1)), (1, .int p1)] [] r5 Q
    exact Ev.vret dX1_readTub_18 rfl (wp_ret h)

noncomputable def f_X1_readHeir_57 (t34 : Int32 → Int32 → Mem → Option Mem) (x1 : Int32) (x2 : Int32) (s0 : Int32) (M : Mem) : Option Mem := rd (tbV 2) 4 x2 fun r2 => (f_X1_readNumber s0 r2 M).bind fun r3 => (f_X2_putHeir 4 x1 x2 r3.1 r3.2).bind fun r4 => t34 x1 (x2 + 1) r4
theorem o_X1_readHeir_57 {E : GE} {Q : Option Value → Mem → Prop} {t34 : Int32 → Int32 → Mem → Option Mem} {x1 : Int32} {x2 : Int32} {s0 : Int32} {M : Mem} (ht34 : ∀ (x1 : Int32) (x2 : Int32) (M : Mem), wp (t34 x1 x2 M) gVM Q → Ev E mi_X1_readHeir 34 [(0, .ref (ad E 1)), (1, .int x1), (2, .int x2)] [] M Q) (h : wp (f_X1_readHeir_57 t34 x1 x2 s0 M) gVM Q) : Ev E mi_X1_readHeir 57 [(0, .ref (ad E 1)), (1, .int x1), (2, .int x2)] [.int s0] M Q := by
  unfold f_X1_readHeir_57 at h
  refine Ev.istore_n dX1_readHeir_57 rfl (Nat.le_of_ble_eq_true rfl) rfl ?_
  show Ev E mi_X1_readHeir 58 [(3, .int s0), (0, .ref (ad E 1)), (1, .int x1), (2, .int x2)] [] M Q
  refine Ev.aload_n dX1_readHeir_58 rfl 1 rfl ?_
  refine Ev.get dX1_readHeir_59 fl_X1_21 rfl (Nat.le_of_ble_eq_true rfl) (v := .ref (ad E 4)) rfl ?_
  refine Ev.iload_n dX1_readHeir_62 rfl 2 rfl ?_
  refine Ev.iload_n dX1_readHeir_63 rfl 3 rfl ?_
  refine Ev.aload_n dX1_readHeir_64 rfl 1 rfl ?_
  refine Ev.iload_n dX1_readHeir_65 rfl 0 rfl ?_
  refine Ev.getTN dX1_readHeir_66 sl_X1_120 ?_
  refine Ev.iload_n dX1_readHeir_69 rfl 3 rfl ?_
  obtain ⟨g1, h⟩ := wp_rd h
  refine Ev.tald dX1_readHeir_70 (Nat.le_of_ble_eq_true rfl) rfl g1 ?_
  refine Ev.topi (fun r2 er2 => ?_)
  replace h := h r2 er2
  obtain ⟨r3, er3, h⟩ := wp_bind h
  refine Ev.callV (k := 1) (as := [.int s0, .int r2]) (rest := [.int x2, .int x1, .ref (ad E 4)]) dX1_readHeir_71 cl_X1_110 mok_X1_readNumber rfl (Nat.le_of_ble_eq_true rfl) (Nat.le_of_ble_eq_true rfl) ⟨Nat.le_of_ble_eq_true rfl, Nat.le_of_ble_eq_true rfl⟩ (Nat.le_of_ble_eq_true rfl) rfl rfl (o_X1_readNumber ⟨r3, er3, ?_⟩)
  show Ev E mi_X1_readHeir 74 [(3, .int s0), (0, .ref (ad E 1)), (1, .int x1), (2, .int x2)] [.int r3.1, .int x2, .int x1, .ref (ad E 4)] r3.2 Q
  obtain ⟨r4, er4, h⟩ := wp_bind h
  refine Ev.callN (k := 4) (as := [.int x1, .int x2, .int r3.1]) (rest := []) dX1_readHeir_74 cn_X1_123 mok_X2_putHeir rfl (Nat.le_of_ble_eq_true rfl) (Nat.le_of_ble_eq_true rfl) ⟨Nat.le_of_ble_eq_true rfl, Nat.le_of_ble_eq_true rfl⟩ (Nat.le_of_ble_eq_true rfl) rfl rfl (o_X2_putHeir sea_4 ⟨r4, er4, ?_⟩)
  show Ev E mi_X1_readHeir 77 [(3, .int s0), (0, .ref (ad E 1)), (1, .int x1), (2, .int x2)] [] r4 Q
  refine Ev.iinc (v := x2 + 1) dX1_readHeir_77 3 rfl rfl (Nat.le_of_ble_eq_true rfl) rfl ?_
  show Ev E mi_X1_readHeir 80 [(2, .int (x2 + 1)), (3, .int s0), (0, .ref (ad E 1)), (1, .int x1)] [] r4 Q
  refine Ev.goto (tgt := 34) dX1_readHeir_80 (by decide) ?_
  refine Ev.sub [2, 3, 0] rfl ?_
  exact ht34 _ _ _ h
noncomputable def f_X1_readHeir_34 : Nat → Int32 → Int32 → Mem → Option Mem
  | 0, _, _, _ => none
  | n + 1, x1, x2, M => if 3 < x2 then some M else if x2 = 2 then (f_X2_ofHeir 4 x1 1 M).bind fun r3 => f_X1_readHeir_57 (f_X1_readHeir_34 n) x1 x2 r3 M else f_X1_readHeir_57 (f_X1_readHeir_34 n) x1 x2 0 M
theorem o_X1_readHeir_34 {E : GE} {Q : Option Value → Mem → Prop} : ∀ (n : Nat) {x1 : Int32} {x2 : Int32} {M : Mem}, wp (f_X1_readHeir_34 n x1 x2 M) gVM Q → Ev E mi_X1_readHeir 34 [(0, .ref (ad E 1)), (1, .int x1), (2, .int x2)] [] M Q := by
  intro n
  induction n with
  | zero => intro _ _ _ h; exact absurd h wp_none
  | succ n ih =>
    intro x1 x2 M h
    unfold f_X1_readHeir_34 at h
    refine Ev.iload_n dX1_readHeir_34 rfl 2 rfl ?_
    refine Ev.iconst (v := 3) dX1_readHeir_35 rfl ?_
    refine Ev.icmp_gt (tgt := 83) dX1_readHeir_36 (by decide) (fun c1 => ?_) (fun c1 => ?_)
    · replace h := wp_t c1 h
      exact Ev.vret dX1_readHeir_83 rfl (wp_ret h)
    · replace h := wp_f c1 h
      refine Ev.iload_n dX1_readHeir_39 rfl 2 rfl ?_
      refine Ev.iconst (v := 2) dX1_readHeir_40 rfl ?_
      refine Ev.icmp_ne (tgt := 56) dX1_readHeir_41 (by decide) (fun c2 => ?_) (fun c2 => ?_)
      · replace h := wp_t c2 h
        refine Ev.aload_n dX1_readHeir_44 rfl 0 rfl ?_
        refine Ev.get dX1_readHeir_45 fl_X1_21 rfl (Nat.le_of_ble_eq_true rfl) (v := .ref (ad E 4)) rfl ?_
        refine Ev.iload_n dX1_readHeir_48 rfl 1 rfl ?_
        refine Ev.iconst (v := 1) dX1_readHeir_49 rfl ?_
        obtain ⟨r3, er3, h⟩ := wp_bind h
        refine Ev.callN (k := 4) (as := [.int x1, .int 1]) (rest := []) dX1_readHeir_50 cn_X1_117 mok_X2_ofHeir rfl (Nat.le_of_ble_eq_true rfl) (Nat.le_of_ble_eq_true rfl) ⟨Nat.le_of_ble_eq_true rfl, Nat.le_of_ble_eq_true rfl⟩ (Nat.le_of_ble_eq_true rfl) rfl rfl (o_X2_ofHeir sea_4 ⟨r3, er3, ?_⟩)
        show Ev E mi_X1_readHeir 53 [(0, .ref (ad E 1)), (1, .int x1), (2, .int x2)] [.int r3] M Q
        refine Ev.goto (tgt := 57) dX1_readHeir_53 (by decide) ?_
        exact o_X1_readHeir_57 (fun _ _ _ h => ih h) h
      · replace h := wp_f c2 h
        refine Ev.iconst (v := 0) dX1_readHeir_56 rfl ?_
        exact o_X1_readHeir_57 (fun _ _ _ h => ih h) h
noncomputable def f_X1_readHeir (M : Mem) : Option Mem := li (M 4 5) fun y1 => if y1 < 4 then lm (up M 4 5 ((M 4 5) + 1)) fun M3 => f_X1_readHeir_34 FU y1 0 M3 else (f_X1_fail 5 M).bind fun r4 => some r4
theorem o_X1_readHeir {E : GE} {Q : Option Value → Mem → Prop} {M : Mem} (h : wp (f_X1_readHeir M) gVM Q) : Runs E mi_X1_readHeir [.ref (ad E 1)] M Q := by
  refine Runs.ofEv (by decide +kernel) (Nat.le_of_ble_eq_true rfl) ?_
  show Ev E mi_X1_readHeir 0 [(0, .ref (ad E 1))] [] M Q
  unfold f_X1_readHeir at h
  refine Ev.aload_n dX1_readHeir_0 rfl 0 rfl ?_
  refine Ev.get dX1_readHeir_1 fl_X1_21 rfl (Nat.le_of_ble_eq_true rfl) (v := .ref (ad E 4)) rfl ?_
  refine Ev.getN dX1_readHeir_4 nl_X1_114 rfl (Nat.le_of_ble_eq_true rfl) rfl ?_
  refine Ev.topi (fun y1 ey1 => ?_)
  replace h := wp_li h y1 ey1
  refine Ev.istore_n dX1_readHeir_7 rfl (Nat.le_of_ble_eq_true rfl) rfl ?_
  show Ev E mi_X1_readHeir 8 [(1, .int y1), (0, .ref (ad E 1))] [] M Q
  refine Ev.iload_n dX1_readHeir_8 rfl 0 rfl ?_
  refine Ev.iconst (v := 4) dX1_readHeir_9 rfl ?_
  refine Ev.icmp_lt (tgt := 19) dX1_readHeir_10 (by decide) (fun c2 => ?_) (fun c2 => ?_)
  · replace h := wp_t c2 h
    refine Ev.aload_n dX1_readHeir_19 rfl 1 rfl ?_
    refine Ev.get dX1_readHeir_20 fl_X1_21 rfl (Nat.le_of_ble_eq_true rfl) (v := .ref (ad E 4)) rfl ?_
    refine Ev.dup dX1_readHeir_23 rfl ?_
    refine Ev.getN dX1_readHeir_24 nl_X1_114 rfl (Nat.le_of_ble_eq_true rfl) rfl ?_
    refine Ev.iconst (v := 1) dX1_readHeir_27 rfl ?_
    refine Ev.iadd dX1_readHeir_28 ?_
    refine Ev.putN dX1_readHeir_29 nl_X1_114 rfl (Nat.le_of_ble_eq_true rfl) rfl rfl pf_I rfl rfl ?_
    refine Ev.topM (fun M3 eM3 => ?_)
    replace h := wp_lm h M3 eM3
    refine Ev.iconst (v := 0) dX1_readHeir_32 rfl ?_
    refine Ev.istore_n dX1_readHeir_33 rfl (Nat.le_of_ble_eq_true rfl) rfl ?_
    show Ev E mi_X1_readHeir 34 [(2, .int 0), (1, .int y1), (0, .ref (ad E 1))] [] M3 Q
    refine Ev.sub [2, 1, 0] rfl ?_
    exact o_X1_readHeir_34 FU h
  · replace h := wp_f c2 h
    refine Ev.aload_n dX1_readHeir_13 rfl 1 rfl ?_
    refine Ev.iconst (v := 5) dX1_readHeir_14 rfl ?_
    obtain ⟨r4, er4, h⟩ := wp_bind h
    refine Ev.callV (k := 1) (as := [.int 5]) (rest := []) dX1_readHeir_15 cl_X1_96 mok_X1_fail rfl (Nat.le_of_ble_eq_true rfl) (Nat.le_of_ble_eq_true rfl) ⟨Nat.le_of_ble_eq_true rfl, Nat.le_of_ble_eq_true rfl⟩ (Nat.le_of_ble_eq_true rfl) rfl rfl (o_X1_fail ⟨r4, er4, ?_⟩)
    show Ev E mi_X1_readHeir 18 [(1, .int y1), (0, .ref (ad E 1))] [] r4 Q
    exact Ev.vret dX1_readHeir_18 rfl (wp_ret h)

noncomputable def f_X1_readCurrent_32 (x1 : Int32) (M : Mem) : Option Mem := (f_X1_readNumber 0 4 M).bind fun r1 => if (r1.2 1 2) = 0 then lm (up r1.2 1 4 ((r1.2 1 4) ||| (1 <<< (x1 &&& 31)))) fun M3 => inb x1 10 <| lm (up M3 7 x1.toNatClampNeg r1.1) fun M5 => some M5 else some r1.2
theorem o_X1_readCurrent_32 {E : GE} {Q : Option Value → Mem → Prop} {x1 : Int32} {M : Mem} (h : wp (f_X1_readCurrent_32 x1 M) gVM Q) : Ev E mi_X1_readCurrent 32 [(0, .ref (ad E 1)), (1, .int x1)] [] M Q := by
  unfold f_X1_readCurrent_32 at h
  refine Ev.aload_n dX1_readCurrent_32 rfl 0 rfl ?_
  refine Ev.iconst (v := 0) dX1_readCurrent_33 rfl ?_
  refine Ev.iconst (v := 4) dX1_readCurrent_34 rfl ?_
  obtain ⟨r1, er1, h⟩ := wp_bind h
  refine Ev.callV (k := 1) (as := [.int 0, .int 4]) (rest := []) dX1_readCurrent_35 cl_X1_110 mok_X1_readNumber rfl (Nat.le_of_ble_eq_true rfl) (Nat.le_of_ble_eq_true rfl) ⟨Nat.le_of_ble_eq_true rfl, Nat.le_of_ble_eq_true rfl⟩ (Nat.le_of_ble_eq_true rfl) rfl rfl (o_X1_readNumber ⟨r1, er1, ?_⟩)
  show Ev E mi_X1_readCurrent 38 [(0, .ref (ad E 1)), (1, .int x1)] [.int r1.1] r1.2 Q
  refine Ev.istore_n dX1_readCurrent_38 rfl (Nat.le_of_ble_eq_true rfl) rfl ?_
  show Ev E mi_X1_readCurrent 39 [(2, .int r1.1), (0, .ref (ad E 1)), (1, .int x1)] [] r1.2 Q
  refine Ev.aload_n dX1_readCurrent_39 rfl 1 rfl ?_
  refine Ev.get dX1_readCurrent_40 fl_X1_31 rfl (Nat.le_of_ble_eq_true rfl) rfl ?_
  refine Ev.if_eq (tgt := 47) dX1_readCurrent_43 (by decide) (fun c2 => ?_) (fun c2 => ?_)
  · replace h := wp_t c2 h
    refine Ev.aload_n dX1_readCurrent_47 rfl 1 rfl ?_
    refine Ev.dup dX1_readCurrent_48 rfl ?_
    refine Ev.get dX1_readCurrent_49 fl_X1_35 rfl (Nat.le_of_ble_eq_true rfl) rfl ?_
    refine Ev.iconst (v := 1) dX1_readCurrent_52 rfl ?_
    refine Ev.iload_n dX1_readCurrent_53 rfl 2 rfl ?_
    refine Ev.ishl dX1_readCurrent_54 ?_
    refine Ev.ior dX1_readCurrent_55 ?_
    refine Ev.putA dX1_readCurrent_56 fl_X1_35 rfl (Nat.le_of_ble_eq_true rfl) rfl rfl pf_I rfl rfl ?_
    refine Ev.topM (fun M3 eM3 => ?_)
    replace h := wp_lm h M3 eM3
    refine Ev.aload_n dX1_readCurrent_59 rfl 1 rfl ?_
    refine Ev.get dX1_readCurrent_60 fl_X1_21 rfl (Nat.le_of_ble_eq_true rfl) (v := .ref (ad E 4)) rfl ?_
    refine Ev.getN dX1_readCurrent_63 nl_X1_126 rfl (Nat.le_of_ble_eq_true rfl) (v := .ref (ad E 7)) rfl ?_
    refine Ev.iload_n dX1_readCurrent_66 rfl 2 rfl ?_
    refine Ev.iload_n dX1_readCurrent_67 rfl 0 rfl ?_
    obtain ⟨g4, h⟩ := wp_inb h
    refine Ev.iast dX1_readCurrent_68 rfl (Nat.le_of_ble_eq_true rfl) rfl g4 ?_
    refine Ev.topM (fun M5 eM5 => ?_)
    replace h := wp_lm h M5 eM5
    exact Ev.vret dX1_readCurrent_69 rfl (wp_ret h)
  · replace h := wp_f c2 h
    exact Ev.vret dX1_readCurrent_46 rfl (wp_ret h)
noncomputable def f_X1_readCurrent (M : Mem) : Option Mem := (f_X1_readNumber 0 9 M).bind fun r1 => if (r1.2 1 2) = 0 then if (((r1.2 1 4) >>> (r1.1 &&& 31)) &&& 1) = 1 then (f_X1_fail 4 r1.2).bind fun r4 => f_X1_readCurrent_32 r1.1 r4 else f_X1_readCurrent_32 r1.1 r1.2 else f_X1_readCurrent_32 r1.1 r1.2
theorem o_X1_readCurrent {E : GE} {Q : Option Value → Mem → Prop} {M : Mem} (h : wp (f_X1_readCurrent M) gVM Q) : Runs E mi_X1_readCurrent [.ref (ad E 1)] M Q := by
  refine Runs.ofEv (by decide +kernel) (Nat.le_of_ble_eq_true rfl) ?_
  show Ev E mi_X1_readCurrent 0 [(0, .ref (ad E 1))] [] M Q
  unfold f_X1_readCurrent at h
  refine Ev.aload_n dX1_readCurrent_0 rfl 0 rfl ?_
  refine Ev.iconst (v := 0) dX1_readCurrent_1 rfl ?_
  refine Ev.bipush (v := 9) dX1_readCurrent_2 rfl ?_
  obtain ⟨r1, er1, h⟩ := wp_bind h
  refine Ev.callV (k := 1) (as := [.int 0, .int 9]) (rest := []) dX1_readCurrent_4 cl_X1_110 mok_X1_readNumber rfl (Nat.le_of_ble_eq_true rfl) (Nat.le_of_ble_eq_true rfl) ⟨Nat.le_of_ble_eq_true rfl, Nat.le_of_ble_eq_true rfl⟩ (Nat.le_of_ble_eq_true rfl) rfl rfl (o_X1_readNumber ⟨r1, er1, ?_⟩)
  show Ev E mi_X1_readCurrent 7 [(0, .ref (ad E 1))] [.int r1.1] r1.2 Q
  refine Ev.istore_n dX1_readCurrent_7 rfl (Nat.le_of_ble_eq_true rfl) rfl ?_
  show Ev E mi_X1_readCurrent 8 [(1, .int r1.1), (0, .ref (ad E 1))] [] r1.2 Q
  refine Ev.aload_n dX1_readCurrent_8 rfl 1 rfl ?_
  refine Ev.get dX1_readCurrent_9 fl_X1_31 rfl (Nat.le_of_ble_eq_true rfl) rfl ?_
  refine Ev.if_ne (tgt := 32) dX1_readCurrent_12 (by decide) (fun c2 => ?_) (fun c2 => ?_)
  · replace h := wp_t c2 h
    refine Ev.aload_n dX1_readCurrent_15 rfl 1 rfl ?_
    refine Ev.get dX1_readCurrent_16 fl_X1_35 rfl (Nat.le_of_ble_eq_true rfl) rfl ?_
    refine Ev.iload_n dX1_readCurrent_19 rfl 0 rfl ?_
    refine Ev.ishr dX1_readCurrent_20 ?_
    refine Ev.iconst (v := 1) dX1_readCurrent_21 rfl ?_
    refine Ev.iand dX1_readCurrent_22 ?_
    refine Ev.iconst (v := 1) dX1_readCurrent_23 rfl ?_
    refine Ev.icmp_ne (tgt := 32) dX1_readCurrent_24 (by decide) (fun c3 => ?_) (fun c3 => ?_)
    · replace h := wp_t c3 h
      refine Ev.aload_n dX1_readCurrent_27 rfl 1 rfl ?_
      refine Ev.iconst (v := 4) dX1_readCurrent_28 rfl ?_
      obtain ⟨r4, er4, h⟩ := wp_bind h
      refine Ev.callV (k := 1) (as := [.int 4]) (rest := []) dX1_readCurrent_29 cl_X1_96 mok_X1_fail rfl (Nat.le_of_ble_eq_true rfl) (Nat.le_of_ble_eq_true rfl) ⟨Nat.le_of_ble_eq_true rfl, Nat.le_of_ble_eq_true rfl⟩ (Nat.le_of_ble_eq_true rfl) rfl rfl (o_X1_fail ⟨r4, er4, ?_⟩)
      show Ev E mi_X1_readCurrent 32 [(1, .int r1.1), (0, .ref (ad E 1))] [] r4 Q
      refine Ev.sub [1, 0] rfl ?_
      exact o_X1_readCurrent_32 h
    · replace h := wp_f c3 h
      refine Ev.sub [1, 0] rfl ?_
      exact o_X1_readCurrent_32 h
  · replace h := wp_f c2 h
    refine Ev.sub [1, 0] rfl ?_
    exact o_X1_readCurrent_32 h

noncomputable def f_X1_readWind_32 (x1 : Int32) (M : Mem) : Option Mem := (f_X1_readNumber 0 4 M).bind fun r1 => if (r1.2 1 2) = 0 then lm (up r1.2 1 5 ((r1.2 1 5) ||| (1 <<< (x1 &&& 31)))) fun M3 => inb x1 24 <| lm (up M3 8 x1.toNatClampNeg r1.1) fun M5 => some M5 else some r1.2
theorem o_X1_readWind_32 {E : GE} {Q : Option Value → Mem → Prop} {x1 : Int32} {M : Mem} (h : wp (f_X1_readWind_32 x1 M) gVM Q) : Ev E mi_X1_readWind 32 [(0, .ref (ad E 1)), (1, .int x1)] [] M Q := by
  unfold f_X1_readWind_32 at h
  refine Ev.aload_n dX1_readWind_32 rfl 0 rfl ?_
  refine Ev.iconst (v := 0) dX1_readWind_33 rfl ?_
  refine Ev.iconst (v := 4) dX1_readWind_34 rfl ?_
  obtain ⟨r1, er1, h⟩ := wp_bind h
  refine Ev.callV (k := 1) (as := [.int 0, .int 4]) (rest := []) dX1_readWind_35 cl_X1_110 mok_X1_readNumber rfl (Nat.le_of_ble_eq_true rfl) (Nat.le_of_ble_eq_true rfl) ⟨Nat.le_of_ble_eq_true rfl, Nat.le_of_ble_eq_true rfl⟩ (Nat.le_of_ble_eq_true rfl) rfl rfl (o_X1_readNumber ⟨r1, er1, ?_⟩)
  show Ev E mi_X1_readWind 38 [(0, .ref (ad E 1)), (1, .int x1)] [.int r1.1] r1.2 Q
  refine Ev.istore_n dX1_readWind_38 rfl (Nat.le_of_ble_eq_true rfl) rfl ?_
  show Ev E mi_X1_readWind 39 [(2, .int r1.1), (0, .ref (ad E 1)), (1, .int x1)] [] r1.2 Q
  refine Ev.aload_n dX1_readWind_39 rfl 1 rfl ?_
  refine Ev.get dX1_readWind_40 fl_X1_31 rfl (Nat.le_of_ble_eq_true rfl) rfl ?_
  refine Ev.if_eq (tgt := 47) dX1_readWind_43 (by decide) (fun c2 => ?_) (fun c2 => ?_)
  · replace h := wp_t c2 h
    refine Ev.aload_n dX1_readWind_47 rfl 1 rfl ?_
    refine Ev.dup dX1_readWind_48 rfl ?_
    refine Ev.get dX1_readWind_49 fl_X1_38 rfl (Nat.le_of_ble_eq_true rfl) rfl ?_
    refine Ev.iconst (v := 1) dX1_readWind_52 rfl ?_
    refine Ev.iload_n dX1_readWind_53 rfl 2 rfl ?_
    refine Ev.ishl dX1_readWind_54 ?_
    refine Ev.ior dX1_readWind_55 ?_
    refine Ev.putA dX1_readWind_56 fl_X1_38 rfl (Nat.le_of_ble_eq_true rfl) rfl rfl pf_I rfl rfl ?_
    refine Ev.topM (fun M3 eM3 => ?_)
    replace h := wp_lm h M3 eM3
    refine Ev.aload_n dX1_readWind_59 rfl 1 rfl ?_
    refine Ev.get dX1_readWind_60 fl_X1_21 rfl (Nat.le_of_ble_eq_true rfl) (v := .ref (ad E 4)) rfl ?_
    refine Ev.getN dX1_readWind_63 nl_X1_129 rfl (Nat.le_of_ble_eq_true rfl) (v := .ref (ad E 8)) rfl ?_
    refine Ev.iload_n dX1_readWind_66 rfl 2 rfl ?_
    refine Ev.iload_n dX1_readWind_67 rfl 0 rfl ?_
    obtain ⟨g4, h⟩ := wp_inb h
    refine Ev.iast dX1_readWind_68 rfl (Nat.le_of_ble_eq_true rfl) rfl g4 ?_
    refine Ev.topM (fun M5 eM5 => ?_)
    replace h := wp_lm h M5 eM5
    exact Ev.vret dX1_readWind_69 rfl (wp_ret h)
  · replace h := wp_f c2 h
    exact Ev.vret dX1_readWind_46 rfl (wp_ret h)
noncomputable def f_X1_readWind (M : Mem) : Option Mem := (f_X1_readNumber 0 23 M).bind fun r1 => if (r1.2 1 2) = 0 then if (((r1.2 1 5) >>> (r1.1 &&& 31)) &&& 1) = 1 then (f_X1_fail 4 r1.2).bind fun r4 => f_X1_readWind_32 r1.1 r4 else f_X1_readWind_32 r1.1 r1.2 else f_X1_readWind_32 r1.1 r1.2
theorem o_X1_readWind {E : GE} {Q : Option Value → Mem → Prop} {M : Mem} (h : wp (f_X1_readWind M) gVM Q) : Runs E mi_X1_readWind [.ref (ad E 1)] M Q := by
  refine Runs.ofEv (by decide +kernel) (Nat.le_of_ble_eq_true rfl) ?_
  show Ev E mi_X1_readWind 0 [(0, .ref (ad E 1))] [] M Q
  unfold f_X1_readWind at h
  refine Ev.aload_n dX1_readWind_0 rfl 0 rfl ?_
  refine Ev.iconst (v := 0) dX1_readWind_1 rfl ?_
  refine Ev.bipush (v := 23) dX1_readWind_2 rfl ?_
  obtain ⟨r1, er1, h⟩ := wp_bind h
  refine Ev.callV (k := 1) (as := [.int 0, .int 23]) (rest := []) dX1_readWind_4 cl_X1_110 mok_X1_readNumber rfl (Nat.le_of_ble_eq_true rfl) (Nat.le_of_ble_eq_true rfl) ⟨Nat.le_of_ble_eq_true rfl, Nat.le_of_ble_eq_true rfl⟩ (Nat.le_of_ble_eq_true rfl) rfl rfl (o_X1_readNumber ⟨r1, er1, ?_⟩)
  show Ev E mi_X1_readWind 7 [(0, .ref (ad E 1))] [.int r1.1] r1.2 Q
  refine Ev.istore_n dX1_readWind_7 rfl (Nat.le_of_ble_eq_true rfl) rfl ?_
  show Ev E mi_X1_readWind 8 [(1, .int r1.1), (0, .ref (ad E 1))] [] r1.2 Q
  refine Ev.aload_n dX1_readWind_8 rfl 1 rfl ?_
  refine Ev.get dX1_readWind_9 fl_X1_31 rfl (Nat.le_of_ble_eq_true rfl) rfl ?_
  refine Ev.if_ne (tgt := 32) dX1_readWind_12 (by decide) (fun c2 => ?_) (fun c2 => ?_)
  · replace h := wp_t c2 h
    refine Ev.aload_n dX1_readWind_15 rfl 1 rfl ?_
    refine Ev.get dX1_readWind_16 fl_X1_38 rfl (Nat.le_of_ble_eq_true rfl) rfl ?_
    refine Ev.iload_n dX1_readWind_19 rfl 0 rfl ?_
    refine Ev.ishr dX1_readWind_20 ?_
    refine Ev.iconst (v := 1) dX1_readWind_21 rfl ?_
    refine Ev.iand dX1_readWind_22 ?_
    refine Ev.iconst (v := 1) dX1_readWind_23 rfl ?_
    refine Ev.icmp_ne (tgt := 32) dX1_readWind_24 (by decide) (fun c3 => ?_) (fun c3 => ?_)
    · replace h := wp_t c3 h
      refine Ev.aload_n dX1_readWind_27 rfl 1 rfl ?_
      refine Ev.iconst (v := 4) dX1_readWind_28 rfl ?_
      obtain ⟨r4, er4, h⟩ := wp_bind h
      refine Ev.callV (k := 1) (as := [.int 4]) (rest := []) dX1_readWind_29 cl_X1_96 mok_X1_fail rfl (Nat.le_of_ble_eq_true rfl) (Nat.le_of_ble_eq_true rfl) ⟨Nat.le_of_ble_eq_true rfl, Nat.le_of_ble_eq_true rfl⟩ (Nat.le_of_ble_eq_true rfl) rfl rfl (o_X1_fail ⟨r4, er4, ?_⟩)
      show Ev E mi_X1_readWind 32 [(1, .int r1.1), (0, .ref (ad E 1))] [] r4 Q
      refine Ev.sub [1, 0] rfl ?_
      exact o_X1_readWind_32 h
    · replace h := wp_f c3 h
      refine Ev.sub [1, 0] rfl ?_
      exact o_X1_readWind_32 h
  · replace h := wp_f c2 h
    refine Ev.sub [1, 0] rfl ?_
    exact o_X1_readWind_32 h

noncomputable def f_X1_readPhase (M : Mem) : Option Mem := if (M 1 6) = 0 then lm (up M 1 6 1) fun M2 => (f_X1_readNumber 0 5 M2).bind fun r3 => lm (up r3.2 4 6 r3.1) fun M4 => some M4 else (f_X1_fail 4 M).bind fun r5 => some r5
theorem o_X1_readPhase {E : GE} {Q : Option Value → Mem → Prop} {M : Mem} (h : wp (f_X1_readPhase M) gVM Q) : Runs E mi_X1_readPhase [.ref (ad E 1)] M Q := by
  refine Runs.ofEv (by decide +kernel) (Nat.le_of_ble_eq_true rfl) ?_
  show Ev E mi_X1_readPhase 0 [(0, .ref (ad E 1))] [] M Q
  unfold f_X1_readPhase at h
  refine Ev.aload_n dX1_readPhase_0 rfl 0 rfl ?_
  refine Ev.get dX1_readPhase_1 fl_X1_41 rfl (Nat.le_of_ble_eq_true rfl) rfl ?_
  refine Ev.if_eq (tgt := 13) dX1_readPhase_4 (by decide) (fun c1 => ?_) (fun c1 => ?_)
  · replace h := wp_t c1 h
    refine Ev.aload_n dX1_readPhase_13 rfl 0 rfl ?_
    refine Ev.iconst (v := 1) dX1_readPhase_14 rfl ?_
    refine Ev.putA dX1_readPhase_15 fl_X1_41 rfl (Nat.le_of_ble_eq_true rfl) rfl rfl pf_Z rfl rfl ?_
    refine Ev.topM (fun M2 eM2 => ?_)
    replace h := wp_lm h M2 eM2
    refine Ev.aload_n dX1_readPhase_18 rfl 0 rfl ?_
    refine Ev.get dX1_readPhase_19 fl_X1_21 rfl (Nat.le_of_ble_eq_true rfl) (v := .ref (ad E 4)) rfl ?_
    refine Ev.aload_n dX1_readPhase_22 rfl 0 rfl ?_
    refine Ev.iconst (v := 0) dX1_readPhase_23 rfl ?_
    refine Ev.iconst (v := 5) dX1_readPhase_24 rfl ?_
    obtain ⟨r3, er3, h⟩ := wp_bind h
    refine Ev.callV (k := 1) (as := [.int 0, .int 5]) (rest := [.ref (ad E 4)]) dX1_readPhase_25 cl_X1_110 mok_X1_readNumber rfl (Nat.le_of_ble_eq_true rfl) (Nat.le_of_ble_eq_true rfl) ⟨Nat.le_of_ble_eq_true rfl, Nat.le_of_ble_eq_true rfl⟩ (Nat.le_of_ble_eq_true rfl) rfl rfl (o_X1_readNumber ⟨r3, er3, ?_⟩)
    show Ev E mi_X1_readPhase 28 [(0, .ref (ad E 1))] [.int r3.1, .ref (ad E 4)] r3.2 Q
    refine Ev.putN dX1_readPhase_28 nl_X1_132 rfl (Nat.le_of_ble_eq_true rfl) rfl rfl pf_I rfl rfl ?_
    refine Ev.topM (fun M4 eM4 => ?_)
    replace h := wp_lm h M4 eM4
    exact Ev.vret dX1_readPhase_31 rfl (wp_ret h)
  · replace h := wp_f c1 h
    refine Ev.aload_n dX1_readPhase_7 rfl 0 rfl ?_
    refine Ev.iconst (v := 4) dX1_readPhase_8 rfl ?_
    obtain ⟨r5, er5, h⟩ := wp_bind h
    refine Ev.callV (k := 1) (as := [.int 4]) (rest := []) dX1_readPhase_9 cl_X1_96 mok_X1_fail rfl (Nat.le_of_ble_eq_true rfl) (Nat.le_of_ble_eq_true rfl) ⟨Nat.le_of_ble_eq_true rfl, Nat.le_of_ble_eq_true rfl⟩ (Nat.le_of_ble_eq_true rfl) rfl rfl (o_X1_fail ⟨r5, er5, ?_⟩)
    show Ev E mi_X1_readPhase 12 [(0, .ref (ad E 1))] [] r5 Q
    exact Ev.vret dX1_readPhase_12 rfl (wp_ret h)

noncomputable def f_X1_readLine_160 (M : Mem) : Option Mem := if (M 1 2) = 0 then (f_X4_take M).bind fun r2 => if (r2 2 3) = 3 then some r2 else (f_X1_failToken r2).bind fun r4 => some r4 else some M
theorem o_X1_readLine_160 {E : GE} {Q : Option Value → Mem → Prop} {M : Mem} (h : wp (f_X1_readLine_160 M) gVM Q) : Ev E mi_X1_readLine 160 [(0, .ref (ad E 1))] [] M Q := by
  unfold f_X1_readLine_160 at h
  refine Ev.aload_n dX1_readLine_160 rfl 0 rfl ?_
  refine Ev.get dX1_readLine_161 fl_X1_31 rfl (Nat.le_of_ble_eq_true rfl) rfl ?_
  refine Ev.if_eq (tgt := 168) dX1_readLine_164 (by decide) (fun c1 => ?_) (fun c1 => ?_)
  · replace h := wp_t c1 h
    refine Ev.aload_n dX1_readLine_168 rfl 0 rfl ?_
    refine Ev.get dX1_readLine_169 fl_X1_12 rfl (Nat.le_of_ble_eq_true rfl) (v := .ref (ad E 2)) rfl ?_
    obtain ⟨r2, er2, h⟩ := wp_bind h
    refine Ev.callN (k := 2) (as := []) (rest := []) dX1_readLine_172 cn_X1_45 mok_X4_take rfl (Nat.le_of_ble_eq_true rfl) (Nat.le_of_ble_eq_true rfl) ⟨Nat.le_of_ble_eq_true rfl, Nat.le_of_ble_eq_true rfl⟩ (Nat.le_of_ble_eq_true rfl) rfl rfl (o_X4_take ⟨r2, er2, ?_⟩)
    show Ev E mi_X1_readLine 175 [(0, .ref (ad E 1))] [] r2 Q
    refine Ev.aload_n dX1_readLine_175 rfl 0 rfl ?_
    refine Ev.get dX1_readLine_176 fl_X1_12 rfl (Nat.le_of_ble_eq_true rfl) (v := .ref (ad E 2)) rfl ?_
    refine Ev.getN dX1_readLine_179 nl_X1_48 rfl (Nat.le_of_ble_eq_true rfl) rfl ?_
    refine Ev.iconst (v := 3) dX1_readLine_182 rfl ?_
    refine Ev.icmp_eq (tgt := 190) dX1_readLine_183 (by decide) (fun c3 => ?_) (fun c3 => ?_)
    · replace h := wp_t c3 h
      exact Ev.vret dX1_readLine_190 rfl (wp_ret h)
    · replace h := wp_f c3 h
      refine Ev.aload_n dX1_readLine_186 rfl 0 rfl ?_
      obtain ⟨r4, er4, h⟩ := wp_bind h
      refine Ev.callV (k := 1) (as := []) (rest := []) dX1_readLine_187 cl_X1_90 mok_X1_failToken rfl (Nat.le_of_ble_eq_true rfl) (Nat.le_of_ble_eq_true rfl) ⟨Nat.le_of_ble_eq_true rfl, Nat.le_of_ble_eq_true rfl⟩ (Nat.le_of_ble_eq_true rfl) rfl rfl (o_X1_failToken ⟨r4, er4, ?_⟩)
      show Ev E mi_X1_readLine 190 [(0, .ref (ad E 1))] [] r4 Q
      exact Ev.vret dX1_readLine_190 rfl (wp_ret h)
  · replace h := wp_f c1 h
    exact Ev.vret dX1_readLine_167 rfl (wp_ret h)
noncomputable def f_X1_readLine (M : Mem) : Option Mem := (f_X4_isWord 0 M).bind fun r1 => if r1 = 0 then (f_X4_isWord 1 M).bind fun r3 => if r3 = 0 then (f_X4_isWord 2 M).bind fun r5 => if r5 = 0 then (f_X4_isWord 3 M).bind fun r7 => if r7 = 0 then (f_X4_isWord 4 M).bind fun r9 => if r9 = 0 then (f_X4_isWord 5 M).bind fun r11 => if r11 = 0 then (f_X4_isWord 6 M).bind fun r13 => if r13 = 0 then (f_X4_isWord 7 M).bind fun r15 => if r15 = 0 then (f_X1_failToken M).bind fun r17 => f_X1_readLine_160 r17 else (f_X1_readPhase M).bind fun r18 => f_X1_readLine_160 r18 else (f_X1_readWind M).bind fun r19 => f_X1_readLine_160 r19 else (f_X1_readCurrent M).bind fun r20 => f_X1_readLine_160 r20 else (f_X1_readHeir M).bind fun r21 => f_X1_readLine_160 r21 else (f_X1_readTub 3 M).bind fun r22 => f_X1_readLine_160 r22 else (f_X1_readTub 2 M).bind fun r23 => f_X1_readLine_160 r23 else (f_X1_readTub 1 M).bind fun r24 => f_X1_readLine_160 r24 else (f_X1_readTub 0 M).bind fun r25 => f_X1_readLine_160 r25
theorem o_X1_readLine {E : GE} {Q : Option Value → Mem → Prop} {M : Mem} (h : wp (f_X1_readLine M) gVM Q) : Runs E mi_X1_readLine [.ref (ad E 1)] M Q := by
  refine Runs.ofEv (by decide +kernel) (Nat.le_of_ble_eq_true rfl) ?_
  show Ev E mi_X1_readLine 0 [(0, .ref (ad E 1))] [] M Q
  unfold f_X1_readLine at h
  refine Ev.aload_n dX1_readLine_0 rfl 0 rfl ?_
  refine Ev.get dX1_readLine_1 fl_X1_12 rfl (Nat.le_of_ble_eq_true rfl) (v := .ref (ad E 2)) rfl ?_
  refine Ev.ldcS (i := 0) dX1_readLine_4 rfl (Nat.le_of_ble_eq_true rfl) rfl ?_
  obtain ⟨r1, er1, h⟩ := wp_bind h
  refine Ev.callN (k := 2) (as := [.ref (sK E 0)]) (rest := []) dX1_readLine_6 cn_X1_56 mok_X4_isWord rfl (Nat.le_of_ble_eq_true rfl) (Nat.le_of_ble_eq_true rfl) ⟨Nat.le_of_ble_eq_true rfl, Nat.le_of_ble_eq_true rfl⟩ (Nat.le_of_ble_eq_true rfl) rfl rfl (o_X4_isWord (Nat.le_of_ble_eq_true rfl) ⟨r1, er1, ?_⟩)
  show Ev E mi_X1_readLine 9 [(0, .ref (ad E 1))] [.int r1] M Q
  refine Ev.if_eq (tgt := 20) dX1_readLine_9 (by decide) (fun c2 => ?_) (fun c2 => ?_)
  · replace h := wp_t c2 h
    refine Ev.aload_n dX1_readLine_20 rfl 0 rfl ?_
    refine Ev.get dX1_readLine_21 fl_X1_12 rfl (Nat.le_of_ble_eq_true rfl) (v := .ref (ad E 2)) rfl ?_
    refine Ev.ldcS (i := 1) dX1_readLine_24 rfl (Nat.le_of_ble_eq_true rfl) rfl ?_
    obtain ⟨r3, er3, h⟩ := wp_bind h
    refine Ev.callN (k := 2) (as := [.ref (sK E 1)]) (rest := []) dX1_readLine_26 cn_X1_56 mok_X4_isWord rfl (Nat.le_of_ble_eq_true rfl) (Nat.le_of_ble_eq_true rfl) ⟨Nat.le_of_ble_eq_true rfl, Nat.le_of_ble_eq_true rfl⟩ (Nat.le_of_ble_eq_true rfl) rfl rfl (o_X4_isWord (Nat.le_of_ble_eq_true rfl) ⟨r3, er3, ?_⟩)
    show Ev E mi_X1_readLine 29 [(0, .ref (ad E 1))] [.int r3] M Q
    refine Ev.if_eq (tgt := 40) dX1_readLine_29 (by decide) (fun c4 => ?_) (fun c4 => ?_)
    · replace h := wp_t c4 h
      refine Ev.aload_n dX1_readLine_40 rfl 0 rfl ?_
      refine Ev.get dX1_readLine_41 fl_X1_12 rfl (Nat.le_of_ble_eq_true rfl) (v := .ref (ad E 2)) rfl ?_
      refine Ev.ldcS (i := 2) dX1_readLine_44 rfl (Nat.le_of_ble_eq_true rfl) rfl ?_
      obtain ⟨r5, er5, h⟩ := wp_bind h
      refine Ev.callN (k := 2) (as := [.ref (sK E 2)]) (rest := []) dX1_readLine_46 cn_X1_56 mok_X4_isWord rfl (Nat.le_of_ble_eq_true rfl) (Nat.le_of_ble_eq_true rfl) ⟨Nat.le_of_ble_eq_true rfl, Nat.le_of_ble_eq_true rfl⟩ (Nat.le_of_ble_eq_true rfl) rfl rfl (o_X4_isWord (Nat.le_of_ble_eq_true rfl) ⟨r5, er5, ?_⟩)
      show Ev E mi_X1_readLine 49 [(0, .ref (ad E 1))] [.int r5] M Q
      refine Ev.if_eq (tgt := 60) dX1_readLine_49 (by decide) (fun c6 => ?_) (fun c6 => ?_)
      · replace h := wp_t c6 h
        refine Ev.aload_n dX1_readLine_60 rfl 0 rfl ?_
        refine Ev.get dX1_readLine_61 fl_X1_12 rfl (Nat.le_of_ble_eq_true rfl) (v := .ref (ad E 2)) rfl ?_
        refine Ev.ldcS (i := 3) dX1_readLine_64 rfl (Nat.le_of_ble_eq_true rfl) rfl ?_
        obtain ⟨r7, er7, h⟩ := wp_bind h
        refine Ev.callN (k := 2) (as := [.ref (sK E 3)]) (rest := []) dX1_readLine_66 cn_X1_56 mok_X4_isWord rfl (Nat.le_of_ble_eq_true rfl) (Nat.le_of_ble_eq_true rfl) ⟨Nat.le_of_ble_eq_true rfl, Nat.le_of_ble_eq_true rfl⟩ (Nat.le_of_ble_eq_true rfl) rfl rfl (o_X4_isWord (Nat.le_of_ble_eq_true rfl) ⟨r7, er7, ?_⟩)
        show Ev E mi_X1_readLine 69 [(0, .ref (ad E 1))] [.int r7] M Q
        refine Ev.if_eq (tgt := 80) dX1_readLine_69 (by decide) (fun c8 => ?_) (fun c8 => ?_)
        · replace h := wp_t c8 h
          refine Ev.aload_n dX1_readLine_80 rfl 0 rfl ?_
          refine Ev.get dX1_readLine_81 fl_X1_12 rfl (Nat.le_of_ble_eq_true rfl) (v := .ref (ad E 2)) rfl ?_
          refine Ev.ldcS (i := 4) dX1_readLine_84 rfl (Nat.le_of_ble_eq_true rfl) rfl ?_
          obtain ⟨r9, er9, h⟩ := wp_bind h
          refine Ev.callN (k := 2) (as := [.ref (sK E 4)]) (rest := []) dX1_readLine_86 cn_X1_56 mok_X4_isWord rfl (Nat.le_of_ble_eq_true rfl) (Nat.le_of_ble_eq_true rfl) ⟨Nat.le_of_ble_eq_true rfl, Nat.le_of_ble_eq_true rfl⟩ (Nat.le_of_ble_eq_true rfl) rfl rfl (o_X4_isWord (Nat.le_of_ble_eq_true rfl) ⟨r9, er9, ?_⟩)
          show Ev E mi_X1_readLine 89 [(0, .ref (ad E 1))] [.int r9] M Q
          refine Ev.if_eq (tgt := 99) dX1_readLine_89 (by decide) (fun c10 => ?_) (fun c10 => ?_)
          · replace h := wp_t c10 h
            refine Ev.aload_n dX1_readLine_99 rfl 0 rfl ?_
            refine Ev.get dX1_readLine_100 fl_X1_12 rfl (Nat.le_of_ble_eq_true rfl) (v := .ref (ad E 2)) rfl ?_
            refine Ev.ldcS (i := 5) dX1_readLine_103 rfl (Nat.le_of_ble_eq_true rfl) rfl ?_
            obtain ⟨r11, er11, h⟩ := wp_bind h
            refine Ev.callN (k := 2) (as := [.ref (sK E 5)]) (rest := []) dX1_readLine_105 cn_X1_56 mok_X4_isWord rfl (Nat.le_of_ble_eq_true rfl) (Nat.le_of_ble_eq_true rfl) ⟨Nat.le_of_ble_eq_true rfl, Nat.le_of_ble_eq_true rfl⟩ (Nat.le_of_ble_eq_true rfl) rfl rfl (o_X4_isWord (Nat.le_of_ble_eq_true rfl) ⟨r11, er11, ?_⟩)
            show Ev E mi_X1_readLine 108 [(0, .ref (ad E 1))] [.int r11] M Q
            refine Ev.if_eq (tgt := 118) dX1_readLine_108 (by decide) (fun c12 => ?_) (fun c12 => ?_)
            · replace h := wp_t c12 h
              refine Ev.aload_n dX1_readLine_118 rfl 0 rfl ?_
              refine Ev.get dX1_readLine_119 fl_X1_12 rfl (Nat.le_of_ble_eq_true rfl) (v := .ref (ad E 2)) rfl ?_
              refine Ev.ldcS (i := 6) dX1_readLine_122 rfl (Nat.le_of_ble_eq_true rfl) rfl ?_
              obtain ⟨r13, er13, h⟩ := wp_bind h
              refine Ev.callN (k := 2) (as := [.ref (sK E 6)]) (rest := []) dX1_readLine_124 cn_X1_56 mok_X4_isWord rfl (Nat.le_of_ble_eq_true rfl) (Nat.le_of_ble_eq_true rfl) ⟨Nat.le_of_ble_eq_true rfl, Nat.le_of_ble_eq_true rfl⟩ (Nat.le_of_ble_eq_true rfl) rfl rfl (o_X4_isWord (Nat.le_of_ble_eq_true rfl) ⟨r13, er13, ?_⟩)
              show Ev E mi_X1_readLine 127 [(0, .ref (ad E 1))] [.int r13] M Q
              refine Ev.if_eq (tgt := 137) dX1_readLine_127 (by decide) (fun c14 => ?_) (fun c14 => ?_)
              · replace h := wp_t c14 h
                refine Ev.aload_n dX1_readLine_137 rfl 0 rfl ?_
                refine Ev.get dX1_readLine_138 fl_X1_12 rfl (Nat.le_of_ble_eq_true rfl) (v := .ref (ad E 2)) rfl ?_
                refine Ev.ldcS (i := 7) dX1_readLine_141 rfl (Nat.le_of_ble_eq_true rfl) rfl ?_
                obtain ⟨r15, er15, h⟩ := wp_bind h
                refine Ev.callN (k := 2) (as := [.ref (sK E 7)]) (rest := []) dX1_readLine_143 cn_X1_56 mok_X4_isWord rfl (Nat.le_of_ble_eq_true rfl) (Nat.le_of_ble_eq_true rfl) ⟨Nat.le_of_ble_eq_true rfl, Nat.le_of_ble_eq_true rfl⟩ (Nat.le_of_ble_eq_true rfl) rfl rfl (o_X4_isWord (Nat.le_of_ble_eq_true rfl) ⟨r15, er15, ?_⟩)
                show Ev E mi_X1_readLine 146 [(0, .ref (ad E 1))] [.int r15] M Q
                refine Ev.if_eq (tgt := 156) dX1_readLine_146 (by decide) (fun c16 => ?_) (fun c16 => ?_)
                · replace h := wp_t c16 h
                  refine Ev.aload_n dX1_readLine_156 rfl 0 rfl ?_
                  obtain ⟨r17, er17, h⟩ := wp_bind h
                  refine Ev.callV (k := 1) (as := []) (rest := []) dX1_readLine_157 cl_X1_90 mok_X1_failToken rfl (Nat.le_of_ble_eq_true rfl) (Nat.le_of_ble_eq_true rfl) ⟨Nat.le_of_ble_eq_true rfl, Nat.le_of_ble_eq_true rfl⟩ (Nat.le_of_ble_eq_true rfl) rfl rfl (o_X1_failToken ⟨r17, er17, ?_⟩)
                  show Ev E mi_X1_readLine 160 [(0, .ref (ad E 1))] [] r17 Q
                  exact o_X1_readLine_160 h
                · replace h := wp_f c16 h
                  refine Ev.aload_n dX1_readLine_149 rfl 0 rfl ?_
                  obtain ⟨r18, er18, h⟩ := wp_bind h
                  refine Ev.callV (k := 1) (as := []) (rest := []) dX1_readLine_150 cl_X1_87 mok_X1_readPhase rfl (Nat.le_of_ble_eq_true rfl) (Nat.le_of_ble_eq_true rfl) ⟨Nat.le_of_ble_eq_true rfl, Nat.le_of_ble_eq_true rfl⟩ (Nat.le_of_ble_eq_true rfl) rfl rfl (o_X1_readPhase ⟨r18, er18, ?_⟩)
                  show Ev E mi_X1_readLine 153 [(0, .ref (ad E 1))] [] r18 Q
                  refine Ev.goto (tgt := 160) dX1_readLine_153 (by decide) ?_
                  exact o_X1_readLine_160 h
              · replace h := wp_f c14 h
                refine Ev.aload_n dX1_readLine_130 rfl 0 rfl ?_
                obtain ⟨r19, er19, h⟩ := wp_bind h
                refine Ev.callV (k := 1) (as := []) (rest := []) dX1_readLine_131 cl_X1_82 mok_X1_readWind rfl (Nat.le_of_ble_eq_true rfl) (Nat.le_of_ble_eq_true rfl) ⟨Nat.le_of_ble_eq_true rfl, Nat.le_of_ble_eq_true rfl⟩ (Nat.le_of_ble_eq_true rfl) rfl rfl (o_X1_readWind ⟨r19, er19, ?_⟩)
                show Ev E mi_X1_readLine 134 [(0, .ref (ad E 1))] [] r19 Q
                refine Ev.goto (tgt := 160) dX1_readLine_134 (by decide) ?_
                exact o_X1_readLine_160 h
            · replace h := wp_f c12 h
              refine Ev.aload_n dX1_readLine_111 rfl 0 rfl ?_
              obtain ⟨r20, er20, h⟩ := wp_bind h
              refine Ev.callV (k := 1) (as := []) (rest := []) dX1_readLine_112 cl_X1_77 mok_X1_readCurrent rfl (Nat.le_of_ble_eq_true rfl) (Nat.le_of_ble_eq_true rfl) ⟨Nat.le_of_ble_eq_true rfl, Nat.le_of_ble_eq_true rfl⟩ (Nat.le_of_ble_eq_true rfl) rfl rfl (o_X1_readCurrent ⟨r20, er20, ?_⟩)
              show Ev E mi_X1_readLine 115 [(0, .ref (ad E 1))] [] r20 Q
              refine Ev.goto (tgt := 160) dX1_readLine_115 (by decide) ?_
              exact o_X1_readLine_160 h
          · replace h := wp_f c10 h
            refine Ev.aload_n dX1_readLine_92 rfl 0 rfl ?_
            obtain ⟨r21, er21, h⟩ := wp_bind h
            refine Ev.callV (k := 1) (as := []) (rest := []) dX1_readLine_93 cl_X1_72 mok_X1_readHeir rfl (Nat.le_of_ble_eq_true rfl) (Nat.le_of_ble_eq_true rfl) ⟨Nat.le_of_ble_eq_true rfl, Nat.le_of_ble_eq_true rfl⟩ (Nat.le_of_ble_eq_true rfl) rfl rfl (o_X1_readHeir ⟨r21, er21, ?_⟩)
            show Ev E mi_X1_readLine 96 [(0, .ref (ad E 1))] [] r21 Q
            refine Ev.goto (tgt := 160) dX1_readLine_96 (by decide) ?_
            exact o_X1_readLine_160 h
        · replace h := wp_f c8 h
          refine Ev.aload_n dX1_readLine_72 rfl 0 rfl ?_
          refine Ev.iconst (v := 3) dX1_readLine_73 rfl ?_
          obtain ⟨r22, er22, h⟩ := wp_bind h
          refine Ev.callV (k := 1) (as := [.int 3]) (rest := []) dX1_readLine_74 cl_X1_60 mok_X1_readTub rfl (Nat.le_of_ble_eq_true rfl) (Nat.le_of_ble_eq_true rfl) ⟨Nat.le_of_ble_eq_true rfl, Nat.le_of_ble_eq_true rfl⟩ (Nat.le_of_ble_eq_true rfl) rfl rfl (o_X1_readTub ⟨r22, er22, ?_⟩)
          show Ev E mi_X1_readLine 77 [(0, .ref (ad E 1))] [] r22 Q
          refine Ev.goto (tgt := 160) dX1_readLine_77 (by decide) ?_
          exact o_X1_readLine_160 h
      · replace h := wp_f c6 h
        refine Ev.aload_n dX1_readLine_52 rfl 0 rfl ?_
        refine Ev.iconst (v := 2) dX1_readLine_53 rfl ?_
        obtain ⟨r23, er23, h⟩ := wp_bind h
        refine Ev.callV (k := 1) (as := [.int 2]) (rest := []) dX1_readLine_54 cl_X1_60 mok_X1_readTub rfl (Nat.le_of_ble_eq_true rfl) (Nat.le_of_ble_eq_true rfl) ⟨Nat.le_of_ble_eq_true rfl, Nat.le_of_ble_eq_true rfl⟩ (Nat.le_of_ble_eq_true rfl) rfl rfl (o_X1_readTub ⟨r23, er23, ?_⟩)
        show Ev E mi_X1_readLine 57 [(0, .ref (ad E 1))] [] r23 Q
        refine Ev.goto (tgt := 160) dX1_readLine_57 (by decide) ?_
        exact o_X1_readLine_160 h
    · replace h := wp_f c4 h
      refine Ev.aload_n dX1_readLine_32 rfl 0 rfl ?_
      refine Ev.iconst (v := 1) dX1_readLine_33 rfl ?_
      obtain ⟨r24, er24, h⟩ := wp_bind h
      refine Ev.callV (k := 1) (as := [.int 1]) (rest := []) dX1_readLine_34 cl_X1_60 mok_X1_readTub rfl (Nat.le_of_ble_eq_true rfl) (Nat.le_of_ble_eq_true rfl) ⟨Nat.le_of_ble_eq_true rfl, Nat.le_of_ble_eq_true rfl⟩ (Nat.le_of_ble_eq_true rfl) rfl rfl (o_X1_readTub ⟨r24, er24, ?_⟩)
      show Ev E mi_X1_readLine 37 [(0, .ref (ad E 1))] [] r24 Q
      refine Ev.goto (tgt := 160) dX1_readLine_37 (by decide) ?_
      exact o_X1_readLine_160 h
  · replace h := wp_f c2 h
    refine Ev.aload_n dX1_readLine_12 rfl 0 rfl ?_
    refine Ev.iconst (v := 0) dX1_readLine_13 rfl ?_
    obtain ⟨r25, er25, h⟩ := wp_bind h
    refine Ev.callV (k := 1) (as := [.int 0]) (rest := []) dX1_readLine_14 cl_X1_60 mok_X1_readTub rfl (Nat.le_of_ble_eq_true rfl) (Nat.le_of_ble_eq_true rfl) ⟨Nat.le_of_ble_eq_true rfl, Nat.le_of_ble_eq_true rfl⟩ (Nat.le_of_ble_eq_true rfl) rfl rfl (o_X1_readTub ⟨r25, er25, ?_⟩)
    show Ev E mi_X1_readLine 17 [(0, .ref (ad E 1))] [] r25 Q
    refine Ev.goto (tgt := 160) dX1_readLine_17 (by decide) ?_
    exact o_X1_readLine_160 h

noncomputable def f_X1_readAll_60 (x1 : Int32) (M : Mem) : Option (Int32 × Mem) := some (x1, M)
theorem o_X1_readAll_60 {E : GE} {Q : Option Value → Mem → Prop} {x1 : Int32} {M : Mem} (h : wp (f_X1_readAll_60 x1 M) gIM Q) : Ev E mi_X1_readAll 60 [(1, .int x1)] [] M Q := by
  unfold f_X1_readAll_60 at h
  refine Ev.goto (tgt := 83) dX1_readAll_60 (by decide) ?_
  refine Ev.iload_n dX1_readAll_83 rfl 0 rfl ?_
  exact Ev.ret dX1_readAll_84 rfl rfl (wp_ret h)
noncomputable def f_X1_readAll_74 (x1 : Int32) (M : Mem) : Option (Int32 × Mem) := some (x1, M)
theorem o_X1_readAll_74 {E : GE} {Q : Option Value → Mem → Prop} {x1 : Int32} {M : Mem} (h : wp (f_X1_readAll_74 x1 M) gIM Q) : Ev E mi_X1_readAll 74 [(1, .int x1)] [] M Q := by
  unfold f_X1_readAll_74 at h
  refine Ev.goto (tgt := 83) dX1_readAll_74 (by decide) ?_
  refine Ev.iload_n dX1_readAll_83 rfl 0 rfl ?_
  exact Ev.ret dX1_readAll_84 rfl rfl (wp_ret h)
noncomputable def f_X1_readAll_36 : Nat → Int32 → Mem → Option (Int32 × Mem)
  | 0, _, _ => none
  | n + 1, x1, M => if 160 < x1 then some (x1, M) else (f_X4_take M).bind fun r2 => if (r2 2 3) = 0 then f_X1_readAll_60 x1 r2 else (f_X1_readLine r2).bind fun r4 => if (r4 1 2) = 0 then (f_X1_readAll_36 n) (x1 + 1) r4 else f_X1_readAll_74 x1 r4
theorem o_X1_readAll_36 {E : GE} {Q : Option Value → Mem → Prop} : ∀ (n : Nat) {x1 : Int32} {M : Mem}, wp (f_X1_readAll_36 n x1 M) gIM Q → Ev E mi_X1_readAll 36 [(0, .ref (ad E 1)), (1, .int x1)] [] M Q := by
  intro n
  induction n with
  | zero => intro _ _ h; exact absurd h wp_none
  | succ n ih =>
    intro x1 M h
    unfold f_X1_readAll_36 at h
    refine Ev.iload_n dX1_readAll_36 rfl 1 rfl ?_
    refine Ev.sipush (v := 160) dX1_readAll_37 rfl ?_
    refine Ev.icmp_gt (tgt := 83) dX1_readAll_40 (by decide) (fun c1 => ?_) (fun c1 => ?_)
    · replace h := wp_t c1 h
      refine Ev.iload_n dX1_readAll_83 rfl 1 rfl ?_
      exact Ev.ret dX1_readAll_84 rfl rfl (wp_ret h)
    · replace h := wp_f c1 h
      refine Ev.aload_n dX1_readAll_43 rfl 0 rfl ?_
      refine Ev.get dX1_readAll_44 fl_X1_12 rfl (Nat.le_of_ble_eq_true rfl) (v := .ref (ad E 2)) rfl ?_
      obtain ⟨r2, er2, h⟩ := wp_bind h
      refine Ev.callN (k := 2) (as := []) (rest := []) dX1_readAll_47 cn_X1_45 mok_X4_take rfl (Nat.le_of_ble_eq_true rfl) (Nat.le_of_ble_eq_true rfl) ⟨Nat.le_of_ble_eq_true rfl, Nat.le_of_ble_eq_true rfl⟩ (Nat.le_of_ble_eq_true rfl) rfl rfl (o_X4_take ⟨r2, er2, ?_⟩)
      show Ev E mi_X1_readAll 50 [(0, .ref (ad E 1)), (1, .int x1)] [] r2 Q
      refine Ev.aload_n dX1_readAll_50 rfl 0 rfl ?_
      refine Ev.get dX1_readAll_51 fl_X1_12 rfl (Nat.le_of_ble_eq_true rfl) (v := .ref (ad E 2)) rfl ?_
      refine Ev.getN dX1_readAll_54 nl_X1_48 rfl (Nat.le_of_ble_eq_true rfl) rfl ?_
      refine Ev.if_ne (tgt := 63) dX1_readAll_57 (by decide) (fun c3 => ?_) (fun c3 => ?_)
      · replace h := wp_t c3 h
        refine Ev.sub [1] rfl ?_
        exact o_X1_readAll_60 h
      · replace h := wp_f c3 h
        refine Ev.aload_n dX1_readAll_63 rfl 0 rfl ?_
        obtain ⟨r4, er4, h⟩ := wp_bind h
        refine Ev.callV (k := 1) (as := []) (rest := []) dX1_readAll_64 cl_X1_51 mok_X1_readLine rfl (Nat.le_of_ble_eq_true rfl) (Nat.le_of_ble_eq_true rfl) ⟨Nat.le_of_ble_eq_true rfl, Nat.le_of_ble_eq_true rfl⟩ (Nat.le_of_ble_eq_true rfl) rfl rfl (o_X1_readLine ⟨r4, er4, ?_⟩)
        show Ev E mi_X1_readAll 67 [(0, .ref (ad E 1)), (1, .int x1)] [] r4 Q
        refine Ev.aload_n dX1_readAll_67 rfl 0 rfl ?_
        refine Ev.get dX1_readAll_68 fl_X1_31 rfl (Nat.le_of_ble_eq_true rfl) rfl ?_
        refine Ev.if_eq (tgt := 77) dX1_readAll_71 (by decide) (fun c5 => ?_) (fun c5 => ?_)
        · replace h := wp_t c5 h
          refine Ev.iinc (v := x1 + 1) dX1_readAll_77 1 rfl rfl (Nat.le_of_ble_eq_true rfl) rfl ?_
          show Ev E mi_X1_readAll 80 [(1, .int (x1 + 1)), (0, .ref (ad E 1))] [] r4 Q
          refine Ev.goto (tgt := 36) dX1_readAll_80 (by decide) ?_
          refine Ev.sub [1, 0] rfl ?_
          exact ih h
        · replace h := wp_f c5 h
          refine Ev.sub [1] rfl ?_
          exact o_X1_readAll_74 h
noncomputable def f_X1_readAll (M : Mem) : Option (Int32 × Mem) := (f_X2_empty 4 M).bind fun r1 => (f_X4_rewind r1).bind fun r2 => lm (up r2 1 2 0) fun M3 => lm (up M3 1 4 0) fun M4 => lm (up M4 1 5 0) fun M5 => lm (up M5 1 6 0) fun M6 => f_X1_readAll_36 FU 0 M6
theorem o_X1_readAll {E : GE} {Q : Option Value → Mem → Prop} {M : Mem} (h : wp (f_X1_readAll M) gIM Q) : Runs E mi_X1_readAll [.ref (ad E 1)] M Q := by
  refine Runs.ofEv (by decide +kernel) (Nat.le_of_ble_eq_true rfl) ?_
  show Ev E mi_X1_readAll 0 [(0, .ref (ad E 1))] [] M Q
  unfold f_X1_readAll at h
  refine Ev.aload_n dX1_readAll_0 rfl 0 rfl ?_
  refine Ev.get dX1_readAll_1 fl_X1_21 rfl (Nat.le_of_ble_eq_true rfl) (v := .ref (ad E 4)) rfl ?_
  obtain ⟨r1, er1, h⟩ := wp_bind h
  refine Ev.callN (k := 4) (as := []) (rest := []) dX1_readAll_4 cn_X1_25 mok_X2_empty rfl (Nat.le_of_ble_eq_true rfl) (Nat.le_of_ble_eq_true rfl) ⟨Nat.le_of_ble_eq_true rfl, Nat.le_of_ble_eq_true rfl⟩ (Nat.le_of_ble_eq_true rfl) rfl rfl (o_X2_empty sea_4 ⟨r1, er1, ?_⟩)
  show Ev E mi_X1_readAll 7 [(0, .ref (ad E 1))] [] r1 Q
  refine Ev.aload_n dX1_readAll_7 rfl 0 rfl ?_
  refine Ev.get dX1_readAll_8 fl_X1_12 rfl (Nat.le_of_ble_eq_true rfl) (v := .ref (ad E 2)) rfl ?_
  obtain ⟨r2, er2, h⟩ := wp_bind h
  refine Ev.callN (k := 2) (as := []) (rest := []) dX1_readAll_11 cn_X1_28 mok_X4_rewind rfl (Nat.le_of_ble_eq_true rfl) (Nat.le_of_ble_eq_true rfl) ⟨Nat.le_of_ble_eq_true rfl, Nat.le_of_ble_eq_true rfl⟩ (Nat.le_of_ble_eq_true rfl) rfl rfl (o_X4_rewind ⟨r2, er2, ?_⟩)
  show Ev E mi_X1_readAll 14 [(0, .ref (ad E 1))] [] r2 Q
  refine Ev.aload_n dX1_readAll_14 rfl 0 rfl ?_
  refine Ev.iconst (v := 0) dX1_readAll_15 rfl ?_
  refine Ev.putA dX1_readAll_16 fl_X1_31 rfl (Nat.le_of_ble_eq_true rfl) rfl rfl pf_I rfl rfl ?_
  refine Ev.topM (fun M3 eM3 => ?_)
  replace h := wp_lm h M3 eM3
  refine Ev.aload_n dX1_readAll_19 rfl 0 rfl ?_
  refine Ev.iconst (v := 0) dX1_readAll_20 rfl ?_
  refine Ev.putA dX1_readAll_21 fl_X1_35 rfl (Nat.le_of_ble_eq_true rfl) rfl rfl pf_I rfl rfl ?_
  refine Ev.topM (fun M4 eM4 => ?_)
  replace h := wp_lm h M4 eM4
  refine Ev.aload_n dX1_readAll_24 rfl 0 rfl ?_
  refine Ev.iconst (v := 0) dX1_readAll_25 rfl ?_
  refine Ev.putA dX1_readAll_26 fl_X1_38 rfl (Nat.le_of_ble_eq_true rfl) rfl rfl pf_I rfl rfl ?_
  refine Ev.topM (fun M5 eM5 => ?_)
  replace h := wp_lm h M5 eM5
  refine Ev.aload_n dX1_readAll_29 rfl 0 rfl ?_
  refine Ev.iconst (v := 0) dX1_readAll_30 rfl ?_
  refine Ev.putA dX1_readAll_31 fl_X1_41 rfl (Nat.le_of_ble_eq_true rfl) rfl rfl pf_Z rfl rfl ?_
  refine Ev.topM (fun M6 eM6 => ?_)
  replace h := wp_lm h M6 eM6
  refine Ev.iconst (v := 0) dX1_readAll_34 rfl ?_
  refine Ev.istore_n dX1_readAll_35 rfl (Nat.le_of_ble_eq_true rfl) rfl ?_
  show Ev E mi_X1_readAll 36 [(1, .int 0), (0, .ref (ad E 1))] [] M6 Q
  refine Ev.sub [1, 0] rfl ?_
  exact o_X1_readAll_36 FU h
