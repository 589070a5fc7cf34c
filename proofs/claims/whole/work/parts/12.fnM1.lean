noncomputable def f_X6_in (q0 : Int64) (q2 : Int64) (q4 : Int64) (M : Mem) : Option Int32 := if (lg_cmp q0 q2) < 0 then some 0 else if 0 < (lg_cmp q0 q4) then some 0 else some 1
theorem o_X6_in {E : GE} {Q : Option Value → Mem → Prop} {q0 : Int64} {q2 : Int64} {q4 : Int64} {M : Mem} (h : wp (f_X6_in q0 q2 q4 M) (gI M) Q) : Runs E mi_X6_in [.long q0, .long q2, .long q4] M Q := by
  refine Runs.ofEv (by decide +kernel) (Nat.le_of_ble_eq_true rfl) ?_
  show Ev E mi_X6_in 0 [(0, .long q0), (2, .long q2), (4, .long q4)] [] M Q
  unfold f_X6_in at h
  refine Ev.lload_n dX6_in_0 rfl 0 rfl ?_
  refine Ev.lload_n dX6_in_1 rfl 1 rfl ?_
  refine Ev.lcmp dX6_in_2 ?_
  refine Ev.if_lt (tgt := 17) dX6_in_3 (by decide) (fun c1 => ?_) (fun c1 => ?_)
  · replace h := wp_t c1 h
    refine Ev.iconst (v := 0) dX6_in_17 rfl ?_
    exact Ev.ret dX6_in_18 rfl rfl (wp_ret h)
  · replace h := wp_f c1 h
    refine Ev.lload_n dX6_in_6 rfl 0 rfl ?_
    refine Ev.lload dX6_in_7 2 rfl ?_
    refine Ev.lcmp dX6_in_9 ?_
    refine Ev.if_gt (tgt := 17) dX6_in_10 (by decide) (fun c2 => ?_) (fun c2 => ?_)
    · replace h := wp_t c2 h
      refine Ev.iconst (v := 0) dX6_in_17 rfl ?_
      exact Ev.ret dX6_in_18 rfl rfl (wp_ret h)
    · replace h := wp_f c2 h
      refine Ev.iconst (v := 1) dX6_in_13 rfl ?_
      refine Ev.goto (tgt := 18) dX6_in_14 (by decide) ?_
      exact Ev.ret dX6_in_18 rfl rfl (wp_ret h)

noncomputable def f_X6_feed (p1 : Int32) (M : Mem) : Option (Int32 × Mem) := (f_X6_in p1.toInt64 0 127 M).bind fun r1 => if r1 = 0 then some ((-1), M) else if (M 54 9) = 160 then some ((-3), M) else inb (M 54 9) 160 <| lm (up M 58 (M 54 9).toNatClampNeg p1) fun M5 => lm (up M5 54 9 ((M5 54 9) + 1)) fun M6 => some (M6 54 9, M6)
theorem o_X6_feed {E : GE} {Q : Option Value → Mem → Prop} {p1 : Int32} {M : Mem} (h : wp (f_X6_feed p1 M) gIM Q) : Runs E mi_X6_feed [.ref (ad E 54), .int p1] M Q := by
  refine Runs.ofEv (by decide +kernel) (Nat.le_of_ble_eq_true rfl) ?_
  show Ev E mi_X6_feed 0 [(0, .ref (ad E 54)), (1, .int p1)] [] M Q
  unfold f_X6_feed at h
  refine Ev.iload_n dX6_feed_0 rfl 1 rfl ?_
  refine Ev.i2l dX6_feed_1 ?_
  refine Ev.lconst (v := 0) dX6_feed_2 rfl ?_
  refine Ev.ldc2 dX6_feed_3 fc_X6_71 ?_
  obtain ⟨r1, er1, h⟩ := wp_bind h
  refine Ev.callS (as := [.long p1.toInt64, .long 0, .long 127]) (rest := []) dX6_feed_6 cl_X6_73 mos_X6_in ⟨Nat.le_of_ble_eq_true rfl, Nat.le_of_ble_eq_true rfl⟩ (Nat.le_of_ble_eq_true rfl) rfl rfl (o_X6_in ⟨r1, er1, ?_⟩)
  show Ev E mi_X6_feed 9 [(0, .ref (ad E 54)), (1, .int p1)] [.int r1] M Q
  refine Ev.if_ne (tgt := 14) dX6_feed_9 (by decide) (fun c2 => ?_) (fun c2 => ?_)
  · replace h := wp_t c2 h
    refine Ev.iconst (v := (-1)) dX6_feed_12 rfl ?_
    exact Ev.ret dX6_feed_13 rfl rfl (wp_ret h)
  · replace h := wp_f c2 h
    refine Ev.aload_n dX6_feed_14 rfl 0 rfl ?_
    refine Ev.get dX6_feed_15 fl_X6_77 rfl (Nat.le_of_ble_eq_true rfl) rfl ?_
    refine Ev.sipush (v := 160) dX6_feed_18 rfl ?_
    refine Ev.icmp_ne (tgt := 27) dX6_feed_21 (by decide) (fun c3 => ?_) (fun c3 => ?_)
    · replace h := wp_t c3 h
      refine Ev.bipush (v := (-3)) dX6_feed_24 rfl ?_
      exact Ev.ret dX6_feed_26 rfl rfl (wp_ret h)
    · replace h := wp_f c3 h
      refine Ev.aload_n dX6_feed_27 rfl 0 rfl ?_
      refine Ev.get dX6_feed_28 fl_X6_19 rfl (Nat.le_of_ble_eq_true rfl) (v := .ref (ad E 58)) rfl ?_
      refine Ev.aload_n dX6_feed_31 rfl 0 rfl ?_
      refine Ev.get dX6_feed_32 fl_X6_77 rfl (Nat.le_of_ble_eq_true rfl) rfl ?_
      refine Ev.iload_n dX6_feed_35 rfl 1 rfl ?_
      obtain ⟨g4, h⟩ := wp_inb h
      refine Ev.iast dX6_feed_36 rfl (Nat.le_of_ble_eq_true rfl) rfl g4 ?_
      refine Ev.topM (fun M5 eM5 => ?_)
      replace h := wp_lm h M5 eM5
      refine Ev.aload_n dX6_feed_37 rfl 0 rfl ?_
      refine Ev.dup dX6_feed_38 rfl ?_
      refine Ev.get dX6_feed_39 fl_X6_77 rfl (Nat.le_of_ble_eq_true rfl) rfl ?_
      refine Ev.iconst (v := 1) dX6_feed_42 rfl ?_
      refine Ev.iadd dX6_feed_43 ?_
      refine Ev.putA dX6_feed_44 fl_X6_77 rfl (Nat.le_of_ble_eq_true rfl) rfl rfl pf_I rfl rfl ?_
      refine Ev.topM (fun M6 eM6 => ?_)
      replace h := wp_lm h M6 eM6
      refine Ev.aload_n dX6_feed_47 rfl 0 rfl ?_
      refine Ev.get dX6_feed_48 fl_X6_77 rfl (Nat.le_of_ble_eq_true rfl) rfl ?_
      exact Ev.ret dX6_feed_51 rfl rfl (wp_ret h)

noncomputable def f_X6_end (p1 : Int32) (M : Mem) : Option (Int32 × Mem) := (f_X6_in p1.toInt64 0 ((M 54 9).toInt64) M).bind fun r1 => if r1 = 0 then some ((-1), M) else li (M 54 9) fun y3 => lm (up M 54 9 p1) fun M4 => some (y3, M4)
theorem o_X6_end {E : GE} {Q : Option Value → Mem → Prop} {p1 : Int32} {M : Mem} (h : wp (f_X6_end p1 M) gIM Q) : Runs E mi_X6_end [.ref (ad E 54), .int p1] M Q := by
  refine Runs.ofEv (by decide +kernel) (Nat.le_of_ble_eq_true rfl) ?_
  show Ev E mi_X6_end 0 [(0, .ref (ad E 54)), (1, .int p1)] [] M Q
  unfold f_X6_end at h
  refine Ev.iload_n dX6_end_0 rfl 1 rfl ?_
  refine Ev.i2l dX6_end_1 ?_
  refine Ev.lconst (v := 0) dX6_end_2 rfl ?_
  refine Ev.aload_n dX6_end_3 rfl 0 rfl ?_
  refine Ev.get dX6_end_4 fl_X6_77 rfl (Nat.le_of_ble_eq_true rfl) rfl ?_
  refine Ev.i2l dX6_end_7 ?_
  obtain ⟨r1, er1, h⟩ := wp_bind h
  refine Ev.callS (as := [.long p1.toInt64, .long 0, .long ((M 54 9).toInt64)]) (rest := []) dX6_end_8 cl_X6_73 mos_X6_in ⟨Nat.le_of_ble_eq_true rfl, Nat.le_of_ble_eq_true rfl⟩ (Nat.le_of_ble_eq_true rfl) rfl rfl (o_X6_in ⟨r1, er1, ?_⟩)
  show Ev E mi_X6_end 11 [(0, .ref (ad E 54)), (1, .int p1)] [.int r1] M Q
  refine Ev.if_ne (tgt := 16) dX6_end_11 (by decide) (fun c2 => ?_) (fun c2 => ?_)
  · replace h := wp_t c2 h
    refine Ev.iconst (v := (-1)) dX6_end_14 rfl ?_
    exact Ev.ret dX6_end_15 rfl rfl (wp_ret h)
  · replace h := wp_f c2 h
    refine Ev.aload_n dX6_end_16 rfl 0 rfl ?_
    refine Ev.get dX6_end_17 fl_X6_77 rfl (Nat.le_of_ble_eq_true rfl) rfl ?_
    refine Ev.topi (fun y3 ey3 => ?_)
    replace h := wp_li h y3 ey3
    refine Ev.istore_n dX6_end_20 rfl (Nat.le_of_ble_eq_true rfl) rfl ?_
    show Ev E mi_X6_end 21 [(2, .int y3), (0, .ref (ad E 54)), (1, .int p1)] [] M Q
    refine Ev.aload_n dX6_end_21 rfl 1 rfl ?_
    refine Ev.iload_n dX6_end_22 rfl 2 rfl ?_
    refine Ev.putA dX6_end_23 fl_X6_77 rfl (Nat.le_of_ble_eq_true rfl) rfl rfl pf_I rfl rfl ?_
    refine Ev.topM (fun M4 eM4 => ?_)
    replace h := wp_lm h M4 eM4
    refine Ev.iload_n dX6_end_26 rfl 0 rfl ?_
    exact Ev.ret dX6_end_27 rfl rfl (wp_ret h)

noncomputable def f_X6_byteAt (p1 : Int32) (M : Mem) : Option Int32 := if (M 54 9) ≤ p1 then some (-4) else rd (M 58) 160 p1 fun r3 => some r3
theorem o_X6_byteAt {E : GE} {Q : Option Value → Mem → Prop} {p1 : Int32} {M : Mem} (h : wp (f_X6_byteAt p1 M) (gI M) Q) : Runs E mi_X6_byteAt [.ref (ad E 54), .int p1] M Q := by
  refine Runs.ofEv (by decide +kernel) (Nat.le_of_ble_eq_true rfl) ?_
  show Ev E mi_X6_byteAt 0 [(0, .ref (ad E 54)), (1, .int p1)] [] M Q
  unfold f_X6_byteAt at h
  refine Ev.iload_n dX6_byteAt_0 rfl 1 rfl ?_
  refine Ev.aload_n dX6_byteAt_1 rfl 0 rfl ?_
  refine Ev.get dX6_byteAt_2 fl_X6_77 rfl (Nat.le_of_ble_eq_true rfl) rfl ?_
  refine Ev.icmp_ge (tgt := 17) dX6_byteAt_5 (by decide) (fun c1 => ?_) (fun c1 => ?_)
  · replace h := wp_t c1 h
    refine Ev.bipush (v := (-4)) dX6_byteAt_17 rfl ?_
    exact Ev.ret dX6_byteAt_19 rfl rfl (wp_ret h)
  · replace h := wp_f c1 h
    refine Ev.aload_n dX6_byteAt_8 rfl 0 rfl ?_
    refine Ev.get dX6_byteAt_9 fl_X6_19 rfl (Nat.le_of_ble_eq_true rfl) (v := .ref (ad E 58)) rfl ?_
    refine Ev.iload_n dX6_byteAt_12 rfl 1 rfl ?_
    obtain ⟨g2, h⟩ := wp_rd h
    refine Ev.iald dX6_byteAt_13 rfl (Nat.le_of_ble_eq_true rfl) rfl g2 ?_
    refine Ev.topi (fun r3 er3 => ?_)
    replace h := h r3 er3
    refine Ev.goto (tgt := 19) dX6_byteAt_14 (by decide) ?_
    exact Ev.ret dX6_byteAt_19 rfl rfl (wp_ret h)

noncomputable def f_X6_fails (p1 : Int32) (M : Mem) : Option Mem := if (M 54 11) = 0 then lm (up M 54 11 p1) fun M2 => lm (up M2 54 12 (M2 54 14)) fun M3 => some M3 else some M
theorem o_X6_fails {E : GE} {Q : Option Value → Mem → Prop} {p1 : Int32} {M : Mem} (h : wp (f_X6_fails p1 M) gVM Q) : Runs E mi_X6_fails [.ref (ad E 54), .int p1] M Q := by
  refine Runs.ofEv (by decide +kernel) (Nat.le_of_ble_eq_true rfl) ?_
  show Ev E mi_X6_fails 0 [(0, .ref (ad E 54)), (1, .int p1)] [] M Q
  unfold f_X6_fails at h
  refine Ev.aload_n dX6_fails_0 rfl 0 rfl ?_
  refine Ev.get dX6_fails_1 fl_X6_81 rfl (Nat.le_of_ble_eq_true rfl) rfl ?_
  refine Ev.if_ne (tgt := 20) dX6_fails_4 (by decide) (fun c1 => ?_) (fun c1 => ?_)
  · replace h := wp_t c1 h
    refine Ev.aload_n dX6_fails_7 rfl 0 rfl ?_
    refine Ev.iload_n dX6_fails_8 rfl 1 rfl ?_
    refine Ev.putA dX6_fails_9 fl_X6_81 rfl (Nat.le_of_ble_eq_true rfl) rfl rfl pf_I rfl rfl ?_
    refine Ev.topM (fun M2 eM2 => ?_)
    replace h := wp_lm h M2 eM2
    refine Ev.aload_n dX6_fails_12 rfl 0 rfl ?_
    refine Ev.aload_n dX6_fails_13 rfl 0 rfl ?_
    refine Ev.get dX6_fails_14 fl_X6_84 rfl (Nat.le_of_ble_eq_true rfl) rfl ?_
    refine Ev.putA dX6_fails_17 fl_X6_87 rfl (Nat.le_of_ble_eq_true rfl) rfl rfl pf_I rfl rfl ?_
    refine Ev.topM (fun M3 eM3 => ?_)
    replace h := wp_lm h M3 eM3
    exact Ev.vret dX6_fails_20 rfl (wp_ret h)
  · replace h := wp_f c1 h
    exact Ev.vret dX6_fails_20 rfl (wp_ret h)

noncomputable def f_X6_nameHere_99 (M : Mem) (t51 : Int32 → Int32 → Int32 → Option Int32) (x1 : Int32) (x3 : Int32) (s0 : Int32) : Option Int32 := t51 x1 s0 (x3 + 1)
theorem o_X6_nameHere_99 {E : GE} {Q : Option Value → Mem → Prop} {M : Mem} {t51 : Int32 → Int32 → Int32 → Option Int32} {x1 : Int32} {x3 : Int32} {s0 : Int32} (ht51 : ∀ (x1 : Int32) (x2 : Int32) (x3 : Int32), wp (t51 x1 x2 x3) (gI M) Q → Ev E mi_X6_nameHere 51 [(0, .ref (ad E 54)), (1, .int x1), (2, .int x2), (3, .int x3)] [] M Q) (h : wp (f_X6_nameHere_99 M t51 x1 x3 s0) (gI M) Q) : Ev E mi_X6_nameHere 99 [(0, .ref (ad E 54)), (1, .int x1), (3, .int x3)] [.int s0] M Q := by
  unfold f_X6_nameHere_99 at h
  refine Ev.istore_n dX6_nameHere_99 rfl (Nat.le_of_ble_eq_true rfl) rfl ?_
  show Ev E mi_X6_nameHere 100 [(2, .int s0), (0, .ref (ad E 54)), (1, .int x1), (3, .int x3)] [] M Q
  refine Ev.iinc (v := x3 + 1) dX6_nameHere_100 3 rfl rfl (Nat.le_of_ble_eq_true rfl) rfl ?_
  show Ev E mi_X6_nameHere 103 [(3, .int (x3 + 1)), (2, .int s0), (0, .ref (ad E 54)), (1, .int x1)] [] M Q
  refine Ev.goto (tgt := 51) dX6_nameHere_103 (by decide) ?_
  refine Ev.sub [2, 3, 1, 0] rfl ?_
  exact ht51 _ _ _ h
noncomputable def f_X6_nameHere_106 (M : Mem) (t2 : Int32 → Option Int32) (x1 : Int32) (x2 : Int32) : Option Int32 := if x2 = 0 then t2 (x1 + 1) else some x1
theorem o_X6_nameHere_106 {E : GE} {Q : Option Value → Mem → Prop} {M : Mem} {t2 : Int32 → Option Int32} {x1 : Int32} {x2 : Int32} (ht2 : ∀ (x1 : Int32), wp (t2 x1) (gI M) Q → Ev E mi_X6_nameHere 2 [(0, .ref (ad E 54)), (1, .int x1)] [] M Q) (h : wp (f_X6_nameHere_106 M t2 x1 x2) (gI M) Q) : Ev E mi_X6_nameHere 106 [(0, .ref (ad E 54)), (1, .int x1), (2, .int x2)] [] M Q := by
  unfold f_X6_nameHere_106 at h
  refine Ev.iload_n dX6_nameHere_106 rfl 2 rfl ?_
  refine Ev.if_eq (tgt := 112) dX6_nameHere_107 (by decide) (fun c1 => ?_) (fun c1 => ?_)
  · replace h := wp_t c1 h
    refine Ev.iinc (v := x1 + 1) dX6_nameHere_112 1 rfl rfl (Nat.le_of_ble_eq_true rfl) rfl ?_
    show Ev E mi_X6_nameHere 115 [(1, .int (x1 + 1)), (0, .ref (ad E 54)), (2, .int x2)] [] M Q
    refine Ev.goto (tgt := 2) dX6_nameHere_115 (by decide) ?_
    refine Ev.sub [1, 0] rfl ?_
    exact ht2 _ h
  · replace h := wp_f c1 h
    refine Ev.iload_n dX6_nameHere_110 rfl 1 rfl ?_
    exact Ev.ret dX6_nameHere_111 rfl rfl (wp_ret h)
noncomputable def f_X6_nameHere_51 (M : Mem) (t2 : Int32 → Option Int32) : Nat → Int32 → Int32 → Int32 → Option Int32
  | 0, _, _, _ => none
  | n + 1, x1, x2, x3 => if x2 = 0 then f_X6_nameHere_106 M t2 x1 x2 else if ((M 54 13) - (M 54 14)) ≤ x3 then f_X6_nameHere_106 M t2 x1 x2 else (f_X6_byteAt ((M 54 14) + x3) M).bind fun r3 => rd (M 59) 9 x1 fun r5 => rd (M 60) 38 (r5 + x3) fun r7 => if r3 = r7 then f_X6_nameHere_99 M (f_X6_nameHere_51 M t2 n) x1 x3 1 else f_X6_nameHere_99 M (f_X6_nameHere_51 M t2 n) x1 x3 0
theorem o_X6_nameHere_51 {E : GE} {Q : Option Value → Mem → Prop} {M : Mem} {t2 : Int32 → Option Int32} (ht2 : ∀ (x1 : Int32), wp (t2 x1) (gI M) Q → Ev E mi_X6_nameHere 2 [(0, .ref (ad E 54)), (1, .int x1)] [] M Q) : ∀ (n : Nat) {x1 : Int32} {x2 : Int32} {x3 : Int32}, wp (f_X6_nameHere_51 M t2 n x1 x2 x3) (gI M) Q → Ev E mi_X6_nameHere 51 [(0, .ref (ad E 54)), (1, .int x1), (2, .int x2), (3, .int x3)] [] M Q := by
  intro n
  induction n with
  | zero => intro _ _ _ h; exact absurd h wp_none
  | succ n ih =>
    intro x1 x2 x3 h
    unfold f_X6_nameHere_51 at h
    refine Ev.iload_n dX6_nameHere_51 rfl 2 rfl ?_
    refine Ev.if_eq (tgt := 106) dX6_nameHere_52 (by decide) (fun c1 => ?_) (fun c1 => ?_)
    · replace h := wp_t c1 h
      refine Ev.sub [0, 1, 2] rfl ?_
      exact o_X6_nameHere_106 ht2 h
    · replace h := wp_f c1 h
      refine Ev.iload_n dX6_nameHere_55 rfl 3 rfl ?_
      refine Ev.aload_n dX6_nameHere_56 rfl 0 rfl ?_
      refine Ev.get dX6_nameHere_57 fl_X6_93 rfl (Nat.le_of_ble_eq_true rfl) rfl ?_
      refine Ev.aload_n dX6_nameHere_60 rfl 0 rfl ?_
      refine Ev.get dX6_nameHere_61 fl_X6_84 rfl (Nat.le_of_ble_eq_true rfl) rfl ?_
      refine Ev.isub dX6_nameHere_64 ?_
      refine Ev.icmp_ge (tgt := 106) dX6_nameHere_65 (by decide) (fun c2 => ?_) (fun c2 => ?_)
      · replace h := wp_t c2 h
        refine Ev.sub [0, 1, 2] rfl ?_
        exact o_X6_nameHere_106 ht2 h
      · replace h := wp_f c2 h
        refine Ev.aload_n dX6_nameHere_68 rfl 0 rfl ?_
        refine Ev.aload_n dX6_nameHere_69 rfl 0 rfl ?_
        refine Ev.get dX6_nameHere_70 fl_X6_84 rfl (Nat.le_of_ble_eq_true rfl) rfl ?_
        refine Ev.iload_n dX6_nameHere_73 rfl 3 rfl ?_
        refine Ev.iadd dX6_nameHere_74 ?_
        obtain ⟨r3, er3, h⟩ := wp_bind h
        refine Ev.callV (k := 54) (as := [.int ((M 54 14) + x3)]) (rest := []) dX6_nameHere_75 cl_X6_96 mok_X6_byteAt rfl (Nat.le_of_ble_eq_true rfl) (Nat.le_of_ble_eq_true rfl) ⟨Nat.le_of_ble_eq_true rfl, Nat.le_of_ble_eq_true rfl⟩ (Nat.le_of_ble_eq_true rfl) rfl rfl (o_X6_byteAt ⟨r3, er3, ?_⟩)
        show Ev E mi_X6_nameHere 78 [(0, .ref (ad E 54)), (1, .int x1), (2, .int x2), (3, .int x3)] [.int r3] M Q
        refine Ev.aload_n dX6_nameHere_78 rfl 0 rfl ?_
        refine Ev.get dX6_nameHere_79 fl_X6_25 rfl (Nat.le_of_ble_eq_true rfl) (v := .ref (ad E 60)) rfl ?_
        refine Ev.aload_n dX6_nameHere_82 rfl 0 rfl ?_
        refine Ev.get dX6_nameHere_83 fl_X6_22 rfl (Nat.le_of_ble_eq_true rfl) (v := .ref (ad E 59)) rfl ?_
        refine Ev.iload_n dX6_nameHere_86 rfl 1 rfl ?_
        obtain ⟨g4, h⟩ := wp_rd h
        refine Ev.iald dX6_nameHere_87 rfl (Nat.le_of_ble_eq_true rfl) rfl g4 ?_
        refine Ev.topi (fun r5 er5 => ?_)
        replace h := h r5 er5
        refine Ev.iload_n dX6_nameHere_88 rfl 3 rfl ?_
        refine Ev.iadd dX6_nameHere_89 ?_
        obtain ⟨g6, h⟩ := wp_rd h
        refine Ev.iald dX6_nameHere_90 rfl (Nat.le_of_ble_eq_true rfl) rfl g6 ?_
        refine Ev.topi (fun r7 er7 => ?_)
        replace h := h r7 er7
        refine Ev.icmp_ne (tgt := 98) dX6_nameHere_91 (by decide) (fun c8 => ?_) (fun c8 => ?_)
        · replace h := wp_t c8 h
          refine Ev.iconst (v := 1) dX6_nameHere_94 rfl ?_
          refine Ev.goto (tgt := 99) dX6_nameHere_95 (by decide) ?_
          refine Ev.sub [0, 1, 3] rfl ?_
          exact o_X6_nameHere_99 (fun _ _ _ h => ih h) h
        · replace h := wp_f c8 h
          refine Ev.iconst (v := 0) dX6_nameHere_98 rfl ?_
          refine Ev.sub [0, 1, 3] rfl ?_
          exact o_X6_nameHere_99 (fun _ _ _ h => ih h) h
noncomputable def f_X6_nameHere_48 (M : Mem) (t2 : Int32 → Option Int32) (x1 : Int32) (s0 : Int32) : Option Int32 := f_X6_nameHere_51 M t2 FU x1 s0 0
theorem o_X6_nameHere_48 {E : GE} {Q : Option Value → Mem → Prop} {M : Mem} {t2 : Int32 → Option Int32} {x1 : Int32} {s0 : Int32} (ht2 : ∀ (x1 : Int32), wp (t2 x1) (gI M) Q → Ev E mi_X6_nameHere 2 [(0, .ref (ad E 54)), (1, .int x1)] [] M Q) (h : wp (f_X6_nameHere_48 M t2 x1 s0) (gI M) Q) : Ev E mi_X6_nameHere 48 [(0, .ref (ad E 54)), (1, .int x1)] [.int s0] M Q := by
  unfold f_X6_nameHere_48 at h
  refine Ev.istore_n dX6_nameHere_48 rfl (Nat.le_of_ble_eq_true rfl) rfl ?_
  show Ev E mi_X6_nameHere 49 [(2, .int s0), (0, .ref (ad E 54)), (1, .int x1)] [] M Q
  refine Ev.iconst (v := 0) dX6_nameHere_49 rfl ?_
  refine Ev.istore_n dX6_nameHere_50 rfl (Nat.le_of_ble_eq_true rfl) rfl ?_
  show Ev E mi_X6_nameHere 51 [(3, .int 0), (2, .int s0), (0, .ref (ad E 54)), (1, .int x1)] [] M Q
  refine Ev.sub [2, 3, 1, 0] rfl ?_
  exact o_X6_nameHere_51 ht2 FU h
noncomputable def f_X6_nameHere_2 (M : Mem) : Nat → Int32 → Option Int32
  | 0, _ => none
  | n + 1, x1 => if 8 ≤ x1 then some (-4) else if (M 54 15) = 1 then rd (M 59) 9 (x1 + 1) fun r4 => rd (M 59) 9 x1 fun r6 => if ((M 54 13) - (M 54 14)) = (r4 - r6) then f_X6_nameHere_48 M (f_X6_nameHere_2 M n) x1 1 else f_X6_nameHere_48 M (f_X6_nameHere_2 M n) x1 0 else some (-4)
theorem o_X6_nameHere_2 {E : GE} {Q : Option Value → Mem → Prop} {M : Mem} : ∀ (n : Nat) {x1 : Int32}, wp (f_X6_nameHere_2 M n x1) (gI M) Q → Ev E mi_X6_nameHere 2 [(0, .ref (ad E 54)), (1, .int x1)] [] M Q := by
  intro n
  induction n with
  | zero => intro _ h; exact absurd h wp_none
  | succ n ih =>
    intro x1 h
    unfold f_X6_nameHere_2 at h
    refine Ev.iload_n dX6_nameHere_2 rfl 1 rfl ?_
    refine Ev.bipush (v := 8) dX6_nameHere_3 rfl ?_
    refine Ev.icmp_ge (tgt := 118) dX6_nameHere_5 (by decide) (fun c1 => ?_) (fun c1 => ?_)
    · replace h := wp_t c1 h
      refine Ev.bipush (v := (-4)) dX6_nameHere_118 rfl ?_
      exact Ev.ret dX6_nameHere_120 rfl rfl (wp_ret h)
    · replace h := wp_f c1 h
      refine Ev.aload_n dX6_nameHere_8 rfl 0 rfl ?_
      refine Ev.get dX6_nameHere_9 fl_X6_90 rfl (Nat.le_of_ble_eq_true rfl) rfl ?_
      refine Ev.iconst (v := 1) dX6_nameHere_12 rfl ?_
      refine Ev.icmp_ne (tgt := 118) dX6_nameHere_13 (by decide) (fun c2 => ?_) (fun c2 => ?_)
      · replace h := wp_t c2 h
        refine Ev.aload_n dX6_nameHere_16 rfl 0 rfl ?_
        refine Ev.get dX6_nameHere_17 fl_X6_93 rfl (Nat.le_of_ble_eq_true rfl) rfl ?_
        refine Ev.aload_n dX6_nameHere_20 rfl 0 rfl ?_
        refine Ev.get dX6_nameHere_21 fl_X6_84 rfl (Nat.le_of_ble_eq_true rfl) rfl ?_
        refine Ev.isub dX6_nameHere_24 ?_
        refine Ev.aload_n dX6_nameHere_25 rfl 0 rfl ?_
        refine Ev.get dX6_nameHere_26 fl_X6_22 rfl (Nat.le_of_ble_eq_true rfl) (v := .ref (ad E 59)) rfl ?_
        refine Ev.iload_n dX6_nameHere_29 rfl 1 rfl ?_
        refine Ev.iconst (v := 1) dX6_nameHere_30 rfl ?_
        refine Ev.iadd dX6_nameHere_31 ?_
        obtain ⟨g3, h⟩ := wp_rd h
        refine Ev.iald dX6_nameHere_32 rfl (Nat.le_of_ble_eq_true rfl) rfl g3 ?_
        refine Ev.topi (fun r4 er4 => ?_)
        replace h := h r4 er4
        refine Ev.aload_n dX6_nameHere_33 rfl 0 rfl ?_
        refine Ev.get dX6_nameHere_34 fl_X6_22 rfl (Nat.le_of_ble_eq_true rfl) (v := .ref (ad E 59)) rfl ?_
        refine Ev.iload_n dX6_nameHere_37 rfl 1 rfl ?_
        obtain ⟨g5, h⟩ := wp_rd h
        refine Ev.iald dX6_nameHere_38 rfl (Nat.le_of_ble_eq_true rfl) rfl g5 ?_
        refine Ev.topi (fun r6 er6 => ?_)
        replace h := h r6 er6
        refine Ev.isub dX6_nameHere_39 ?_
        refine Ev.icmp_ne (tgt := 47) dX6_nameHere_40 (by decide) (fun c7 => ?_) (fun c7 => ?_)
        · replace h := wp_t c7 h
          refine Ev.iconst (v := 1) dX6_nameHere_43 rfl ?_
          refine Ev.goto (tgt := 48) dX6_nameHere_44 (by decide) ?_
          exact o_X6_nameHere_48 (fun _ h => ih h) h
        · replace h := wp_f c7 h
          refine Ev.iconst (v := 0) dX6_nameHere_47 rfl ?_
          exact o_X6_nameHere_48 (fun _ h => ih h) h
      · replace h := wp_f c2 h
        refine Ev.bipush (v := (-4)) dX6_nameHere_118 rfl ?_
        exact Ev.ret dX6_nameHere_120 rfl rfl (wp_ret h)
noncomputable def f_X6_nameHere (M : Mem) : Option Int32 := f_X6_nameHere_2 M FU 0
theorem o_X6_nameHere {E : GE} {Q : Option Value → Mem → Prop} {M : Mem} (h : wp (f_X6_nameHere M) (gI M) Q) : Runs E mi_X6_nameHere [.ref (ad E 54)] M Q := by
  refine Runs.ofEv (by decide +kernel) (Nat.le_of_ble_eq_true rfl) ?_
  show Ev E mi_X6_nameHere 0 [(0, .ref (ad E 54))] [] M Q
  unfold f_X6_nameHere at h
  refine Ev.iconst (v := 0) dX6_nameHere_0 rfl ?_
  refine Ev.istore_n dX6_nameHere_1 rfl (Nat.le_of_ble_eq_true rfl) rfl ?_
  show Ev E mi_X6_nameHere 2 [(1, .int 0), (0, .ref (ad E 54))] [] M Q
  refine Ev.sub [1, 0] rfl ?_
  exact o_X6_nameHere_2 FU h

noncomputable def f_X6_step_118 (M : Mem) : Option Mem := lm (up M 54 15 1) fun M1 => some M1
theorem o_X6_step_118 {E : GE} {Q : Option Value → Mem → Prop} {M : Mem} (h : wp (f_X6_step_118 M) gVM Q) : Ev E mi_X6_step 118 [(0, .ref (ad E 54))] [] M Q := by
  unfold f_X6_step_118 at h
  refine Ev.aload_n dX6_step_118 rfl 0 rfl ?_
  refine Ev.iconst (v := 1) dX6_step_119 rfl ?_
  refine Ev.putA dX6_step_120 fl_X6_90 rfl (Nat.le_of_ble_eq_true rfl) rfl rfl pf_I rfl rfl ?_
  refine Ev.topM (fun M1 eM1 => ?_)
  replace h := wp_lm h M1 eM1
  refine Ev.goto (tgt := 269) dX6_step_123 (by decide) ?_
  exact Ev.vret dX6_step_269 rfl (wp_ret h)
noncomputable def f_X6_step_84 : Nat → Mem → Option Mem
  | 0, _ => none
  | n + 1, M => (f_X6_byteAt (M 54 13) M).bind fun r1 => (f_X6_in r1.toInt64 97 122 M).bind fun r2 => if r2 = 0 then f_X6_step_118 M else lm (up M 54 13 ((M 54 13) + 1)) fun M4 => (f_X6_step_84 n) M4
theorem o_X6_step_84 {E : GE} {Q : Option Value → Mem → Prop} : ∀ (n : Nat) {M : Mem}, wp (f_X6_step_84 n M) gVM Q → Ev E mi_X6_step 84 [(0, .ref (ad E 54))] [] M Q := by
  intro n
  induction n with
  | zero => intro _ h; exact absurd h wp_none
  | succ n ih =>
    intro M h
    unfold f_X6_step_84 at h
    refine Ev.aload_n dX6_step_84 rfl 0 rfl ?_
    refine Ev.aload_n dX6_step_85 rfl 0 rfl ?_
    refine Ev.get dX6_step_86 fl_X6_93 rfl (Nat.le_of_ble_eq_true rfl) rfl ?_
    obtain ⟨r1, er1, h⟩ := wp_bind h
    refine Ev.callV (k := 54) (as := [.int (M 54 13)]) (rest := []) dX6_step_89 cl_X6_96 mok_X6_byteAt rfl (Nat.le_of_ble_eq_true rfl) (Nat.le_of_ble_eq_true rfl) ⟨Nat.le_of_ble_eq_true rfl, Nat.le_of_ble_eq_true rfl⟩ (Nat.le_of_ble_eq_true rfl) rfl rfl (o_X6_byteAt ⟨r1, er1, ?_⟩)
    show Ev E mi_X6_step 92 [(0, .ref (ad E 54))] [.int r1] M Q
    refine Ev.i2l dX6_step_92 ?_
    refine Ev.ldc2 dX6_step_93 fc_X6_103 ?_
    refine Ev.ldc2 dX6_step_96 fc_X6_105 ?_
    obtain ⟨r2, er2, h⟩ := wp_bind h
    refine Ev.callS (as := [.long r1.toInt64, .long 97, .long 122]) (rest := []) dX6_step_99 cl_X6_73 mos_X6_in ⟨Nat.le_of_ble_eq_true rfl, Nat.le_of_ble_eq_true rfl⟩ (Nat.le_of_ble_eq_true rfl) rfl rfl (o_X6_in ⟨r2, er2, ?_⟩)
    show Ev E mi_X6_step 102 [(0, .ref (ad E 54))] [.int r2] M Q
    refine Ev.if_eq (tgt := 118) dX6_step_102 (by decide) (fun c3 => ?_) (fun c3 => ?_)
    · replace h := wp_t c3 h
      exact o_X6_step_118 h
    · replace h := wp_f c3 h
      refine Ev.aload_n dX6_step_105 rfl 0 rfl ?_
      refine Ev.dup dX6_step_106 rfl ?_
      refine Ev.get dX6_step_107 fl_X6_93 rfl (Nat.le_of_ble_eq_true rfl) rfl ?_
      refine Ev.iconst (v := 1) dX6_step_110 rfl ?_
      refine Ev.iadd dX6_step_111 ?_
      refine Ev.putA dX6_step_112 fl_X6_93 rfl (Nat.le_of_ble_eq_true rfl) rfl rfl pf_I rfl rfl ?_
      refine Ev.topM (fun M4 eM4 => ?_)
      replace h := wp_lm h M4 eM4
      refine Ev.goto (tgt := 84) dX6_step_115 (by decide) ?_
      exact ih h
noncomputable def f_X6_step_201 (t140 : Mem → Option Mem) (s1 : Int32) (M : Mem) : Option Mem := lm (up M 54 16 s1) fun M1 => lm (up M1 54 13 ((M1 54 13) + 1)) fun M2 => t140 M2
theorem o_X6_step_201 {E : GE} {Q : Option Value → Mem → Prop} {t140 : Mem → Option Mem} {s1 : Int32} {M : Mem} (ht140 : ∀  (M : Mem), wp (t140 M) gVM Q → Ev E mi_X6_step 140 [(0, .ref (ad E 54))] [] M Q) (h : wp (f_X6_step_201 t140 s1 M) gVM Q) : Ev E mi_X6_step 201 [(0, .ref (ad E 54))] [.int s1, .ref (ad E 54)] M Q := by
  unfold f_X6_step_201 at h
  refine Ev.putA dX6_step_201 fl_X6_100 rfl (Nat.le_of_ble_eq_true rfl) rfl rfl pf_I rfl rfl ?_
  refine Ev.topM (fun M1 eM1 => ?_)
  replace h := wp_lm h M1 eM1
  refine Ev.aload_n dX6_step_204 rfl 0 rfl ?_
  refine Ev.dup dX6_step_205 rfl ?_
  refine Ev.get dX6_step_206 fl_X6_93 rfl (Nat.le_of_ble_eq_true rfl) rfl ?_
  refine Ev.iconst (v := 1) dX6_step_209 rfl ?_
  refine Ev.iadd dX6_step_210 ?_
  refine Ev.putA dX6_step_211 fl_X6_93 rfl (Nat.le_of_ble_eq_true rfl) rfl rfl pf_I rfl rfl ?_
  refine Ev.topM (fun M2 eM2 => ?_)
  replace h := wp_lm h M2 eM2
  refine Ev.goto (tgt := 140) dX6_step_214 (by decide) ?_
  exact ht140 _ h
noncomputable def f_X6_step_217 (M : Mem) : Option Mem := lm (up M 54 15 2) fun M1 => if ((M1 54 13) - (M1 54 14)) ≤ 2 then some M1 else (f_X6_fails 1 M1).bind fun r3 => some r3
theorem o_X6_step_217 {E : GE} {Q : Option Value → Mem → Prop} {M : Mem} (h : wp (f_X6_step_217 M) gVM Q) : Ev E mi_X6_step 217 [(0, .ref (ad E 54))] [] M Q := by
  unfold f_X6_step_217 at h
  refine Ev.aload_n dX6_step_217 rfl 0 rfl ?_
  refine Ev.iconst (v := 2) dX6_step_218 rfl ?_
  refine Ev.putA dX6_step_219 fl_X6_90 rfl (Nat.le_of_ble_eq_true rfl) rfl rfl pf_I rfl rfl ?_
  refine Ev.topM (fun M1 eM1 => ?_)
  replace h := wp_lm h M1 eM1
  refine Ev.aload_n dX6_step_222 rfl 0 rfl ?_
  refine Ev.get dX6_step_223 fl_X6_93 rfl (Nat.le_of_ble_eq_true rfl) rfl ?_
  refine Ev.aload_n dX6_step_226 rfl 0 rfl ?_
  refine Ev.get dX6_step_227 fl_X6_84 rfl (Nat.le_of_ble_eq_true rfl) rfl ?_
  refine Ev.isub dX6_step_230 ?_
  refine Ev.iconst (v := 2) dX6_step_231 rfl ?_
  refine Ev.icmp_le (tgt := 269) dX6_step_232 (by decide) (fun c2 => ?_) (fun c2 => ?_)
  · replace h := wp_t c2 h
    exact Ev.vret dX6_step_269 rfl (wp_ret h)
  · replace h := wp_f c2 h
    refine Ev.aload_n dX6_step_235 rfl 0 rfl ?_
    refine Ev.iconst (v := 1) dX6_step_236 rfl ?_
    obtain ⟨r3, er3, h⟩ := wp_bind h
    refine Ev.callV (k := 54) (as := [.int 1]) (rest := []) dX6_step_237 cl_X6_111 mok_X6_fails rfl (Nat.le_of_ble_eq_true rfl) (Nat.le_of_ble_eq_true rfl) ⟨Nat.le_of_ble_eq_true rfl, Nat.le_of_ble_eq_true rfl⟩ (Nat.le_of_ble_eq_true rfl) rfl rfl (o_X6_fails ⟨r3, er3, ?_⟩)
    show Ev E mi_X6_step 240 [(0, .ref (ad E 54))] [] r3 Q
    refine Ev.goto (tgt := 269) dX6_step_240 (by decide) ?_
    exact Ev.vret dX6_step_269 rfl (wp_ret h)
noncomputable def f_X6_step_140 : Nat → Mem → Option Mem
  | 0, _ => none
  | n + 1, M => (f_X6_byteAt (M 54 13) M).bind fun r1 => (f_X6_in r1.toInt64 48 57 M).bind fun r2 => if r2 = 0 then f_X6_step_217 M else if 2 ≤ ((M 54 13) - (M 54 14)) then f_X6_step_201 (f_X6_step_140 n) (M 54 16) M else (f_X6_byteAt (M 54 13) M).bind fun r5 => f_X6_step_201 (f_X6_step_140 n) (((10 * (M 54 16)) + r5) - 48) M
theorem o_X6_step_140 {E : GE} {Q : Option Value → Mem → Prop} : ∀ (n : Nat) {M : Mem}, wp (f_X6_step_140 n M) gVM Q → Ev E mi_X6_step 140 [(0, .ref (ad E 54))] [] M Q := by
  intro n
  induction n with
  | zero => intro _ h; exact absurd h wp_none
  | succ n ih =>
    intro M h
    unfold f_X6_step_140 at h
    refine Ev.aload_n dX6_step_140 rfl 0 rfl ?_
    refine Ev.aload_n dX6_step_141 rfl 0 rfl ?_
    refine Ev.get dX6_step_142 fl_X6_93 rfl (Nat.le_of_ble_eq_true rfl) rfl ?_
    obtain ⟨r1, er1, h⟩ := wp_bind h
    refine Ev.callV (k := 54) (as := [.int (M 54 13)]) (rest := []) dX6_step_145 cl_X6_96 mok_X6_byteAt rfl (Nat.le_of_ble_eq_true rfl) (Nat.le_of_ble_eq_true rfl) ⟨Nat.le_of_ble_eq_true rfl, Nat.le_of_ble_eq_true rfl⟩ (Nat.le_of_ble_eq_true rfl) rfl rfl (o_X6_byteAt ⟨r1, er1, ?_⟩)
    show Ev E mi_X6_step 148 [(0, .ref (ad E 54))] [.int r1] M Q
    refine Ev.i2l dX6_step_148 ?_
    refine Ev.ldc2 dX6_step_149 fc_X6_107 ?_
    refine Ev.ldc2 dX6_step_152 fc_X6_109 ?_
    obtain ⟨r2, er2, h⟩ := wp_bind h
    refine Ev.callS (as := [.long r1.toInt64, .long 48, .long 57]) (rest := []) dX6_step_155 cl_X6_73 mos_X6_in ⟨Nat.le_of_ble_eq_true rfl, Nat.le_of_ble_eq_true rfl⟩ (Nat.le_of_ble_eq_true rfl) rfl rfl (o_X6_in ⟨r2, er2, ?_⟩)
    show Ev E mi_X6_step 158 [(0, .ref (ad E 54))] [.int r2] M Q
    refine Ev.if_eq (tgt := 217) dX6_step_158 (by decide) (fun c3 => ?_) (fun c3 => ?_)
    · replace h := wp_t c3 h
      exact o_X6_step_217 h
    · replace h := wp_f c3 h
      refine Ev.aload_n dX6_step_161 rfl 0 rfl ?_
      refine Ev.aload_n dX6_step_162 rfl 0 rfl ?_
      refine Ev.get dX6_step_163 fl_X6_93 rfl (Nat.le_of_ble_eq_true rfl) rfl ?_
      refine Ev.aload_n dX6_step_166 rfl 0 rfl ?_
      refine Ev.get dX6_step_167 fl_X6_84 rfl (Nat.le_of_ble_eq_true rfl) rfl ?_
      refine Ev.isub dX6_step_170 ?_
      refine Ev.iconst (v := 2) dX6_step_171 rfl ?_
      refine Ev.icmp_ge (tgt := 197) dX6_step_172 (by decide) (fun c4 => ?_) (fun c4 => ?_)
      · replace h := wp_t c4 h
        refine Ev.aload_n dX6_step_197 rfl 0 rfl ?_
        refine Ev.get dX6_step_198 fl_X6_100 rfl (Nat.le_of_ble_eq_true rfl) rfl ?_
        exact o_X6_step_201 (fun _ h => ih h) h
      · replace h := wp_f c4 h
        refine Ev.bipush (v := 10) dX6_step_175 rfl ?_
        refine Ev.aload_n dX6_step_177 rfl 0 rfl ?_
        refine Ev.get dX6_step_178 fl_X6_100 rfl (Nat.le_of_ble_eq_true rfl) rfl ?_
        refine Ev.imul dX6_step_181 ?_
        refine Ev.aload_n dX6_step_182 rfl 0 rfl ?_
        refine Ev.aload_n dX6_step_183 rfl 0 rfl ?_
        refine Ev.get dX6_step_184 fl_X6_93 rfl (Nat.le_of_ble_eq_true rfl) rfl ?_
        obtain ⟨r5, er5, h⟩ := wp_bind h
        refine Ev.callV (k := 54) (as := [.int (M 54 13)]) (rest := [.int (10 * (M 54 16)), .ref (ad E 54)]) dX6_step_187 cl_X6_96 mok_X6_byteAt rfl (Nat.le_of_ble_eq_true rfl) (Nat.le_of_ble_eq_true rfl) ⟨Nat.le_of_ble_eq_true rfl, Nat.le_of_ble_eq_true rfl⟩ (Nat.le_of_ble_eq_true rfl) rfl rfl (o_X6_byteAt ⟨r5, er5, ?_⟩)
        show Ev E mi_X6_step 190 [(0, .ref (ad E 54))] [.int r5, .int (10 * (M 54 16)), .ref (ad E 54)] M Q
        refine Ev.iadd dX6_step_190 ?_
        refine Ev.bipush (v := 48) dX6_step_191 rfl ?_
        refine Ev.isub dX6_step_193 ?_
        refine Ev.goto (tgt := 201) dX6_step_194 (by decide) ?_
        exact o_X6_step_201 (fun _ h => ih h) h
noncomputable def f_X6_step_34 (M : Mem) : Option Mem := lm (up M 54 14 (M 54 13)) fun M1 => (f_X6_byteAt (M1 54 13) M1).bind fun r2 => lm (up M1 54 16 0) fun M3 => if r2 = (-4) then lm (up M3 54 15 0) fun M5 => some M5 else (f_X6_in r2.toInt64 97 122 M3).bind fun r6 => if r6 = 0 then (f_X6_in r2.toInt64 48 57 M3).bind fun r8 => if r8 = 0 then lm (up M3 54 15 3) fun M10 => lm (up M10 54 13 ((M10 54 13) + 1)) fun M11 => if r2 = 59 then some M11 else (f_X6_fails 1 M11).bind fun r13 => some r13 else f_X6_step_140 FU M3 else f_X6_step_84 FU M3
theorem o_X6_step_34 {E : GE} {Q : Option Value → Mem → Prop} {M : Mem} (h : wp (f_X6_step_34 M) gVM Q) : Ev E mi_X6_step 34 [(0, .ref (ad E 54))] [] M Q := by
  unfold f_X6_step_34 at h
  refine Ev.aload_n dX6_step_34 rfl 0 rfl ?_
  refine Ev.aload_n dX6_step_35 rfl 0 rfl ?_
  refine Ev.get dX6_step_36 fl_X6_93 rfl (Nat.le_of_ble_eq_true rfl) rfl ?_
  refine Ev.putA dX6_step_39 fl_X6_84 rfl (Nat.le_of_ble_eq_true rfl) rfl rfl pf_I rfl rfl ?_
  refine Ev.topM (fun M1 eM1 => ?_)
  replace h := wp_lm h M1 eM1
  refine Ev.aload_n dX6_step_42 rfl 0 rfl ?_
  refine Ev.aload_n dX6_step_43 rfl 0 rfl ?_
  refine Ev.get dX6_step_44 fl_X6_93 rfl (Nat.le_of_ble_eq_true rfl) rfl ?_
  obtain ⟨r2, er2, h⟩ := wp_bind h
  refine Ev.callV (k := 54) (as := [.int (M1 54 13)]) (rest := []) dX6_step_47 cl_X6_96 mok_X6_byteAt rfl (Nat.le_of_ble_eq_true rfl) (Nat.le_of_ble_eq_true rfl) ⟨Nat.le_of_ble_eq_true rfl, Nat.le_of_ble_eq_true rfl⟩ (Nat.le_of_ble_eq_true rfl) rfl rfl (o_X6_byteAt ⟨r2, er2, ?_⟩)
  show Ev E mi_X6_step 50 [(0, .ref (ad E 54))] [.int r2] M1 Q
  refine Ev.istore_n dX6_step_50 rfl (Nat.le_of_ble_eq_true rfl) rfl ?_
  show Ev E mi_X6_step 51 [(1, .int r2), (0, .ref (ad E 54))] [] M1 Q
  refine Ev.aload_n dX6_step_51 rfl 1 rfl ?_
  refine Ev.iconst (v := 0) dX6_step_52 rfl ?_
  refine Ev.putA dX6_step_53 fl_X6_100 rfl (Nat.le_of_ble_eq_true rfl) rfl rfl pf_I rfl rfl ?_
  refine Ev.topM (fun M3 eM3 => ?_)
  replace h := wp_lm h M3 eM3
  refine Ev.iload_n dX6_step_56 rfl 0 rfl ?_
  refine Ev.bipush (v := (-4)) dX6_step_57 rfl ?_
  refine Ev.icmp_ne (tgt := 70) dX6_step_59 (by decide) (fun c4 => ?_) (fun c4 => ?_)
  · replace h := wp_t c4 h
    refine Ev.aload_n dX6_step_62 rfl 1 rfl ?_
    refine Ev.iconst (v := 0) dX6_step_63 rfl ?_
    refine Ev.putA dX6_step_64 fl_X6_90 rfl (Nat.le_of_ble_eq_true rfl) rfl rfl pf_I rfl rfl ?_
    refine Ev.topM (fun M5 eM5 => ?_)
    replace h := wp_lm h M5 eM5
    refine Ev.goto (tgt := 269) dX6_step_67 (by decide) ?_
    exact Ev.vret dX6_step_269 rfl (wp_ret h)
  · replace h := wp_f c4 h
    refine Ev.iload_n dX6_step_70 rfl 0 rfl ?_
    refine Ev.i2l dX6_step_71 ?_
    refine Ev.ldc2 dX6_step_72 fc_X6_103 ?_
    refine Ev.ldc2 dX6_step_75 fc_X6_105 ?_
    obtain ⟨r6, er6, h⟩ := wp_bind h
    refine Ev.callS (as := [.long r2.toInt64, .long 97, .long 122]) (rest := []) dX6_step_78 cl_X6_73 mos_X6_in ⟨Nat.le_of_ble_eq_true rfl, Nat.le_of_ble_eq_true rfl⟩ (Nat.le_of_ble_eq_true rfl) rfl rfl (o_X6_in ⟨r6, er6, ?_⟩)
    show Ev E mi_X6_step 81 [(1, .int r2), (0, .ref (ad E 54))] [.int r6] M3 Q
    refine Ev.if_eq (tgt := 126) dX6_step_81 (by decide) (fun c7 => ?_) (fun c7 => ?_)
    · replace h := wp_t c7 h
      refine Ev.iload_n dX6_step_126 rfl 0 rfl ?_
      refine Ev.i2l dX6_step_127 ?_
      refine Ev.ldc2 dX6_step_128 fc_X6_107 ?_
      refine Ev.ldc2 dX6_step_131 fc_X6_109 ?_
      obtain ⟨r8, er8, h⟩ := wp_bind h
      refine Ev.callS (as := [.long r2.toInt64, .long 48, .long 57]) (rest := []) dX6_step_134 cl_X6_73 mos_X6_in ⟨Nat.le_of_ble_eq_true rfl, Nat.le_of_ble_eq_true rfl⟩ (Nat.le_of_ble_eq_true rfl) rfl rfl (o_X6_in ⟨r8, er8, ?_⟩)
      show Ev E mi_X6_step 137 [(1, .int r2), (0, .ref (ad E 54))] [.int r8] M3 Q
      refine Ev.if_eq (tgt := 243) dX6_step_137 (by decide) (fun c9 => ?_) (fun c9 => ?_)
      · replace h := wp_t c9 h
        refine Ev.aload_n dX6_step_243 rfl 1 rfl ?_
        refine Ev.iconst (v := 3) dX6_step_244 rfl ?_
        refine Ev.putA dX6_step_245 fl_X6_90 rfl (Nat.le_of_ble_eq_true rfl) rfl rfl pf_I rfl rfl ?_
        refine Ev.topM (fun M10 eM10 => ?_)
        replace h := wp_lm h M10 eM10
        refine Ev.aload_n dX6_step_248 rfl 1 rfl ?_
        refine Ev.dup dX6_step_249 rfl ?_
        refine Ev.get dX6_step_250 fl_X6_93 rfl (Nat.le_of_ble_eq_true rfl) rfl ?_
        refine Ev.iconst (v := 1) dX6_step_253 rfl ?_
        refine Ev.iadd dX6_step_254 ?_
        refine Ev.putA dX6_step_255 fl_X6_93 rfl (Nat.le_of_ble_eq_true rfl) rfl rfl pf_I rfl rfl ?_
        refine Ev.topM (fun M11 eM11 => ?_)
        replace h := wp_lm h M11 eM11
        refine Ev.iload_n dX6_step_258 rfl 0 rfl ?_
        refine Ev.bipush (v := 59) dX6_step_259 rfl ?_
        refine Ev.icmp_eq (tgt := 269) dX6_step_261 (by decide) (fun c12 => ?_) (fun c12 => ?_)
        · replace h := wp_t c12 h
          exact Ev.vret dX6_step_269 rfl (wp_ret h)
        · replace h := wp_f c12 h
          refine Ev.aload_n dX6_step_264 rfl 1 rfl ?_
          refine Ev.iconst (v := 1) dX6_step_265 rfl ?_
          obtain ⟨r13, er13, h⟩ := wp_bind h
          refine Ev.callV (k := 54) (as := [.int 1]) (rest := []) dX6_step_266 cl_X6_111 mok_X6_fails rfl (Nat.le_of_ble_eq_true rfl) (Nat.le_of_ble_eq_true rfl) ⟨Nat.le_of_ble_eq_true rfl, Nat.le_of_ble_eq_true rfl⟩ (Nat.le_of_ble_eq_true rfl) rfl rfl (o_X6_fails ⟨r13, er13, ?_⟩)
          show Ev E mi_X6_step 269 [(1, .int r2), (0, .ref (ad E 54))] [] r13 Q
          exact Ev.vret dX6_step_269 rfl (wp_ret h)
      · replace h := wp_f c9 h
        refine Ev.sub [1] rfl ?_
        exact o_X6_step_140 FU h
    · replace h := wp_f c7 h
      refine Ev.sub [1] rfl ?_
      exact o_X6_step_84 FU h
noncomputable def f_X6_step_8 : Nat → Mem → Option Mem
  | 0, _ => none
  | n + 1, M => (f_X6_byteAt (M 54 13) M).bind fun r1 => if r1 = 32 then lm (up M 54 13 ((M 54 13) + 1)) fun M3 => (f_X6_step_8 n) M3 else f_X6_step_34 M
theorem o_X6_step_8 {E : GE} {Q : Option Value → Mem → Prop} : ∀ (n : Nat) {M : Mem}, wp (f_X6_step_8 n M) gVM Q → Ev E mi_X6_step 8 [(0, .ref (ad E 54))] [] M Q := by
  intro n
  induction n with
  | zero => intro _ h; exact absurd h wp_none
  | succ n ih =>
    intro M h
    unfold f_X6_step_8 at h
    refine Ev.aload_n dX6_step_8 rfl 0 rfl ?_
    refine Ev.aload_n dX6_step_9 rfl 0 rfl ?_
    refine Ev.get dX6_step_10 fl_X6_93 rfl (Nat.le_of_ble_eq_true rfl) rfl ?_
    obtain ⟨r1, er1, h⟩ := wp_bind h
    refine Ev.callV (k := 54) (as := [.int (M 54 13)]) (rest := []) dX6_step_13 cl_X6_96 mok_X6_byteAt rfl (Nat.le_of_ble_eq_true rfl) (Nat.le_of_ble_eq_true rfl) ⟨Nat.le_of_ble_eq_true rfl, Nat.le_of_ble_eq_true rfl⟩ (Nat.le_of_ble_eq_true rfl) rfl rfl (o_X6_byteAt ⟨r1, er1, ?_⟩)
    show Ev E mi_X6_step 16 [(0, .ref (ad E 54))] [.int r1] M Q
    refine Ev.bipush (v := 32) dX6_step_16 rfl ?_
    refine Ev.icmp_ne (tgt := 34) dX6_step_18 (by decide) (fun c2 => ?_) (fun c2 => ?_)
    · replace h := wp_t c2 h
      refine Ev.aload_n dX6_step_21 rfl 0 rfl ?_
      refine Ev.dup dX6_step_22 rfl ?_
      refine Ev.get dX6_step_23 fl_X6_93 rfl (Nat.le_of_ble_eq_true rfl) rfl ?_
      refine Ev.iconst (v := 1) dX6_step_26 rfl ?_
      refine Ev.iadd dX6_step_27 ?_
      refine Ev.putA dX6_step_28 fl_X6_93 rfl (Nat.le_of_ble_eq_true rfl) rfl rfl pf_I rfl rfl ?_
      refine Ev.topM (fun M3 eM3 => ?_)
      replace h := wp_lm h M3 eM3
      refine Ev.goto (tgt := 8) dX6_step_31 (by decide) ?_
      exact ih h
    · replace h := wp_f c2 h
      exact o_X6_step_34 h
noncomputable def f_X6_step (M : Mem) : Option Mem := if (M 54 11) ≤ 0 then f_X6_step_8 FU M else some M
theorem o_X6_step {E : GE} {Q : Option Value → Mem → Prop} {M : Mem} (h : wp (f_X6_step M) gVM Q) : Runs E mi_X6_step [.ref (ad E 54)] M Q := by
  refine Runs.ofEv (by decide +kernel) (Nat.le_of_ble_eq_true rfl) ?_
  show Ev E mi_X6_step 0 [(0, .ref (ad E 54))] [] M Q
  unfold f_X6_step at h
  refine Ev.aload_n dX6_step_0 rfl 0 rfl ?_
  refine Ev.get dX6_step_1 fl_X6_81 rfl (Nat.le_of_ble_eq_true rfl) rfl ?_
  refine Ev.if_le (tgt := 8) dX6_step_4 (by decide) (fun c1 => ?_) (fun c1 => ?_)
  · replace h := wp_t c1 h
    exact o_X6_step_8 FU h
  · replace h := wp_f c1 h
    exact Ev.vret dX6_step_7 rfl (wp_ret h)

noncomputable def f_X6_other_90 (p1 : Int32) (p2 : Int32) (p3 : Int32) (s0 : Int32) (M : Mem) : Option (Int32 × Mem) := (f_X6_step M).bind fun r1 => some (s0, r1)
theorem o_X6_other_90 {E : GE} {Q : Option Value → Mem → Prop} {p1 : Int32} {p2 : Int32} {p3 : Int32} {s0 : Int32} {M : Mem} (h : wp (f_X6_other_90 p1 p2 p3 s0 M) gIM Q) : Ev E mi_X6_other 90 [(0, .ref (ad E 54))] [.int s0] M Q := by
  unfold f_X6_other_90 at h
  refine Ev.istore dX6_other_90 (Nat.le_of_ble_eq_true rfl) rfl ?_
  show Ev E mi_X6_other 92 [(4, .int s0), (0, .ref (ad E 54))] [] M Q
  refine Ev.aload_n dX6_other_92 rfl 1 rfl ?_
  obtain ⟨r1, er1, h⟩ := wp_bind h
  refine Ev.callV (k := 54) (as := []) (rest := []) dX6_other_93 cl_X6_115 mok_X6_step rfl (Nat.le_of_ble_eq_true rfl) (Nat.le_of_ble_eq_true rfl) ⟨Nat.le_of_ble_eq_true rfl, Nat.le_of_ble_eq_true rfl⟩ (Nat.le_of_ble_eq_true rfl) rfl rfl (o_X6_step ⟨r1, er1, ?_⟩)
  show Ev E mi_X6_other 96 [(4, .int s0), (0, .ref (ad E 54))] [] r1 Q
  refine Ev.iload dX6_other_96 0 rfl ?_
  exact Ev.ret dX6_other_98 rfl rfl (wp_ret h)
noncomputable def f_X6_other_75 (p1 : Int32) (p2 : Int32) (p3 : Int32) (M : Mem) : Option (Int32 × Mem) := if (M 54 11) = 0 then f_X6_other_90 p1 p2 p3 (M 54 16) M else f_X6_other_90 p1 p2 p3 p1 M
theorem o_X6_other_75 {E : GE} {Q : Option Value → Mem → Prop} {p1 : Int32} {p2 : Int32} {p3 : Int32} {M : Mem} (h : wp (f_X6_other_75 p1 p2 p3 M) gIM Q) : Ev E mi_X6_other 75 [(0, .ref (ad E 54)), (1, .int p1)] [] M Q := by
  unfold f_X6_other_75 at h
  refine Ev.aload_n dX6_other_75 rfl 0 rfl ?_
  refine Ev.get dX6_other_76 fl_X6_81 rfl (Nat.le_of_ble_eq_true rfl) rfl ?_
  refine Ev.if_ne (tgt := 89) dX6_other_79 (by decide) (fun c1 => ?_) (fun c1 => ?_)
  · replace h := wp_t c1 h
    refine Ev.aload_n dX6_other_82 rfl 0 rfl ?_
    refine Ev.get dX6_other_83 fl_X6_100 rfl (Nat.le_of_ble_eq_true rfl) rfl ?_
    refine Ev.goto (tgt := 90) dX6_other_86 (by decide) ?_
    refine Ev.sub [0] rfl ?_
    exact o_X6_other_90 h
  · replace h := wp_f c1 h
    refine Ev.iload_n dX6_other_89 rfl 1 rfl ?_
    refine Ev.sub [0] rfl ?_
    exact o_X6_other_90 h
noncomputable def f_X6_other_47 (p1 : Int32) (p2 : Int32) (p3 : Int32) (M : Mem) : Option (Int32 × Mem) := if (M 54 11) = 0 then if p3 = 0 then f_X6_other_75 p1 p2 p3 M else if ((p3 >>> ((M 54 16) &&& 31)) &&& 1) = 1 then (f_X6_fails 4 M).bind fun r4 => f_X6_other_75 p1 p2 p3 r4 else f_X6_other_75 p1 p2 p3 M else f_X6_other_75 p1 p2 p3 M
theorem o_X6_other_47 {E : GE} {Q : Option Value → Mem → Prop} {p1 : Int32} {p2 : Int32} {p3 : Int32} {M : Mem} (h : wp (f_X6_other_47 p1 p2 p3 M) gIM Q) : Ev E mi_X6_other 47 [(0, .ref (ad E 54)), (1, .int p1), (3, .int p3)] [] M Q := by
  unfold f_X6_other_47 at h
  refine Ev.aload_n dX6_other_47 rfl 0 rfl ?_
  refine Ev.get dX6_other_48 fl_X6_81 rfl (Nat.le_of_ble_eq_true rfl) rfl ?_
  refine Ev.if_ne (tgt := 75) dX6_other_51 (by decide) (fun c1 => ?_) (fun c1 => ?_)
  · replace h := wp_t c1 h
    refine Ev.iload_n dX6_other_54 rfl 2 rfl ?_
    refine Ev.if_eq (tgt := 75) dX6_other_55 (by decide) (fun c2 => ?_) (fun c2 => ?_)
    · replace h := wp_t c2 h
      refine Ev.sub [0, 1] rfl ?_
      exact o_X6_other_75 h
    · replace h := wp_f c2 h
      refine Ev.iload_n dX6_other_58 rfl 2 rfl ?_
      refine Ev.aload_n dX6_other_59 rfl 0 rfl ?_
      refine Ev.get dX6_other_60 fl_X6_100 rfl (Nat.le_of_ble_eq_true rfl) rfl ?_
      refine Ev.ishr dX6_other_63 ?_
      refine Ev.iconst (v := 1) dX6_other_64 rfl ?_
      refine Ev.iand dX6_other_65 ?_
      refine Ev.iconst (v := 1) dX6_other_66 rfl ?_
      refine Ev.icmp_ne (tgt := 75) dX6_other_67 (by decide) (fun c3 => ?_) (fun c3 => ?_)
      · replace h := wp_t c3 h
        refine Ev.aload_n dX6_other_70 rfl 0 rfl ?_
        refine Ev.iconst (v := 4) dX6_other_71 rfl ?_
        obtain ⟨r4, er4, h⟩ := wp_bind h
        refine Ev.callV (k := 54) (as := [.int 4]) (rest := []) dX6_other_72 cl_X6_111 mok_X6_fails rfl (Nat.le_of_ble_eq_true rfl) (Nat.le_of_ble_eq_true rfl) ⟨Nat.le_of_ble_eq_true rfl, Nat.le_of_ble_eq_true rfl⟩ (Nat.le_of_ble_eq_true rfl) rfl rfl (o_X6_fails ⟨r4, er4, ?_⟩)
        show Ev E mi_X6_other 75 [(0, .ref (ad E 54)), (1, .int p1), (3, .int p3)] [] r4 Q
        refine Ev.sub [0, 1] rfl ?_
        exact o_X6_other_75 h
      · replace h := wp_f c3 h
        refine Ev.sub [0, 1] rfl ?_
        exact o_X6_other_75 h
  · replace h := wp_f c1 h
    refine Ev.sub [0, 1] rfl ?_
    exact o_X6_other_75 h
noncomputable def f_X6_other_20 (p1 : Int32) (p2 : Int32) (p3 : Int32) (M : Mem) : Option (Int32 × Mem) := if (M 54 11) = 0 then (f_X6_in ((M 54 16).toInt64) p1.toInt64 p2.toInt64 M).bind fun r2 => if r2 = 0 then (f_X6_fails 3 M).bind fun r4 => f_X6_other_47 p1 p2 p3 r4 else f_X6_other_47 p1 p2 p3 M else f_X6_other_47 p1 p2 p3 M
theorem o_X6_other_20 {E : GE} {Q : Option Value → Mem → Prop} {p1 : Int32} {p2 : Int32} {p3 : Int32} {M : Mem} (h : wp (f_X6_other_20 p1 p2 p3 M) gIM Q) : Ev E mi_X6_other 20 [(0, .ref (ad E 54)), (1, .int p1), (2, .int p2), (3, .int p3)] [] M Q := by
  unfold f_X6_other_20 at h
  refine Ev.aload_n dX6_other_20 rfl 0 rfl ?_
  refine Ev.get dX6_other_21 fl_X6_81 rfl (Nat.le_of_ble_eq_true rfl) rfl ?_
  refine Ev.if_ne (tgt := 47) dX6_other_24 (by decide) (fun c1 => ?_) (fun c1 => ?_)
  · replace h := wp_t c1 h
    refine Ev.aload_n dX6_other_27 rfl 0 rfl ?_
    refine Ev.get dX6_other_28 fl_X6_100 rfl (Nat.le_of_ble_eq_true rfl) rfl ?_
    refine Ev.i2l dX6_other_31 ?_
    refine Ev.iload_n dX6_other_32 rfl 1 rfl ?_
    refine Ev.i2l dX6_other_33 ?_
    refine Ev.iload_n dX6_other_34 rfl 2 rfl ?_
    refine Ev.i2l dX6_other_35 ?_
    obtain ⟨r2, er2, h⟩ := wp_bind h
    refine Ev.callS (as := [.long ((M 54 16).toInt64), .long p1.toInt64, .long p2.toInt64]) (rest := []) dX6_other_36 cl_X6_73 mos_X6_in ⟨Nat.le_of_ble_eq_true rfl, Nat.le_of_ble_eq_true rfl⟩ (Nat.le_of_ble_eq_true rfl) rfl rfl (o_X6_in ⟨r2, er2, ?_⟩)
    show Ev E mi_X6_other 39 [(0, .ref (ad E 54)), (1, .int p1), (2, .int p2), (3, .int p3)] [.int r2] M Q
    refine Ev.if_ne (tgt := 47) dX6_other_39 (by decide) (fun c3 => ?_) (fun c3 => ?_)
    · replace h := wp_t c3 h
      refine Ev.aload_n dX6_other_42 rfl 0 rfl ?_
      refine Ev.iconst (v := 3) dX6_other_43 rfl ?_
      obtain ⟨r4, er4, h⟩ := wp_bind h
      refine Ev.callV (k := 54) (as := [.int 3]) (rest := []) dX6_other_44 cl_X6_111 mok_X6_fails rfl (Nat.le_of_ble_eq_true rfl) (Nat.le_of_ble_eq_true rfl) ⟨Nat.le_of_ble_eq_true rfl, Nat.le_of_ble_eq_true rfl⟩ (Nat.le_of_ble_eq_true rfl) rfl rfl (o_X6_fails ⟨r4, er4, ?_⟩)
      show Ev E mi_X6_other 47 [(0, .ref (ad E 54)), (1, .int p1), (2, .int p2), (3, .int p3)] [] r4 Q
      refine Ev.sub [0, 1, 3] rfl ?_
      exact o_X6_other_47 h
    · replace h := wp_f c3 h
      refine Ev.sub [0, 1, 3] rfl ?_
      exact o_X6_other_47 h
  · replace h := wp_f c1 h
    refine Ev.sub [0, 1, 3] rfl ?_
    exact o_X6_other_47 h
noncomputable def f_X6_other (p1 : Int32) (p2 : Int32) (p3 : Int32) (M : Mem) : Option (Int32 × Mem) := if (M 54 11) = 0 then if (M 54 15) = 2 then f_X6_other_20 p1 p2 p3 M else (f_X6_fails 2 M).bind fun r3 => f_X6_other_20 p1 p2 p3 r3 else f_X6_other_20 p1 p2 p3 M
theorem o_X6_other {E : GE} {Q : Option Value → Mem → Prop} {p1 : Int32} {p2 : Int32} {p3 : Int32} {M : Mem} (h : wp (f_X6_other p1 p2 p3 M) gIM Q) : Runs E mi_X6_other [.ref (ad E 54), .int p1, .int p2, .int p3] M Q := by
  refine Runs.ofEv (by decide +kernel) (Nat.le_of_ble_eq_true rfl) ?_
  show Ev E mi_X6_other 0 [(0, .ref (ad E 54)), (1, .int p1), (2, .int p2), (3, .int p3)] [] M Q
  unfold f_X6_other at h
  refine Ev.aload_n dX6_other_0 rfl 0 rfl ?_
  refine Ev.get dX6_other_1 fl_X6_81 rfl (Nat.le_of_ble_eq_true rfl) rfl ?_
  refine Ev.if_ne (tgt := 20) dX6_other_4 (by decide) (fun c1 => ?_) (fun c1 => ?_)
  · replace h := wp_t c1 h
    refine Ev.aload_n dX6_other_7 rfl 0 rfl ?_
    refine Ev.get dX6_other_8 fl_X6_90 rfl (Nat.le_of_ble_eq_true rfl) rfl ?_
    refine Ev.iconst (v := 2) dX6_other_11 rfl ?_
    refine Ev.icmp_eq (tgt := 20) dX6_other_12 (by decide) (fun c2 => ?_) (fun c2 => ?_)
    · replace h := wp_t c2 h
      exact o_X6_other_20 h
    · replace h := wp_f c2 h
      refine Ev.aload_n dX6_other_15 rfl 0 rfl ?_
      refine Ev.iconst (v := 2) dX6_other_16 rfl ?_
      obtain ⟨r3, er3, h⟩ := wp_bind h
      refine Ev.callV (k := 54) (as := [.int 2]) (rest := []) dX6_other_17 cl_X6_111 mok_X6_fails rfl (Nat.le_of_ble_eq_true rfl) (Nat.le_of_ble_eq_true rfl) ⟨Nat.le_of_ble_eq_true rfl, Nat.le_of_ble_eq_true rfl⟩ (Nat.le_of_ble_eq_true rfl) rfl rfl (o_X6_fails ⟨r3, er3, ?_⟩)
      show Ev E mi_X6_other 20 [(0, .ref (ad E 54)), (1, .int p1), (2, .int p2), (3, .int p3)] [] r3 Q
      exact o_X6_other_20 h
  · replace h := wp_f c1 h
    exact o_X6_other_20 h

noncomputable def f_X6_readTub (p1 : Int32) (M : Mem) : Option Mem := rd (M 57) 72 20 fun r2 => inb r2 72 <| lm (up M 57 r2.toNatClampNeg p1) fun M4 => (f_X6_other 0 9 0 M4).bind fun r5 => inb (4 + r2) 72 <| lm (up r5.2 57 (4 + r2).toNatClampNeg r5.1) fun M7 => (f_X6_other 1 9 0 M7).bind fun r8 => inb (8 + r2) 72 <| lm (up r8.2 57 (8 + r2).toNatClampNeg r8.1) fun M10 => (f_X6_other 0 23 0 M10).bind fun r11 => inb (12 + r2) 72 <| lm (up r11.2 57 (12 + r2).toNatClampNeg r11.1) fun M13 => (f_X6_other 1 99 0 M13).bind fun r14 => inb (16 + r2) 72 <| lm (up r14.2 57 (16 + r2).toNatClampNeg r14.1) fun M16 => rd (M16 57) 72 20 fun r18 => inb 20 72 <| lm (up M16 57 (20 : Int32).toNatClampNeg (r18 + 1)) fun M20 => some M20
theorem o_X6_readTub {E : GE} {Q : Option Value → Mem → Prop} {p1 : Int32} {M : Mem} (h : wp (f_X6_readTub p1 M) gVM Q) : Runs E mi_X6_readTub [.ref (ad E 54), .int p1] M Q := by
  refine Runs.ofEv (by decide +kernel) (Nat.le_of_ble_eq_true rfl) ?_
  show Ev E mi_X6_readTub 0 [(0, .ref (ad E 54)), (1, .int p1)] [] M Q
  unfold f_X6_readTub at h
  refine Ev.aload_n dX6_readTub_0 rfl 0 rfl ?_
  refine Ev.get dX6_readTub_1 fl_X6_16 rfl (Nat.le_of_ble_eq_true rfl) (v := .ref (ad E 57)) rfl ?_
  refine Ev.bipush (v := 20) dX6_readTub_4 rfl ?_
  obtain ⟨g1, h⟩ := wp_rd h
  refine Ev.iald dX6_readTub_6 rfl (Nat.le_of_ble_eq_true rfl) rfl g1 ?_
  refine Ev.topi (fun r2 er2 => ?_)
  replace h := h r2 er2
  refine Ev.istore_n dX6_readTub_7 rfl (Nat.le_of_ble_eq_true rfl) rfl ?_
  show Ev E mi_X6_readTub 8 [(2, .int r2), (0, .ref (ad E 54)), (1, .int p1)] [] M Q
  refine Ev.aload_n dX6_readTub_8 rfl 1 rfl ?_
  refine Ev.get dX6_readTub_9 fl_X6_16 rfl (Nat.le_of_ble_eq_true rfl) (v := .ref (ad E 57)) rfl ?_
  refine Ev.iload_n dX6_readTub_12 rfl 0 rfl ?_
  refine Ev.iload_n dX6_readTub_13 rfl 2 rfl ?_
  obtain ⟨g3, h⟩ := wp_inb h
  refine Ev.iast dX6_readTub_14 rfl (Nat.le_of_ble_eq_true rfl) rfl g3 ?_
  refine Ev.topM (fun M4 eM4 => ?_)
  replace h := wp_lm h M4 eM4
  refine Ev.aload_n dX6_readTub_15 rfl 1 rfl ?_
  refine Ev.get dX6_readTub_16 fl_X6_16 rfl (Nat.le_of_ble_eq_true rfl) (v := .ref (ad E 57)) rfl ?_
  refine Ev.iconst (v := 4) dX6_readTub_19 rfl ?_
  refine Ev.iload_n dX6_readTub_20 rfl 0 rfl ?_
  refine Ev.iadd dX6_readTub_21 ?_
  refine Ev.aload_n dX6_readTub_22 rfl 1 rfl ?_
  refine Ev.iconst (v := 0) dX6_readTub_23 rfl ?_
  refine Ev.bipush (v := 9) dX6_readTub_24 rfl ?_
  refine Ev.iconst (v := 0) dX6_readTub_26 rfl ?_
  obtain ⟨r5, er5, h⟩ := wp_bind h
  refine Ev.callV (k := 54) (as := [.int 0, .int 9, .int 0]) (rest := [.int (4 + r2), .ref (ad E 57)]) dX6_readTub_27 cl_X6_118 mok_X6_other rfl (Nat.le_of_ble_eq_true rfl) (Nat.le_of_ble_eq_true rfl) ⟨Nat.le_of_ble_eq_true rfl, Nat.le_of_ble_eq_true rfl⟩ (Nat.le_of_ble_eq_true rfl) rfl rfl (o_X6_other ⟨r5, er5, ?_⟩)
  show Ev E mi_X6_readTub 30 [(2, .int r2), (0, .ref (ad E 54)), (1, .int p1)] [.int r5.1, .int (4 + r2), .ref (ad E 57)] r5.2 Q
  obtain ⟨g6, h⟩ := wp_inb h
  refine Ev.iast dX6_readTub_30 rfl (Nat.le_of_ble_eq_true rfl) rfl g6 ?_
  refine Ev.topM (fun M7 eM7 => ?_)
  replace h := wp_lm h M7 eM7
  refine Ev.aload_n dX6_readTub_31 rfl 1 rfl ?_
  refine Ev.get dX6_readTub_32 fl_X6_16 rfl (Nat.le_of_ble_eq_true rfl) (v := .ref (ad E 57)) rfl ?_
  refine Ev.bipush (v := 8) dX6_readTub_35 rfl ?_
  refine Ev.iload_n dX6_readTub_37 rfl 0 rfl ?_
  refine Ev.iadd dX6_readTub_38 ?_
  refine Ev.aload_n dX6_readTub_39 rfl 1 rfl ?_
  refine Ev.iconst (v := 1) dX6_readTub_40 rfl ?_
  refine Ev.bipush (v := 9) dX6_readTub_41 rfl ?_
  refine Ev.iconst (v := 0) dX6_readTub_43 rfl ?_
  obtain ⟨r8, er8, h⟩ := wp_bind h
  refine Ev.callV (k := 54) (as := [.int 1, .int 9, .int 0]) (rest := [.int (8 + r2), .ref (ad E 57)]) dX6_readTub_44 cl_X6_118 mok_X6_other rfl (Nat.le_of_ble_eq_true rfl) (Nat.le_of_ble_eq_true rfl) ⟨Nat.le_of_ble_eq_true rfl, Nat.le_of_ble_eq_true rfl⟩ (Nat.le_of_ble_eq_true rfl) rfl rfl (o_X6_other ⟨r8, er8, ?_⟩)
  show Ev E mi_X6_readTub 47 [(2, .int r2), (0, .ref (ad E 54)), (1, .int p1)] [.int r8.1, .int (8 + r2), .ref (ad E 57)] r8.2 Q
  obtain ⟨g9, h⟩ := wp_inb h
  refine Ev.iast dX6_readTub_47 rfl (Nat.le_of_ble_eq_true rfl) rfl g9 ?_
  refine Ev.topM (fun M10 eM10 => ?_)
  replace h := wp_lm h M10 eM10
  refine Ev.aload_n dX6_readTub_48 rfl 1 rfl ?_
  refine Ev.get dX6_readTub_49 fl_X6_16 rfl (Nat.le_of_ble_eq_true rfl) (v := .ref (ad E 57)) rfl ?_
  refine Ev.bipush (v := 12) dX6_readTub_52 rfl ?_
  refine Ev.iload_n dX6_readTub_54 rfl 0 rfl ?_
  refine Ev.iadd dX6_readTub_55 ?_
  refine Ev.aload_n dX6_readTub_56 rfl 1 rfl ?_
  refine Ev.iconst (v := 0) dX6_readTub_57 rfl ?_
  refine Ev.bipush (v := 23) dX6_readTub_58 rfl ?_
  refine Ev.iconst (v := 0) dX6_readTub_60 rfl ?_
  obtain ⟨r11, er11, h⟩ := wp_bind h
  refine Ev.callV (k := 54) (as := [.int 0, .int 23, .int 0]) (rest := [.int (12 + r2), .ref (ad E 57)]) dX6_readTub_61 cl_X6_118 mok_X6_other rfl (Nat.le_of_ble_eq_true rfl) (Nat.le_of_ble_eq_true rfl) ⟨Nat.le_of_ble_eq_true rfl, Nat.le_of_ble_eq_true rfl⟩ (Nat.le_of_ble_eq_true rfl) rfl rfl (o_X6_other ⟨r11, er11, ?_⟩)
  show Ev E mi_X6_readTub 64 [(2, .int r2), (0, .ref (ad E 54)), (1, .int p1)] [.int r11.1, .int (12 + r2), .ref (ad E 57)] r11.2 Q
  obtain ⟨g12, h⟩ := wp_inb h
  refine Ev.iast dX6_readTub_64 rfl (Nat.le_of_ble_eq_true rfl) rfl g12 ?_
  refine Ev.topM (fun M13 eM13 => ?_)
  replace h := wp_lm h M13 eM13
  refine Ev.aload_n dX6_readTub_65 rfl 1 rfl ?_
  refine Ev.get dX6_readTub_66 fl_X6_16 rfl (Nat.le_of_ble_eq_true rfl) (v := .ref (ad E 57)) rfl ?_
  refine Ev.bipush (v := 16) dX6_readTub_69 rfl ?_
  refine Ev.iload_n dX6_readTub_71 rfl 0 rfl ?_
  refine Ev.iadd dX6_readTub_72 ?_
  refine Ev.aload_n dX6_readTub_73 rfl 1 rfl ?_
  refine Ev.iconst (v := 1) dX6_readTub_74 rfl ?_
  refine Ev.bipush (v := 99) dX6_readTub_75 rfl ?_
  refine Ev.iconst (v := 0) dX6_readTub_77 rfl ?_
  obtain ⟨r14, er14, h⟩ := wp_bind h
  refine Ev.callV (k := 54) (as := [.int 1, .int 99, .int 0]) (rest := [.int (16 + r2), .ref (ad E 57)]) dX6_readTub_78 cl_X6_118 mok_X6_other rfl (Nat.le_of_ble_eq_true rfl) (Nat.le_of_ble_eq_true rfl) ⟨Nat.le_of_ble_eq_true rfl, Nat.le_of_ble_eq_true rfl⟩ (Nat.le_of_ble_eq_true rfl) rfl rfl (o_X6_other ⟨r14, er14, ?_⟩)
  show Ev E mi_X6_readTub 81 [(2, .int r2), (0, .ref (ad E 54)), (1, .int p1)] [.int r14.1, .int (16 + r2), .ref (ad E 57)] r14.2 Q
  obtain ⟨g15, h⟩ := wp_inb h
  refine Ev.iast dX6_readTub_81 rfl (Nat.le_of_ble_eq_true rfl) rfl g15 ?_
  refine Ev.topM (fun M16 eM16 => ?_)
  replace h := wp_lm h M16 eM16
  refine Ev.aload_n dX6_readTub_82 rfl 1 rfl ?_
  refine Ev.get dX6_readTub_83 fl_X6_16 rfl (Nat.le_of_ble_eq_true rfl) (v := .ref (ad E 57)) rfl ?_
  refine Ev.bipush (v := 20) dX6_readTub_86 rfl ?_
  refine Ev.dup2 dX6_readTub_88 rfl rfl ?_
  obtain ⟨g17, h⟩ := wp_rd h
  refine Ev.iald dX6_readTub_89 rfl (Nat.le_of_ble_eq_true rfl) rfl g17 ?_
  refine Ev.topi (fun r18 er18 => ?_)
  replace h := h r18 er18
  refine Ev.iconst (v := 1) dX6_readTub_90 rfl ?_
  refine Ev.iadd dX6_readTub_91 ?_
  obtain ⟨g19, h⟩ := wp_inb h
  refine Ev.iast dX6_readTub_92 rfl (Nat.le_of_ble_eq_true rfl) rfl g19 ?_
  refine Ev.topM (fun M20 eM20 => ?_)
  replace h := wp_lm h M20 eM20
  exact Ev.vret dX6_readTub_93 rfl (wp_ret h)

noncomputable def f_X6_readHeir (M : Mem) : Option Mem := li (21 + (4 * (M 54 4))) fun y1 => (f_X6_other 0 9 0 M).bind fun r2 => inb y1 72 <| lm (up r2.2 57 y1.toNatClampNeg r2.1) fun M4 => (f_X6_other 0 23 0 M4).bind fun r5 => inb (y1 + 1) 72 <| lm (up r5.2 57 (y1 + 1).toNatClampNeg r5.1) fun M7 => rd (M7 57) 72 (y1 + 1) fun r9 => (f_X6_other r9 23 0 M7).bind fun r10 => inb (y1 + 2) 72 <| lm (up r10.2 57 (y1 + 2).toNatClampNeg r10.1) fun M12 => (f_X6_other 0 9 0 M12).bind fun r13 => inb (y1 + 3) 72 <| lm (up r13.2 57 (y1 + 3).toNatClampNeg r13.1) fun M15 => lm (up M15 54 4 ((M15 54 4) + 1)) fun M16 => some M16
theorem o_X6_readHeir {E : GE} {Q : Option Value → Mem → Prop} {M : Mem} (h : wp (f_X6_readHeir M) gVM Q) : Runs E mi_X6_readHeir [.ref (ad E 54)] M Q := by
  refine Runs.ofEv (by decide +kernel) (Nat.le_of_ble_eq_true rfl) ?_
  show Ev E mi_X6_readHeir 0 [(0, .ref (ad E 54))] [] M Q
  unfold f_X6_readHeir at h
  refine Ev.bipush (v := 21) dX6_readHeir_0 rfl ?_
  refine Ev.iconst (v := 4) dX6_readHeir_2 rfl ?_
  refine Ev.aload_n dX6_readHeir_3 rfl 0 rfl ?_
  refine Ev.get dX6_readHeir_4 fl_X6_122 rfl (Nat.le_of_ble_eq_true rfl) rfl ?_
  refine Ev.imul dX6_readHeir_7 ?_
  refine Ev.iadd dX6_readHeir_8 ?_
  refine Ev.topi (fun y1 ey1 => ?_)
  replace h := wp_li h y1 ey1
  refine Ev.istore_n dX6_readHeir_9 rfl (Nat.le_of_ble_eq_true rfl) rfl ?_
  show Ev E mi_X6_readHeir 10 [(1, .int y1), (0, .ref (ad E 54))] [] M Q
  refine Ev.aload_n dX6_readHeir_10 rfl 1 rfl ?_
  refine Ev.get dX6_readHeir_11 fl_X6_16 rfl (Nat.le_of_ble_eq_true rfl) (v := .ref (ad E 57)) rfl ?_
  refine Ev.iload_n dX6_readHeir_14 rfl 0 rfl ?_
  refine Ev.aload_n dX6_readHeir_15 rfl 1 rfl ?_
  refine Ev.iconst (v := 0) dX6_readHeir_16 rfl ?_
  refine Ev.bipush (v := 9) dX6_readHeir_17 rfl ?_
  refine Ev.iconst (v := 0) dX6_readHeir_19 rfl ?_
  obtain ⟨r2, er2, h⟩ := wp_bind h
  refine Ev.callV (k := 54) (as := [.int 0, .int 9, .int 0]) (rest := [.int y1, .ref (ad E 57)]) dX6_readHeir_20 cl_X6_118 mok_X6_other rfl (Nat.le_of_ble_eq_true rfl) (Nat.le_of_ble_eq_true rfl) ⟨Nat.le_of_ble_eq_true rfl, Nat.le_of_ble_eq_true rfl⟩ (Nat.le_of_ble_eq_true rfl) rfl rfl (o_X6_other ⟨r2, er2, ?_⟩)
  show Ev E mi_X6_readHeir 23 [(1, .int y1), (0, .ref (ad E 54))] [.int r2.1, .int y1, .ref (ad E 57)] r2.2 Q
  obtain ⟨g3, h⟩ := wp_inb h
  refine Ev.iast dX6_readHeir_23 rfl (Nat.le_of_ble_eq_true rfl) rfl g3 ?_
  refine Ev.topM (fun M4 eM4 => ?_)
  replace h := wp_lm h M4 eM4
  refine Ev.aload_n dX6_readHeir_24 rfl 1 rfl ?_
  refine Ev.get dX6_readHeir_25 fl_X6_16 rfl (Nat.le_of_ble_eq_true rfl) (v := .ref (ad E 57)) rfl ?_
  refine Ev.iload_n dX6_readHeir_28 rfl 0 rfl ?_
  refine Ev.iconst (v := 1) dX6_readHeir_29 rfl ?_
  refine Ev.iadd dX6_readHeir_30 ?_
  refine Ev.aload_n dX6_readHeir_31 rfl 1 rfl ?_
  refine Ev.iconst (v := 0) dX6_readHeir_32 rfl ?_
  refine Ev.bipush (v := 23) dX6_readHeir_33 rfl ?_
  refine Ev.iconst (v := 0) dX6_readHeir_35 rfl ?_
  obtain ⟨r5, er5, h⟩ := wp_bind h
  refine Ev.callV (k := 54) (as := [.int 0, .int 23, .int 0]) (rest := [.int (y1 + 1), .ref (ad E 57)]) dX6_readHeir_36 cl_X6_118 mok_X6_other rfl (Nat.le_of_ble_eq_true rfl) (Nat.le_of_ble_eq_true rfl) ⟨Nat.le_of_ble_eq_true rfl, Nat.le_of_ble_eq_true rfl⟩ (Nat.le_of_ble_eq_true rfl) rfl rfl (o_X6_other ⟨r5, er5, ?_⟩)
  show Ev E mi_X6_readHeir 39 [(1, .int y1), (0, .ref (ad E 54))] [.int r5.1, .int (y1 + 1), .ref (ad E 57)] r5.2 Q
  obtain ⟨g6, h⟩ := wp_inb h
  refine Ev.iast dX6_readHeir_39 rfl (Nat.le_of_ble_eq_true rfl) rfl g6 ?_
  refine Ev.topM (fun M7 eM7 => ?_)
  replace h := wp_lm h M7 eM7
  refine Ev.aload_n dX6_readHeir_40 rfl 1 rfl ?_
  refine Ev.get dX6_readHeir_41 fl_X6_16 rfl (Nat.le_of_ble_eq_true rfl) (v := .ref (ad E 57)) rfl ?_
  refine Ev.iload_n dX6_readHeir_44 rfl 0 rfl ?_
  refine Ev.iconst (v := 2) dX6_readHeir_45 rfl ?_
  refine Ev.iadd dX6_readHeir_46 ?_
  refine Ev.aload_n dX6_readHeir_47 rfl 1 rfl ?_
  refine Ev.aload_n dX6_readHeir_48 rfl 1 rfl ?_
  refine Ev.get dX6_readHeir_49 fl_X6_16 rfl (Nat.le_of_ble_eq_true rfl) (v := .ref (ad E 57)) rfl ?_
  refine Ev.iload_n dX6_readHeir_52 rfl 0 rfl ?_
  refine Ev.iconst (v := 1) dX6_readHeir_53 rfl ?_
  refine Ev.iadd dX6_readHeir_54 ?_
  obtain ⟨g8, h⟩ := wp_rd h
  refine Ev.iald dX6_readHeir_55 rfl (Nat.le_of_ble_eq_true rfl) rfl g8 ?_
  refine Ev.topi (fun r9 er9 => ?_)
  replace h := h r9 er9
  refine Ev.bipush (v := 23) dX6_readHeir_56 rfl ?_
  refine Ev.iconst (v := 0) dX6_readHeir_58 rfl ?_
  obtain ⟨r10, er10, h⟩ := wp_bind h
  refine Ev.callV (k := 54) (as := [.int r9, .int 23, .int 0]) (rest := [.int (y1 + 2), .ref (ad E 57)]) dX6_readHeir_59 cl_X6_118 mok_X6_other rfl (Nat.le_of_ble_eq_true rfl) (Nat.le_of_ble_eq_true rfl) ⟨Nat.le_of_ble_eq_true rfl, Nat.le_of_ble_eq_true rfl⟩ (Nat.le_of_ble_eq_true rfl) rfl rfl (o_X6_other ⟨r10, er10, ?_⟩)
  show Ev E mi_X6_readHeir 62 [(1, .int y1), (0, .ref (ad E 54))] [.int r10.1, .int (y1 + 2), .ref (ad E 57)] r10.2 Q
  obtain ⟨g11, h⟩ := wp_inb h
  refine Ev.iast dX6_readHeir_62 rfl (Nat.le_of_ble_eq_true rfl) rfl g11 ?_
  refine Ev.topM (fun M12 eM12 => ?_)
  replace h := wp_lm h M12 eM12
  refine Ev.aload_n dX6_readHeir_63 rfl 1 rfl ?_
  refine Ev.get dX6_readHeir_64 fl_X6_16 rfl (Nat.le_of_ble_eq_true rfl) (v := .ref (ad E 57)) rfl ?_
  refine Ev.iload_n dX6_readHeir_67 rfl 0 rfl ?_
  refine Ev.iconst (v := 3) dX6_readHeir_68 rfl ?_
  refine Ev.iadd dX6_readHeir_69 ?_
  refine Ev.aload_n dX6_readHeir_70 rfl 1 rfl ?_
  refine Ev.iconst (v := 0) dX6_readHeir_71 rfl ?_
  refine Ev.bipush (v := 9) dX6_readHeir_72 rfl ?_
  refine Ev.iconst (v := 0) dX6_readHeir_74 rfl ?_
  obtain ⟨r13, er13, h⟩ := wp_bind h
  refine Ev.callV (k := 54) (as := [.int 0, .int 9, .int 0]) (rest := [.int (y1 + 3), .ref (ad E 57)]) dX6_readHeir_75 cl_X6_118 mok_X6_other rfl (Nat.le_of_ble_eq_true rfl) (Nat.le_of_ble_eq_true rfl) ⟨Nat.le_of_ble_eq_true rfl, Nat.le_of_ble_eq_true rfl⟩ (Nat.le_of_ble_eq_true rfl) rfl rfl (o_X6_other ⟨r13, er13, ?_⟩)
  show Ev E mi_X6_readHeir 78 [(1, .int y1), (0, .ref (ad E 54))] [.int r13.1, .int (y1 + 3), .ref (ad E 57)] r13.2 Q
  obtain ⟨g14, h⟩ := wp_inb h
  refine Ev.iast dX6_readHeir_78 rfl (Nat.le_of_ble_eq_true rfl) rfl g14 ?_
  refine Ev.topM (fun M15 eM15 => ?_)
  replace h := wp_lm h M15 eM15
  refine Ev.aload_n dX6_readHeir_79 rfl 1 rfl ?_
  refine Ev.dup dX6_readHeir_80 rfl ?_
  refine Ev.get dX6_readHeir_81 fl_X6_122 rfl (Nat.le_of_ble_eq_true rfl) rfl ?_
  refine Ev.iconst (v := 1) dX6_readHeir_84 rfl ?_
  refine Ev.iadd dX6_readHeir_85 ?_
  refine Ev.putA dX6_readHeir_86 fl_X6_122 rfl (Nat.le_of_ble_eq_true rfl) rfl rfl pf_I rfl rfl ?_
  refine Ev.topM (fun M16 eM16 => ?_)
  replace h := wp_lm h M16 eM16
  exact Ev.vret dX6_readHeir_89 rfl (wp_ret h)

noncomputable def f_X6_readMore (p1 : Int32) (M : Mem) : Option Mem := if 3 < p1 then if p1 = 4 then (f_X6_readHeir M).bind fun r3 => some r3 else if p1 = 5 then (f_X6_other 0 9 (M 54 5) M).bind fun r5 => lm (up r5.2 54 5 ((r5.2 54 5) ||| (1 <<< (r5.1 &&& 31)))) fun M6 => (f_X6_other 0 4 0 M6).bind fun r7 => inb (37 + r5.1) 72 <| lm (up r7.2 57 (37 + r5.1).toNatClampNeg (r7.1 - 2)) fun M9 => some M9 else if p1 = 6 then (f_X6_other 0 23 (M 54 6) M).bind fun r11 => lm (up r11.2 54 6 ((r11.2 54 6) ||| (1 <<< (r11.1 &&& 31)))) fun M12 => (f_X6_other 0 4 0 M12).bind fun r13 => inb (47 + r11.1) 72 <| lm (up r13.2 57 (47 + r11.1).toNatClampNeg r13.1) fun M15 => some M15 else (f_X6_other 0 5 0 M).bind fun r16 => inb 71 72 <| lm (up r16.2 57 (71 : Int32).toNatClampNeg r16.1) fun M18 => some M18 else (f_X6_readTub p1 M).bind fun r19 => some r19
theorem o_X6_readMore {E : GE} {Q : Option Value → Mem → Prop} {p1 : Int32} {M : Mem} (h : wp (f_X6_readMore p1 M) gVM Q) : Runs E mi_X6_readMore [.ref (ad E 54), .int p1] M Q := by
  refine Runs.ofEv (by decide +kernel) (Nat.le_of_ble_eq_true rfl) ?_
  show Ev E mi_X6_readMore 0 [(0, .ref (ad E 54)), (1, .int p1)] [] M Q
  unfold f_X6_readMore at h
  refine Ev.iload_n dX6_readMore_0 rfl 1 rfl ?_
  refine Ev.iconst (v := 3) dX6_readMore_1 rfl ?_
  refine Ev.icmp_gt (tgt := 13) dX6_readMore_2 (by decide) (fun c1 => ?_) (fun c1 => ?_)
  · replace h := wp_t c1 h
    refine Ev.iload_n dX6_readMore_13 rfl 1 rfl ?_
    refine Ev.iconst (v := 4) dX6_readMore_14 rfl ?_
    refine Ev.icmp_ne (tgt := 25) dX6_readMore_15 (by decide) (fun c2 => ?_) (fun c2 => ?_)
    · replace h := wp_t c2 h
      refine Ev.aload_n dX6_readMore_18 rfl 0 rfl ?_
      obtain ⟨r3, er3, h⟩ := wp_bind h
      refine Ev.callV (k := 54) (as := []) (rest := []) dX6_readMore_19 cl_X6_128 mok_X6_readHeir rfl (Nat.le_of_ble_eq_true rfl) (Nat.le_of_ble_eq_true rfl) ⟨Nat.le_of_ble_eq_true rfl, Nat.le_of_ble_eq_true rfl⟩ (Nat.le_of_ble_eq_true rfl) rfl rfl (o_X6_readHeir ⟨r3, er3, ?_⟩)
      show Ev E mi_X6_readMore 22 [(0, .ref (ad E 54)), (1, .int p1)] [] r3 Q
      refine Ev.goto (tgt := 138) dX6_readMore_22 (by decide) ?_
      exact Ev.vret dX6_readMore_138 rfl (wp_ret h)
    · replace h := wp_f c2 h
      refine Ev.iload_n dX6_readMore_25 rfl 1 rfl ?_
      refine Ev.iconst (v := 5) dX6_readMore_26 rfl ?_
      refine Ev.icmp_ne (tgt := 75) dX6_readMore_27 (by decide) (fun c4 => ?_) (fun c4 => ?_)
      · replace h := wp_t c4 h
        refine Ev.aload_n dX6_readMore_30 rfl 0 rfl ?_
        refine Ev.iconst (v := 0) dX6_readMore_31 rfl ?_
        refine Ev.bipush (v := 9) dX6_readMore_32 rfl ?_
        refine Ev.aload_n dX6_readMore_34 rfl 0 rfl ?_
        refine Ev.get dX6_readMore_35 fl_X6_131 rfl (Nat.le_of_ble_eq_true rfl) rfl ?_
        obtain ⟨r5, er5, h⟩ := wp_bind h
        refine Ev.callV (k := 54) (as := [.int 0, .int 9, .int (M 54 5)]) (rest := []) dX6_readMore_38 cl_X6_118 mok_X6_other rfl (Nat.le_of_ble_eq_true rfl) (Nat.le_of_ble_eq_true rfl) ⟨Nat.le_of_ble_eq_true rfl, Nat.le_of_ble_eq_true rfl⟩ (Nat.le_of_ble_eq_true rfl) rfl rfl (o_X6_other ⟨r5, er5, ?_⟩)
        show Ev E mi_X6_readMore 41 [(0, .ref (ad E 54)), (1, .int p1)] [.int r5.1] r5.2 Q
        refine Ev.istore_n dX6_readMore_41 rfl (Nat.le_of_ble_eq_true rfl) rfl ?_
        show Ev E mi_X6_readMore 42 [(2, .int r5.1), (0, .ref (ad E 54)), (1, .int p1)] [] r5.2 Q
        refine Ev.aload_n dX6_readMore_42 rfl 1 rfl ?_
        refine Ev.dup dX6_readMore_43 rfl ?_
        refine Ev.get dX6_readMore_44 fl_X6_131 rfl (Nat.le_of_ble_eq_true rfl) rfl ?_
        refine Ev.iconst (v := 1) dX6_readMore_47 rfl ?_
        refine Ev.iload_n dX6_readMore_48 rfl 0 rfl ?_
        refine Ev.ishl dX6_readMore_49 ?_
        refine Ev.ior dX6_readMore_50 ?_
        refine Ev.putA dX6_readMore_51 fl_X6_131 rfl (Nat.le_of_ble_eq_true rfl) rfl rfl pf_I rfl rfl ?_
        refine Ev.topM (fun M6 eM6 => ?_)
        replace h := wp_lm h M6 eM6
        refine Ev.aload_n dX6_readMore_54 rfl 1 rfl ?_
        refine Ev.get dX6_readMore_55 fl_X6_16 rfl (Nat.le_of_ble_eq_true rfl) (v := .ref (ad E 57)) rfl ?_
        refine Ev.bipush (v := 37) dX6_readMore_58 rfl ?_
        refine Ev.iload_n dX6_readMore_60 rfl 0 rfl ?_
        refine Ev.iadd dX6_readMore_61 ?_
        refine Ev.aload_n dX6_readMore_62 rfl 1 rfl ?_
        refine Ev.iconst (v := 0) dX6_readMore_63 rfl ?_
        refine Ev.iconst (v := 4) dX6_readMore_64 rfl ?_
        refine Ev.iconst (v := 0) dX6_readMore_65 rfl ?_
        obtain ⟨r7, er7, h⟩ := wp_bind h
        refine Ev.callV (k := 54) (as := [.int 0, .int 4, .int 0]) (rest := [.int (37 + r5.1), .ref (ad E 57)]) dX6_readMore_66 cl_X6_118 mok_X6_other rfl (Nat.le_of_ble_eq_true rfl) (Nat.le_of_ble_eq_true rfl) ⟨Nat.le_of_ble_eq_true rfl, Nat.le_of_ble_eq_true rfl⟩ (Nat.le_of_ble_eq_true rfl) rfl rfl (o_X6_other ⟨r7, er7, ?_⟩)
        show Ev E mi_X6_readMore 69 [(2, .int r5.1), (0, .ref (ad E 54)), (1, .int p1)] [.int r7.1, .int (37 + r5.1), .ref (ad E 57)] r7.2 Q
        refine Ev.iconst (v := 2) dX6_readMore_69 rfl ?_
        refine Ev.isub dX6_readMore_70 ?_
        obtain ⟨g8, h⟩ := wp_inb h
        refine Ev.iast dX6_readMore_71 rfl (Nat.le_of_ble_eq_true rfl) rfl g8 ?_
        refine Ev.topM (fun M9 eM9 => ?_)
        replace h := wp_lm h M9 eM9
        refine Ev.goto (tgt := 138) dX6_readMore_72 (by decide) ?_
        exact Ev.vret dX6_readMore_138 rfl (wp_ret h)
      · replace h := wp_f c4 h
        refine Ev.iload_n dX6_readMore_75 rfl 1 rfl ?_
        refine Ev.bipush (v := 6) dX6_readMore_76 rfl ?_
        refine Ev.icmp_ne (tgt := 124) dX6_readMore_78 (by decide) (fun c10 => ?_) (fun c10 => ?_)
        · replace h := wp_t c10 h
          refine Ev.aload_n dX6_readMore_81 rfl 0 rfl ?_
          refine Ev.iconst (v := 0) dX6_readMore_82 rfl ?_
          refine Ev.bipush (v := 23) dX6_readMore_83 rfl ?_
          refine Ev.aload_n dX6_readMore_85 rfl 0 rfl ?_
          refine Ev.get dX6_readMore_86 fl_X6_134 rfl (Nat.le_of_ble_eq_true rfl) rfl ?_
          obtain ⟨r11, er11, h⟩ := wp_bind h
          refine Ev.callV (k := 54) (as := [.int 0, .int 23, .int (M 54 6)]) (rest := []) dX6_readMore_89 cl_X6_118 mok_X6_other rfl (Nat.le_of_ble_eq_true rfl) (Nat.le_of_ble_eq_true rfl) ⟨Nat.le_of_ble_eq_true rfl, Nat.le_of_ble_eq_true rfl⟩ (Nat.le_of_ble_eq_true rfl) rfl rfl (o_X6_other ⟨r11, er11, ?_⟩)
          show Ev E mi_X6_readMore 92 [(0, .ref (ad E 54)), (1, .int p1)] [.int r11.1] r11.2 Q
          refine Ev.istore_n dX6_readMore_92 rfl (Nat.le_of_ble_eq_true rfl) rfl ?_
          show Ev E mi_X6_readMore 93 [(2, .int r11.1), (0, .ref (ad E 54)), (1, .int p1)] [] r11.2 Q
          refine Ev.aload_n dX6_readMore_93 rfl 1 rfl ?_
          refine Ev.dup dX6_readMore_94 rfl ?_
          refine Ev.get dX6_readMore_95 fl_X6_134 rfl (Nat.le_of_ble_eq_true rfl) rfl ?_
          refine Ev.iconst (v := 1) dX6_readMore_98 rfl ?_
          refine Ev.iload_n dX6_readMore_99 rfl 0 rfl ?_
          refine Ev.ishl dX6_readMore_100 ?_
          refine Ev.ior dX6_readMore_101 ?_
          refine Ev.putA dX6_readMore_102 fl_X6_134 rfl (Nat.le_of_ble_eq_true rfl) rfl rfl pf_I rfl rfl ?_
          refine Ev.topM (fun M12 eM12 => ?_)
          replace h := wp_lm h M12 eM12
          refine Ev.aload_n dX6_readMore_105 rfl 1 rfl ?_
          refine Ev.get dX6_readMore_106 fl_X6_16 rfl (Nat.le_of_ble_eq_true rfl) (v := .ref (ad E 57)) rfl ?_
          refine Ev.bipush (v := 47) dX6_readMore_109 rfl ?_
          refine Ev.iload_n dX6_readMore_111 rfl 0 rfl ?_
          refine Ev.iadd dX6_readMore_112 ?_
          refine Ev.aload_n dX6_readMore_113 rfl 1 rfl ?_
          refine Ev.iconst (v := 0) dX6_readMore_114 rfl ?_
          refine Ev.iconst (v := 4) dX6_readMore_115 rfl ?_
          refine Ev.iconst (v := 0) dX6_readMore_116 rfl ?_
          obtain ⟨r13, er13, h⟩ := wp_bind h
          refine Ev.callV (k := 54) (as := [.int 0, .int 4, .int 0]) (rest := [.int (47 + r11.1), .ref (ad E 57)]) dX6_readMore_117 cl_X6_118 mok_X6_other rfl (Nat.le_of_ble_eq_true rfl) (Nat.le_of_ble_eq_true rfl) ⟨Nat.le_of_ble_eq_true rfl, Nat.le_of_ble_eq_true rfl⟩ (Nat.le_of_ble_eq_true rfl) rfl rfl (o_X6_other ⟨r13, er13, ?_⟩)
          show Ev E mi_X6_readMore 120 [(2, .int r11.1), (0, .ref (ad E 54)), (1, .int p1)] [.int r13.1, .int (47 + r11.1), .ref (ad E 57)] r13.2 Q
          obtain ⟨g14, h⟩ := wp_inb h
          refine Ev.iast dX6_readMore_120 rfl (Nat.le_of_ble_eq_true rfl) rfl g14 ?_
          refine Ev.topM (fun M15 eM15 => ?_)
          replace h := wp_lm h M15 eM15
          refine Ev.goto (tgt := 138) dX6_readMore_121 (by decide) ?_
          exact Ev.vret dX6_readMore_138 rfl (wp_ret h)
        · replace h := wp_f c10 h
          refine Ev.aload_n dX6_readMore_124 rfl 0 rfl ?_
          refine Ev.get dX6_readMore_125 fl_X6_16 rfl (Nat.le_of_ble_eq_true rfl) (v := .ref (ad E 57)) rfl ?_
          refine Ev.bipush (v := 71) dX6_readMore_128 rfl ?_
          refine Ev.aload_n dX6_readMore_130 rfl 0 rfl ?_
          refine Ev.iconst (v := 0) dX6_readMore_131 rfl ?_
          refine Ev.iconst (v := 5) dX6_readMore_132 rfl ?_
          refine Ev.iconst (v := 0) dX6_readMore_133 rfl ?_
          obtain ⟨r16, er16, h⟩ := wp_bind h
          refine Ev.callV (k := 54) (as := [.int 0, .int 5, .int 0]) (rest := [.int 71, .ref (ad E 57)]) dX6_readMore_134 cl_X6_118 mok_X6_other rfl (Nat.le_of_ble_eq_true rfl) (Nat.le_of_ble_eq_true rfl) ⟨Nat.le_of_ble_eq_true rfl, Nat.le_of_ble_eq_true rfl⟩ (Nat.le_of_ble_eq_true rfl) rfl rfl (o_X6_other ⟨r16, er16, ?_⟩)
          show Ev E mi_X6_readMore 137 [(0, .ref (ad E 54)), (1, .int p1)] [.int r16.1, .int 71, .ref (ad E 57)] r16.2 Q
          obtain ⟨g17, h⟩ := wp_inb h
          refine Ev.iast dX6_readMore_137 rfl (Nat.le_of_ble_eq_true rfl) rfl g17 ?_
          refine Ev.topM (fun M18 eM18 => ?_)
          replace h := wp_lm h M18 eM18
          exact Ev.vret dX6_readMore_138 rfl (wp_ret h)
  · replace h := wp_f c1 h
    refine Ev.aload_n dX6_readMore_5 rfl 0 rfl ?_
    refine Ev.iload_n dX6_readMore_6 rfl 1 rfl ?_
    obtain ⟨r19, er19, h⟩ := wp_bind h
    refine Ev.callV (k := 54) (as := [.int p1]) (rest := []) dX6_readMore_7 cl_X6_125 mok_X6_readTub rfl (Nat.le_of_ble_eq_true rfl) (Nat.le_of_ble_eq_true rfl) ⟨Nat.le_of_ble_eq_true rfl, Nat.le_of_ble_eq_true rfl⟩ (Nat.le_of_ble_eq_true rfl) rfl rfl (o_X6_readTub ⟨r19, er19, ?_⟩)
    show Ev E mi_X6_readMore 10 [(0, .ref (ad E 54)), (1, .int p1)] [] r19 Q
    refine Ev.goto (tgt := 138) dX6_readMore_10 (by decide) ?_
    exact Ev.vret dX6_readMore_138 rfl (wp_ret h)

noncomputable def f_X6_readLine_134 (M : Mem) : Option Mem := (f_X6_step M).bind fun r1 => some r1
theorem o_X6_readLine_134 {E : GE} {Q : Option Value → Mem → Prop} {M : Mem} (h : wp (f_X6_readLine_134 M) gVM Q) : Ev E mi_X6_readLine 134 [(0, .ref (ad E 54))] [] M Q := by
  unfold f_X6_readLine_134 at h
  refine Ev.aload_n dX6_readLine_134 rfl 0 rfl ?_
  obtain ⟨r1, er1, h⟩ := wp_bind h
  refine Ev.callV (k := 54) (as := []) (rest := []) dX6_readLine_135 cl_X6_115 mok_X6_step rfl (Nat.le_of_ble_eq_true rfl) (Nat.le_of_ble_eq_true rfl) ⟨Nat.le_of_ble_eq_true rfl, Nat.le_of_ble_eq_true rfl⟩ (Nat.le_of_ble_eq_true rfl) rfl rfl (o_X6_step ⟨r1, er1, ?_⟩)
  show Ev E mi_X6_readLine 138 [(0, .ref (ad E 54))] [] r1 Q
  exact Ev.vret dX6_readLine_138 rfl (wp_ret h)
noncomputable def f_X6_readLine_94 (x1 : Int32) (s1 : Int32) (M : Mem) : Option Mem := ck .boolean s1 <| lm (up M 54 7 s1) fun M2 => (f_X6_step M2).bind fun r3 => if (r3 54 11) ≤ 0 then (f_X6_readMore x1 r3).bind fun r5 => if (r5 54 11) = 0 then if (r5 54 15) = 3 then f_X6_readLine_134 r5 else (f_X6_fails 2 r5).bind fun r8 => f_X6_readLine_134 r8 else f_X6_readLine_134 r5 else some r3
theorem o_X6_readLine_94 {E : GE} {Q : Option Value → Mem → Prop} {x1 : Int32} {s1 : Int32} {M : Mem} (h : wp (f_X6_readLine_94 x1 s1 M) gVM Q) : Ev E mi_X6_readLine 94 [(0, .ref (ad E 54)), (1, .int x1)] [.int s1, .ref (ad E 54)] M Q := by
  unfold f_X6_readLine_94 at h
  obtain ⟨g1, h⟩ := wp_ck h
  refine Ev.putA dX6_readLine_94 fl_X6_143 rfl (Nat.le_of_ble_eq_true rfl) rfl rfl pf_Z (nar_Z g1) (fits_Z g1) ?_
  refine Ev.topM (fun M2 eM2 => ?_)
  replace h := wp_lm h M2 eM2
  refine Ev.aload_n dX6_readLine_97 rfl 0 rfl ?_
  obtain ⟨r3, er3, h⟩ := wp_bind h
  refine Ev.callV (k := 54) (as := []) (rest := []) dX6_readLine_98 cl_X6_115 mok_X6_step rfl (Nat.le_of_ble_eq_true rfl) (Nat.le_of_ble_eq_true rfl) ⟨Nat.le_of_ble_eq_true rfl, Nat.le_of_ble_eq_true rfl⟩ (Nat.le_of_ble_eq_true rfl) rfl rfl (o_X6_step ⟨r3, er3, ?_⟩)
  show Ev E mi_X6_readLine 101 [(0, .ref (ad E 54)), (1, .int x1)] [] r3 Q
  refine Ev.aload_n dX6_readLine_101 rfl 0 rfl ?_
  refine Ev.get dX6_readLine_102 fl_X6_81 rfl (Nat.le_of_ble_eq_true rfl) rfl ?_
  refine Ev.if_le (tgt := 109) dX6_readLine_105 (by decide) (fun c4 => ?_) (fun c4 => ?_)
  · replace h := wp_t c4 h
    refine Ev.aload_n dX6_readLine_109 rfl 0 rfl ?_
    refine Ev.iload_n dX6_readLine_110 rfl 1 rfl ?_
    obtain ⟨r5, er5, h⟩ := wp_bind h
    refine Ev.callV (k := 54) (as := [.int x1]) (rest := []) dX6_readLine_111 cl_X6_147 mok_X6_readMore rfl (Nat.le_of_ble_eq_true rfl) (Nat.le_of_ble_eq_true rfl) ⟨Nat.le_of_ble_eq_true rfl, Nat.le_of_ble_eq_true rfl⟩ (Nat.le_of_ble_eq_true rfl) rfl rfl (o_X6_readMore ⟨r5, er5, ?_⟩)
    show Ev E mi_X6_readLine 114 [(0, .ref (ad E 54)), (1, .int x1)] [] r5 Q
    refine Ev.aload_n dX6_readLine_114 rfl 0 rfl ?_
    refine Ev.get dX6_readLine_115 fl_X6_81 rfl (Nat.le_of_ble_eq_true rfl) rfl ?_
    refine Ev.if_ne (tgt := 134) dX6_readLine_118 (by decide) (fun c6 => ?_) (fun c6 => ?_)
    · replace h := wp_t c6 h
      refine Ev.aload_n dX6_readLine_121 rfl 0 rfl ?_
      refine Ev.get dX6_readLine_122 fl_X6_90 rfl (Nat.le_of_ble_eq_true rfl) rfl ?_
      refine Ev.iconst (v := 3) dX6_readLine_125 rfl ?_
      refine Ev.icmp_eq (tgt := 134) dX6_readLine_126 (by decide) (fun c7 => ?_) (fun c7 => ?_)
      · replace h := wp_t c7 h
        refine Ev.sub [0] rfl ?_
        exact o_X6_readLine_134 h
      · replace h := wp_f c7 h
        refine Ev.aload_n dX6_readLine_129 rfl 0 rfl ?_
        refine Ev.iconst (v := 2) dX6_readLine_130 rfl ?_
        obtain ⟨r8, er8, h⟩ := wp_bind h
        refine Ev.callV (k := 54) (as := [.int 2]) (rest := []) dX6_readLine_131 cl_X6_111 mok_X6_fails rfl (Nat.le_of_ble_eq_true rfl) (Nat.le_of_ble_eq_true rfl) ⟨Nat.le_of_ble_eq_true rfl, Nat.le_of_ble_eq_true rfl⟩ (Nat.le_of_ble_eq_true rfl) rfl rfl (o_X6_fails ⟨r8, er8, ?_⟩)
        show Ev E mi_X6_readLine 134 [(0, .ref (ad E 54)), (1, .int x1)] [] r8 Q
        refine Ev.sub [0] rfl ?_
        exact o_X6_readLine_134 h
    · replace h := wp_f c6 h
      refine Ev.sub [0] rfl ?_
      exact o_X6_readLine_134 h
  · replace h := wp_f c4 h
    exact Ev.vret dX6_readLine_108 rfl (wp_ret h)
noncomputable def f_X6_readLine_89 (x1 : Int32) (M : Mem) : Option Mem := f_X6_readLine_94 x1 1 M
theorem o_X6_readLine_89 {E : GE} {Q : Option Value → Mem → Prop} {x1 : Int32} {M : Mem} (h : wp (f_X6_readLine_89 x1 M) gVM Q) : Ev E mi_X6_readLine 89 [(0, .ref (ad E 54)), (1, .int x1)] [.ref (ad E 54)] M Q := by
  unfold f_X6_readLine_89 at h
  refine Ev.iconst (v := 1) dX6_readLine_89 rfl ?_
  refine Ev.goto (tgt := 94) dX6_readLine_90 (by decide) ?_
  exact o_X6_readLine_94 h
noncomputable def f_X6_readLine_75 (x1 : Int32) (M : Mem) : Option Mem := if (M 54 7) = 0 then if x1 = 7 then f_X6_readLine_89 x1 M else f_X6_readLine_94 x1 0 M else f_X6_readLine_89 x1 M
theorem o_X6_readLine_75 {E : GE} {Q : Option Value → Mem → Prop} {x1 : Int32} {M : Mem} (h : wp (f_X6_readLine_75 x1 M) gVM Q) : Ev E mi_X6_readLine 75 [(0, .ref (ad E 54)), (1, .int x1)] [] M Q := by
  unfold f_X6_readLine_75 at h
  refine Ev.aload_n dX6_readLine_75 rfl 0 rfl ?_
  refine Ev.aload_n dX6_readLine_76 rfl 0 rfl ?_
  refine Ev.get dX6_readLine_77 fl_X6_143 rfl (Nat.le_of_ble_eq_true rfl) rfl ?_
  refine Ev.if_ne (tgt := 89) dX6_readLine_80 (by decide) (fun c1 => ?_) (fun c1 => ?_)
  · replace h := wp_t c1 h
    refine Ev.iload_n dX6_readLine_83 rfl 1 rfl ?_
    refine Ev.bipush (v := 7) dX6_readLine_84 rfl ?_
    refine Ev.icmp_ne (tgt := 93) dX6_readLine_86 (by decide) (fun c2 => ?_) (fun c2 => ?_)
    · replace h := wp_t c2 h
      exact o_X6_readLine_89 h
    · replace h := wp_f c2 h
      refine Ev.iconst (v := 0) dX6_readLine_93 rfl ?_
      exact o_X6_readLine_94 h
  · replace h := wp_f c1 h
    exact o_X6_readLine_89 h
noncomputable def f_X6_readLine_57 (x1 : Int32) (M : Mem) : Option Mem := if x1 = 7 then if (M 54 7) = 0 then f_X6_readLine_75 x1 M else (f_X6_fails 4 M).bind fun r3 => f_X6_readLine_75 x1 r3 else f_X6_readLine_75 x1 M
theorem o_X6_readLine_57 {E : GE} {Q : Option Value → Mem → Prop} {x1 : Int32} {M : Mem} (h : wp (f_X6_readLine_57 x1 M) gVM Q) : Ev E mi_X6_readLine 57 [(0, .ref (ad E 54)), (1, .int x1)] [] M Q := by
  unfold f_X6_readLine_57 at h
  refine Ev.iload_n dX6_readLine_57 rfl 1 rfl ?_
  refine Ev.bipush (v := 7) dX6_readLine_58 rfl ?_
  refine Ev.icmp_ne (tgt := 75) dX6_readLine_60 (by decide) (fun c1 => ?_) (fun c1 => ?_)
  · replace h := wp_t c1 h
    refine Ev.aload_n dX6_readLine_63 rfl 0 rfl ?_
    refine Ev.get dX6_readLine_64 fl_X6_143 rfl (Nat.le_of_ble_eq_true rfl) rfl ?_
    refine Ev.if_eq (tgt := 75) dX6_readLine_67 (by decide) (fun c2 => ?_) (fun c2 => ?_)
    · replace h := wp_t c2 h
      exact o_X6_readLine_75 h
    · replace h := wp_f c2 h
      refine Ev.aload_n dX6_readLine_70 rfl 0 rfl ?_
      refine Ev.iconst (v := 4) dX6_readLine_71 rfl ?_
      obtain ⟨r3, er3, h⟩ := wp_bind h
      refine Ev.callV (k := 54) (as := [.int 4]) (rest := []) dX6_readLine_72 cl_X6_111 mok_X6_fails rfl (Nat.le_of_ble_eq_true rfl) (Nat.le_of_ble_eq_true rfl) ⟨Nat.le_of_ble_eq_true rfl, Nat.le_of_ble_eq_true rfl⟩ (Nat.le_of_ble_eq_true rfl) rfl rfl (o_X6_fails ⟨r3, er3, ?_⟩)
      show Ev E mi_X6_readLine 75 [(0, .ref (ad E 54)), (1, .int x1)] [] r3 Q
      exact o_X6_readLine_75 h
  · replace h := wp_f c1 h
    exact o_X6_readLine_75 h
noncomputable def f_X6_readLine_52 (x1 : Int32) (M : Mem) : Option Mem := (f_X6_fails 5 M).bind fun r1 => f_X6_readLine_57 x1 r1
theorem o_X6_readLine_52 {E : GE} {Q : Option Value → Mem → Prop} {x1 : Int32} {M : Mem} (h : wp (f_X6_readLine_52 x1 M) gVM Q) : Ev E mi_X6_readLine 52 [(0, .ref (ad E 54)), (1, .int x1)] [] M Q := by
  unfold f_X6_readLine_52 at h
  refine Ev.aload_n dX6_readLine_52 rfl 0 rfl ?_
  refine Ev.iconst (v := 5) dX6_readLine_53 rfl ?_
  obtain ⟨r1, er1, h⟩ := wp_bind h
  refine Ev.callV (k := 54) (as := [.int 5]) (rest := []) dX6_readLine_54 cl_X6_111 mok_X6_fails rfl (Nat.le_of_ble_eq_true rfl) (Nat.le_of_ble_eq_true rfl) ⟨Nat.le_of_ble_eq_true rfl, Nat.le_of_ble_eq_true rfl⟩ (Nat.le_of_ble_eq_true rfl) rfl rfl (o_X6_fails ⟨r1, er1, ?_⟩)
  show Ev E mi_X6_readLine 57 [(0, .ref (ad E 54)), (1, .int x1)] [] r1 Q
  exact o_X6_readLine_57 h
noncomputable def f_X6_readLine_39 (x1 : Int32) (M : Mem) : Option Mem := if x1 = 4 then if (M 54 4) = 4 then f_X6_readLine_52 x1 M else f_X6_readLine_57 x1 M else f_X6_readLine_57 x1 M
theorem o_X6_readLine_39 {E : GE} {Q : Option Value → Mem → Prop} {x1 : Int32} {M : Mem} (h : wp (f_X6_readLine_39 x1 M) gVM Q) : Ev E mi_X6_readLine 39 [(0, .ref (ad E 54)), (1, .int x1)] [] M Q := by
  unfold f_X6_readLine_39 at h
  refine Ev.iload_n dX6_readLine_39 rfl 1 rfl ?_
  refine Ev.iconst (v := 4) dX6_readLine_40 rfl ?_
  refine Ev.icmp_ne (tgt := 57) dX6_readLine_41 (by decide) (fun c1 => ?_) (fun c1 => ?_)
  · replace h := wp_t c1 h
    refine Ev.aload_n dX6_readLine_44 rfl 0 rfl ?_
    refine Ev.get dX6_readLine_45 fl_X6_122 rfl (Nat.le_of_ble_eq_true rfl) rfl ?_
    refine Ev.iconst (v := 4) dX6_readLine_48 rfl ?_
    refine Ev.icmp_ne (tgt := 57) dX6_readLine_49 (by decide) (fun c2 => ?_) (fun c2 => ?_)
    · replace h := wp_t c2 h
      exact o_X6_readLine_52 h
    · replace h := wp_f c2 h
      exact o_X6_readLine_57 h
  · replace h := wp_f c1 h
    exact o_X6_readLine_57 h
noncomputable def f_X6_readLine (M : Mem) : Option Mem := (f_X6_nameHere M).bind fun r1 => (f_X6_in r1.toInt64 0 7 M).bind fun r2 => if r2 = 0 then (f_X6_fails 2 M).bind fun r4 => some r4 else if 3 < r1 then f_X6_readLine_39 r1 M else rd (M 57) 72 20 fun r7 => if r7 = 4 then f_X6_readLine_52 r1 M else f_X6_readLine_39 r1 M
theorem o_X6_readLine {E : GE} {Q : Option Value → Mem → Prop} {M : Mem} (h : wp (f_X6_readLine M) gVM Q) : Runs E mi_X6_readLine [.ref (ad E 54)] M Q := by
  refine Runs.ofEv (by decide +kernel) (Nat.le_of_ble_eq_true rfl) ?_
  show Ev E mi_X6_readLine 0 [(0, .ref (ad E 54))] [] M Q
  unfold f_X6_readLine at h
  refine Ev.aload_n dX6_readLine_0 rfl 0 rfl ?_
  obtain ⟨r1, er1, h⟩ := wp_bind h
  refine Ev.callV (k := 54) (as := []) (rest := []) dX6_readLine_1 cl_X6_137 mok_X6_nameHere rfl (Nat.le_of_ble_eq_true rfl) (Nat.le_of_ble_eq_true rfl) ⟨Nat.le_of_ble_eq_true rfl, Nat.le_of_ble_eq_true rfl⟩ (Nat.le_of_ble_eq_true rfl) rfl rfl (o_X6_nameHere ⟨r1, er1, ?_⟩)
  show Ev E mi_X6_readLine 4 [(0, .ref (ad E 54))] [.int r1] M Q
  refine Ev.istore_n dX6_readLine_4 rfl (Nat.le_of_ble_eq_true rfl) rfl ?_
  show Ev E mi_X6_readLine 5 [(1, .int r1), (0, .ref (ad E 54))] [] M Q
  refine Ev.iload_n dX6_readLine_5 rfl 0 rfl ?_
  refine Ev.i2l dX6_readLine_6 ?_
  refine Ev.lconst (v := 0) dX6_readLine_7 rfl ?_
  refine Ev.ldc2 dX6_readLine_8 fc_X6_141 ?_
  obtain ⟨r2, er2, h⟩ := wp_bind h
  refine Ev.callS (as := [.long r1.toInt64, .long 0, .long 7]) (rest := []) dX6_readLine_11 cl_X6_73 mos_X6_in ⟨Nat.le_of_ble_eq_true rfl, Nat.le_of_ble_eq_true rfl⟩ (Nat.le_of_ble_eq_true rfl) rfl rfl (o_X6_in ⟨r2, er2, ?_⟩)
  show Ev E mi_X6_readLine 14 [(1, .int r1), (0, .ref (ad E 54))] [.int r2] M Q
  refine Ev.if_ne (tgt := 23) dX6_readLine_14 (by decide) (fun c3 => ?_) (fun c3 => ?_)
  · replace h := wp_t c3 h
    refine Ev.aload_n dX6_readLine_17 rfl 1 rfl ?_
    refine Ev.iconst (v := 2) dX6_readLine_18 rfl ?_
    obtain ⟨r4, er4, h⟩ := wp_bind h
    refine Ev.callV (k := 54) (as := [.int 2]) (rest := []) dX6_readLine_19 cl_X6_111 mok_X6_fails rfl (Nat.le_of_ble_eq_true rfl) (Nat.le_of_ble_eq_true rfl) ⟨Nat.le_of_ble_eq_true rfl, Nat.le_of_ble_eq_true rfl⟩ (Nat.le_of_ble_eq_true rfl) rfl rfl (o_X6_fails ⟨r4, er4, ?_⟩)
    show Ev E mi_X6_readLine 22 [(1, .int r1), (0, .ref (ad E 54))] [] r4 Q
    exact Ev.vret dX6_readLine_22 rfl (wp_ret h)
  · replace h := wp_f c3 h
    refine Ev.iload_n dX6_readLine_23 rfl 0 rfl ?_
    refine Ev.iconst (v := 3) dX6_readLine_24 rfl ?_
    refine Ev.icmp_gt (tgt := 39) dX6_readLine_25 (by decide) (fun c5 => ?_) (fun c5 => ?_)
    · replace h := wp_t c5 h
      refine Ev.sub [1, 0] rfl ?_
      exact o_X6_readLine_39 h
    · replace h := wp_f c5 h
      refine Ev.aload_n dX6_readLine_28 rfl 1 rfl ?_
      refine Ev.get dX6_readLine_29 fl_X6_16 rfl (Nat.le_of_ble_eq_true rfl) (v := .ref (ad E 57)) rfl ?_
      refine Ev.bipush (v := 20) dX6_readLine_32 rfl ?_
      obtain ⟨g6, h⟩ := wp_rd h
      refine Ev.iald dX6_readLine_34 rfl (Nat.le_of_ble_eq_true rfl) rfl g6 ?_
      refine Ev.topi (fun r7 er7 => ?_)
      replace h := h r7 er7
      refine Ev.iconst (v := 4) dX6_readLine_35 rfl ?_
      refine Ev.icmp_eq (tgt := 52) dX6_readLine_36 (by decide) (fun c8 => ?_) (fun c8 => ?_)
      · replace h := wp_t c8 h
        refine Ev.sub [1, 0] rfl ?_
        exact o_X6_readLine_52 h
      · replace h := wp_f c8 h
        refine Ev.sub [1, 0] rfl ?_
        exact o_X6_readLine_39 h

noncomputable def f_X6_text_135 (x1 : Int32) (M : Mem) : Option (Int32 × Mem) := lm (up M 54 2 (M 54 4)) fun M1 => lm (up M1 54 29 0) fun M2 => inb 0 2 <| lm (up M2 71 (0 : Int32).toNatClampNeg (vp_nar .boolean 0)) fun M4 => inb 1 2 <| lm (up M4 71 (1 : Int32).toNatClampNeg (vp_nar .boolean 0)) fun M6 => some (x1, M6)
theorem o_X6_text_135 {E : GE} {Q : Option Value → Mem → Prop} {x1 : Int32} {M : Mem} (h : wp (f_X6_text_135 x1 M) gIM Q) : Ev E mi_X6_text 135 [(0, .ref (ad E 54)), (1, .int x1)] [] M Q := by
  unfold f_X6_text_135 at h
  refine Ev.aload_n dX6_text_135 rfl 0 rfl ?_
  refine Ev.aload_n dX6_text_136 rfl 0 rfl ?_
  refine Ev.get dX6_text_137 fl_X6_122 rfl (Nat.le_of_ble_eq_true rfl) rfl ?_
  refine Ev.putA dX6_text_140 fl_X6_156 rfl (Nat.le_of_ble_eq_true rfl) rfl rfl pf_I rfl rfl ?_
  refine Ev.topM (fun M1 eM1 => ?_)
  replace h := wp_lm h M1 eM1
  refine Ev.aload_n dX6_text_143 rfl 0 rfl ?_
  refine Ev.iconst (v := 0) dX6_text_144 rfl ?_
  refine Ev.putA dX6_text_145 fl_X6_159 rfl (Nat.le_of_ble_eq_true rfl) rfl rfl pf_I rfl rfl ?_
  refine Ev.topM (fun M2 eM2 => ?_)
  replace h := wp_lm h M2 eM2
  refine Ev.aload_n dX6_text_148 rfl 0 rfl ?_
  refine Ev.get dX6_text_149 fl_X6_58 rfl (Nat.le_of_ble_eq_true rfl) (v := .ref (ad E 71)) rfl ?_
  refine Ev.iconst (v := 0) dX6_text_152 rfl ?_
  refine Ev.iconst (v := 0) dX6_text_153 rfl ?_
  obtain ⟨g3, h⟩ := wp_inb h
  refine Ev.zast dX6_text_154 rfl (Nat.le_of_ble_eq_true rfl) rfl g3 ?_
  refine Ev.topM (fun M4 eM4 => ?_)
  replace h := wp_lm h M4 eM4
  refine Ev.aload_n dX6_text_155 rfl 0 rfl ?_
  refine Ev.get dX6_text_156 fl_X6_58 rfl (Nat.le_of_ble_eq_true rfl) (v := .ref (ad E 71)) rfl ?_
  refine Ev.iconst (v := 1) dX6_text_159 rfl ?_
  refine Ev.iconst (v := 0) dX6_text_160 rfl ?_
  obtain ⟨g5, h⟩ := wp_inb h
  refine Ev.zast dX6_text_161 rfl (Nat.le_of_ble_eq_true rfl) rfl g5 ?_
  refine Ev.topM (fun M6 eM6 => ?_)
  replace h := wp_lm h M6 eM6
  refine Ev.iload_n dX6_text_162 rfl 1 rfl ?_
  exact Ev.ret dX6_text_163 rfl rfl (wp_ret h)
noncomputable def f_X6_text_111 : Nat → Int32 → Int32 → Mem → Option (Int32 × Mem)
  | 0, _, _, _ => none
  | n + 1, x1, x2, M => if 72 ≤ x2 then f_X6_text_135 x1 M else rd (M 57) 72 x2 fun r3 => inb x2 360 <| lm (up M 55 x2.toNatClampNeg r3) fun M5 => (f_X6_text_111 n) x1 (x2 + 1) M5
theorem o_X6_text_111 {E : GE} {Q : Option Value → Mem → Prop} : ∀ (n : Nat) {x1 : Int32} {x2 : Int32} {M : Mem}, wp (f_X6_text_111 n x1 x2 M) gIM Q → Ev E mi_X6_text 111 [(0, .ref (ad E 54)), (1, .int x1), (2, .int x2)] [] M Q := by
  intro n
  induction n with
  | zero => intro _ _ _ h; exact absurd h wp_none
  | succ n ih =>
    intro x1 x2 M h
    unfold f_X6_text_111 at h
    refine Ev.iload_n dX6_text_111 rfl 2 rfl ?_
    refine Ev.bipush (v := 72) dX6_text_112 rfl ?_
    refine Ev.icmp_ge (tgt := 135) dX6_text_114 (by decide) (fun c1 => ?_) (fun c1 => ?_)
    · replace h := wp_t c1 h
      refine Ev.sub [0, 1] rfl ?_
      exact o_X6_text_135 h
    · replace h := wp_f c1 h
      refine Ev.aload_n dX6_text_117 rfl 0 rfl ?_
      refine Ev.get dX6_text_118 fl_X6_7 rfl (Nat.le_of_ble_eq_true rfl) (v := .ref (ad E 55)) rfl ?_
      refine Ev.iload_n dX6_text_121 rfl 2 rfl ?_
      refine Ev.aload_n dX6_text_122 rfl 0 rfl ?_
      refine Ev.get dX6_text_123 fl_X6_16 rfl (Nat.le_of_ble_eq_true rfl) (v := .ref (ad E 57)) rfl ?_
      refine Ev.iload_n dX6_text_126 rfl 2 rfl ?_
      obtain ⟨g2, h⟩ := wp_rd h
      refine Ev.iald dX6_text_127 rfl (Nat.le_of_ble_eq_true rfl) rfl g2 ?_
      refine Ev.topi (fun r3 er3 => ?_)
      replace h := h r3 er3
      obtain ⟨g4, h⟩ := wp_inb h
      refine Ev.iast dX6_text_128 rfl (Nat.le_of_ble_eq_true rfl) rfl g4 ?_
      refine Ev.topM (fun M5 eM5 => ?_)
      replace h := wp_lm h M5 eM5
      refine Ev.iinc (v := x2 + 1) dX6_text_129 2 rfl rfl (Nat.le_of_ble_eq_true rfl) rfl ?_
      show Ev E mi_X6_text 132 [(2, .int (x2 + 1)), (0, .ref (ad E 54)), (1, .int x1)] [] M5 Q
      refine Ev.goto (tgt := 111) dX6_text_132 (by decide) ?_
      refine Ev.sub [1, 2, 0] rfl ?_
      exact ih h
noncomputable def f_X6_text_81 (x1 : Int32) (M : Mem) : Option (Int32 × Mem) := lm (up M 54 9 0) fun M1 => lm (up M1 54 10 (M1 54 11)) fun M2 => if (M2 54 11) ≤ 0 then f_X6_text_111 FU x1 0 M2 else some ((-10) - (M2 54 12), M2)
theorem o_X6_text_81 {E : GE} {Q : Option Value → Mem → Prop} {x1 : Int32} {M : Mem} (h : wp (f_X6_text_81 x1 M) gIM Q) : Ev E mi_X6_text 81 [(0, .ref (ad E 54)), (1, .int x1)] [] M Q := by
  unfold f_X6_text_81 at h
  refine Ev.aload_n dX6_text_81 rfl 0 rfl ?_
  refine Ev.iconst (v := 0) dX6_text_82 rfl ?_
  refine Ev.putA dX6_text_83 fl_X6_77 rfl (Nat.le_of_ble_eq_true rfl) rfl rfl pf_I rfl rfl ?_
  refine Ev.topM (fun M1 eM1 => ?_)
  replace h := wp_lm h M1 eM1
  refine Ev.aload_n dX6_text_86 rfl 0 rfl ?_
  refine Ev.aload_n dX6_text_87 rfl 0 rfl ?_
  refine Ev.get dX6_text_88 fl_X6_81 rfl (Nat.le_of_ble_eq_true rfl) rfl ?_
  refine Ev.putA dX6_text_91 fl_X6_153 rfl (Nat.le_of_ble_eq_true rfl) rfl rfl pf_I rfl rfl ?_
  refine Ev.topM (fun M2 eM2 => ?_)
  replace h := wp_lm h M2 eM2
  refine Ev.aload_n dX6_text_94 rfl 0 rfl ?_
  refine Ev.get dX6_text_95 fl_X6_81 rfl (Nat.le_of_ble_eq_true rfl) rfl ?_
  refine Ev.if_le (tgt := 109) dX6_text_98 (by decide) (fun c3 => ?_) (fun c3 => ?_)
  · replace h := wp_t c3 h
    refine Ev.iconst (v := 0) dX6_text_109 rfl ?_
    refine Ev.istore_n dX6_text_110 rfl (Nat.le_of_ble_eq_true rfl) rfl ?_
    show Ev E mi_X6_text 111 [(2, .int 0), (0, .ref (ad E 54)), (1, .int x1)] [] M2 Q
    refine Ev.sub [1, 2, 0] rfl ?_
    exact o_X6_text_111 FU h
  · replace h := wp_f c3 h
    refine Ev.bipush (v := (-10)) dX6_text_101 rfl ?_
    refine Ev.aload_n dX6_text_103 rfl 0 rfl ?_
    refine Ev.get dX6_text_104 fl_X6_87 rfl (Nat.le_of_ble_eq_true rfl) rfl ?_
    refine Ev.isub dX6_text_107 ?_
    exact Ev.ret dX6_text_108 rfl rfl (wp_ret h)
noncomputable def f_X6_text_57 : Nat → Int32 → Mem → Option (Int32 × Mem)
  | 0, _, _ => none
  | n + 1, x1, M => if (M 54 11) = 0 then if (M 54 15) = 0 then f_X6_text_81 x1 M else (f_X6_readLine M).bind fun r3 => (f_X6_text_57 n) (x1 + 1) r3 else f_X6_text_81 x1 M
theorem o_X6_text_57 {E : GE} {Q : Option Value → Mem → Prop} : ∀ (n : Nat) {x1 : Int32} {M : Mem}, wp (f_X6_text_57 n x1 M) gIM Q → Ev E mi_X6_text 57 [(0, .ref (ad E 54)), (1, .int x1)] [] M Q := by
  intro n
  induction n with
  | zero => intro _ _ h; exact absurd h wp_none
  | succ n ih =>
    intro x1 M h
    unfold f_X6_text_57 at h
    refine Ev.aload_n dX6_text_57 rfl 0 rfl ?_
    refine Ev.get dX6_text_58 fl_X6_81 rfl (Nat.le_of_ble_eq_true rfl) rfl ?_
    refine Ev.if_ne (tgt := 81) dX6_text_61 (by decide) (fun c1 => ?_) (fun c1 => ?_)
    · replace h := wp_t c1 h
      refine Ev.aload_n dX6_text_64 rfl 0 rfl ?_
      refine Ev.get dX6_text_65 fl_X6_90 rfl (Nat.le_of_ble_eq_true rfl) rfl ?_
      refine Ev.if_eq (tgt := 81) dX6_text_68 (by decide) (fun c2 => ?_) (fun c2 => ?_)
      · replace h := wp_t c2 h
        exact o_X6_text_81 h
      · replace h := wp_f c2 h
        refine Ev.aload_n dX6_text_71 rfl 0 rfl ?_
        obtain ⟨r3, er3, h⟩ := wp_bind h
        refine Ev.callV (k := 54) (as := []) (rest := []) dX6_text_72 cl_X6_150 mok_X6_readLine rfl (Nat.le_of_ble_eq_true rfl) (Nat.le_of_ble_eq_true rfl) ⟨Nat.le_of_ble_eq_true rfl, Nat.le_of_ble_eq_true rfl⟩ (Nat.le_of_ble_eq_true rfl) rfl rfl (o_X6_readLine ⟨r3, er3, ?_⟩)
        show Ev E mi_X6_text 75 [(0, .ref (ad E 54)), (1, .int x1)] [] r3 Q
        refine Ev.iinc (v := x1 + 1) dX6_text_75 1 rfl rfl (Nat.le_of_ble_eq_true rfl) rfl ?_
        show Ev E mi_X6_text 78 [(1, .int (x1 + 1)), (0, .ref (ad E 54))] [] r3 Q
        refine Ev.goto (tgt := 57) dX6_text_78 (by decide) ?_
        refine Ev.sub [1, 0] rfl ?_
        exact ih h
    · replace h := wp_f c1 h
      exact o_X6_text_81 h
noncomputable def f_X6_text_53 (x1 : Int32) (M : Mem) : Option (Int32 × Mem) := (f_X6_step M).bind fun r1 => f_X6_text_57 FU x1 r1
theorem o_X6_text_53 {E : GE} {Q : Option Value → Mem → Prop} {x1 : Int32} {M : Mem} (h : wp (f_X6_text_53 x1 M) gIM Q) : Ev E mi_X6_text 53 [(0, .ref (ad E 54)), (1, .int x1)] [] M Q := by
  unfold f_X6_text_53 at h
  refine Ev.aload_n dX6_text_53 rfl 0 rfl ?_
  obtain ⟨r1, er1, h⟩ := wp_bind h
  refine Ev.callV (k := 54) (as := []) (rest := []) dX6_text_54 cl_X6_115 mok_X6_step rfl (Nat.le_of_ble_eq_true rfl) (Nat.le_of_ble_eq_true rfl) ⟨Nat.le_of_ble_eq_true rfl, Nat.le_of_ble_eq_true rfl⟩ (Nat.le_of_ble_eq_true rfl) rfl rfl (o_X6_step ⟨r1, er1, ?_⟩)
  show Ev E mi_X6_text 57 [(0, .ref (ad E 54)), (1, .int x1)] [] r1 Q
  exact o_X6_text_57 FU h
noncomputable def f_X6_text_34 : Nat → Int32 → Int32 → Mem → Option (Int32 × Mem)
  | 0, _, _, _ => none
  | n + 1, x1, x2, M => if 72 ≤ x2 then f_X6_text_53 x1 M else inb x2 72 <| lm (up M 57 x2.toNatClampNeg 0) fun M3 => (f_X6_text_34 n) x1 (x2 + 1) M3
theorem o_X6_text_34 {E : GE} {Q : Option Value → Mem → Prop} : ∀ (n : Nat) {x1 : Int32} {x2 : Int32} {M : Mem}, wp (f_X6_text_34 n x1 x2 M) gIM Q → Ev E mi_X6_text 34 [(0, .ref (ad E 54)), (1, .int x1), (2, .int x2)] [] M Q := by
  intro n
  induction n with
  | zero => intro _ _ _ h; exact absurd h wp_none
  | succ n ih =>
    intro x1 x2 M h
    unfold f_X6_text_34 at h
    refine Ev.iload_n dX6_text_34 rfl 2 rfl ?_
    refine Ev.bipush (v := 72) dX6_text_35 rfl ?_
    refine Ev.icmp_ge (tgt := 53) dX6_text_37 (by decide) (fun c1 => ?_) (fun c1 => ?_)
    · replace h := wp_t c1 h
      refine Ev.sub [0, 1] rfl ?_
      exact o_X6_text_53 h
    · replace h := wp_f c1 h
      refine Ev.aload_n dX6_text_40 rfl 0 rfl ?_
      refine Ev.get dX6_text_41 fl_X6_16 rfl (Nat.le_of_ble_eq_true rfl) (v := .ref (ad E 57)) rfl ?_
      refine Ev.iload_n dX6_text_44 rfl 2 rfl ?_
      refine Ev.iconst (v := 0) dX6_text_45 rfl ?_
      obtain ⟨g2, h⟩ := wp_inb h
      refine Ev.iast dX6_text_46 rfl (Nat.le_of_ble_eq_true rfl) rfl g2 ?_
      refine Ev.topM (fun M3 eM3 => ?_)
      replace h := wp_lm h M3 eM3
      refine Ev.iinc (v := x2 + 1) dX6_text_47 2 rfl rfl (Nat.le_of_ble_eq_true rfl) rfl ?_
      show Ev E mi_X6_text 50 [(2, .int (x2 + 1)), (0, .ref (ad E 54)), (1, .int x1)] [] M3 Q
      refine Ev.goto (tgt := 34) dX6_text_50 (by decide) ?_
      refine Ev.sub [1, 2, 0] rfl ?_
      exact ih h
noncomputable def f_X6_text (M : Mem) : Option (Int32 × Mem) := lm (up M 54 11 0) fun M1 => lm (up M1 54 13 0) fun M2 => lm (up M2 54 4 0) fun M3 => lm (up M3 54 5 0) fun M4 => lm (up M4 54 6 0) fun M5 => lm (up M5 54 7 0) fun M6 => f_X6_text_34 FU 0 0 M6
theorem o_X6_text {E : GE} {Q : Option Value → Mem → Prop} {M : Mem} (h : wp (f_X6_text M) gIM Q) : Runs E mi_X6_text [.ref (ad E 54)] M Q := by
  refine Runs.ofEv (by decide +kernel) (Nat.le_of_ble_eq_true rfl) ?_
  show Ev E mi_X6_text 0 [(0, .ref (ad E 54))] [] M Q
  unfold f_X6_text at h
  refine Ev.aload_n dX6_text_0 rfl 0 rfl ?_
  refine Ev.iconst (v := 0) dX6_text_1 rfl ?_
  refine Ev.putA dX6_text_2 fl_X6_81 rfl (Nat.le_of_ble_eq_true rfl) rfl rfl pf_I rfl rfl ?_
  refine Ev.topM (fun M1 eM1 => ?_)
  replace h := wp_lm h M1 eM1
  refine Ev.aload_n dX6_text_5 rfl 0 rfl ?_
  refine Ev.iconst (v := 0) dX6_text_6 rfl ?_
  refine Ev.putA dX6_text_7 fl_X6_93 rfl (Nat.le_of_ble_eq_true rfl) rfl rfl pf_I rfl rfl ?_
  refine Ev.topM (fun M2 eM2 => ?_)
  replace h := wp_lm h M2 eM2
  refine Ev.aload_n dX6_text_10 rfl 0 rfl ?_
  refine Ev.iconst (v := 0) dX6_text_11 rfl ?_
  refine Ev.putA dX6_text_12 fl_X6_122 rfl (Nat.le_of_ble_eq_true rfl) rfl rfl pf_I rfl rfl ?_
  refine Ev.topM (fun M3 eM3 => ?_)
  replace h := wp_lm h M3 eM3
  refine Ev.aload_n dX6_text_15 rfl 0 rfl ?_
  refine Ev.iconst (v := 0) dX6_text_16 rfl ?_
  refine Ev.putA dX6_text_17 fl_X6_131 rfl (Nat.le_of_ble_eq_true rfl) rfl rfl pf_I rfl rfl ?_
  refine Ev.topM (fun M4 eM4 => ?_)
  replace h := wp_lm h M4 eM4
  refine Ev.aload_n dX6_text_20 rfl 0 rfl ?_
  refine Ev.iconst (v := 0) dX6_text_21 rfl ?_
  refine Ev.putA dX6_text_22 fl_X6_134 rfl (Nat.le_of_ble_eq_true rfl) rfl rfl pf_I rfl rfl ?_
  refine Ev.topM (fun M5 eM5 => ?_)
  replace h := wp_lm h M5 eM5
  refine Ev.aload_n dX6_text_25 rfl 0 rfl ?_
  refine Ev.iconst (v := 0) dX6_text_26 rfl ?_
  refine Ev.putA dX6_text_27 fl_X6_143 rfl (Nat.le_of_ble_eq_true rfl) rfl rfl pf_Z rfl rfl ?_
  refine Ev.topM (fun M6 eM6 => ?_)
  replace h := wp_lm h M6 eM6
  refine Ev.iconst (v := 0) dX6_text_30 rfl ?_
  refine Ev.istore_n dX6_text_31 rfl (Nat.le_of_ble_eq_true rfl) rfl ?_
  show Ev E mi_X6_text 32 [(1, .int 0), (0, .ref (ad E 54))] [] M6 Q
  refine Ev.iconst (v := 0) dX6_text_32 rfl ?_
  refine Ev.istore_n dX6_text_33 rfl (Nat.le_of_ble_eq_true rfl) rfl ?_
  show Ev E mi_X6_text 34 [(2, .int 0), (1, .int 0), (0, .ref (ad E 54))] [] M6 Q
  refine Ev.sub [2, 1, 0] rfl ?_
  exact o_X6_text_34 FU h

noncomputable def f_X6_fault (M : Mem) : Option Int32 := some (M 54 10)
theorem o_X6_fault {E : GE} {Q : Option Value → Mem → Prop} {M : Mem} (h : wp (f_X6_fault M) (gI M) Q) : Runs E mi_X6_fault [.ref (ad E 54)] M Q := by
  refine Runs.ofEv (by decide +kernel) (Nat.le_of_ble_eq_true rfl) ?_
  show Ev E mi_X6_fault 0 [(0, .ref (ad E 54))] [] M Q
  unfold f_X6_fault at h
  refine Ev.aload_n dX6_fault_0 rfl 0 rfl ?_
  refine Ev.get dX6_fault_1 fl_X6_153 rfl (Nat.le_of_ble_eq_true rfl) rfl ?_
  exact Ev.ret dX6_fault_4 rfl rfl (wp_ret h)

noncomputable def f_X6_isTub (p1 : Int32) (M : Mem) : Option Int32 := rd (M 55) 360 20 fun r2 => (f_X6_in p1.toInt64 0 ((r2 - 1).toInt64) M).bind fun r3 => ck .boolean r3 <| some r3
theorem o_X6_isTub {E : GE} {Q : Option Value → Mem → Prop} {p1 : Int32} {M : Mem} (h : wp (f_X6_isTub p1 M) (gI M) Q) : Runs E mi_X6_isTub [.ref (ad E 54), .int p1] M Q := by
  refine Runs.ofEv (by decide +kernel) (Nat.le_of_ble_eq_true rfl) ?_
  show Ev E mi_X6_isTub 0 [(0, .ref (ad E 54)), (1, .int p1)] [] M Q
  unfold f_X6_isTub at h
  refine Ev.iload_n dX6_isTub_0 rfl 1 rfl ?_
  refine Ev.i2l dX6_isTub_1 ?_
  refine Ev.lconst (v := 0) dX6_isTub_2 rfl ?_
  refine Ev.aload_n dX6_isTub_3 rfl 0 rfl ?_
  refine Ev.get dX6_isTub_4 fl_X6_7 rfl (Nat.le_of_ble_eq_true rfl) (v := .ref (ad E 55)) rfl ?_
  refine Ev.bipush (v := 20) dX6_isTub_7 rfl ?_
  obtain ⟨g1, h⟩ := wp_rd h
  refine Ev.iald dX6_isTub_9 rfl (Nat.le_of_ble_eq_true rfl) rfl g1 ?_
  refine Ev.topi (fun r2 er2 => ?_)
  replace h := h r2 er2
  refine Ev.iconst (v := 1) dX6_isTub_10 rfl ?_
  refine Ev.isub dX6_isTub_11 ?_
  refine Ev.i2l dX6_isTub_12 ?_
  obtain ⟨r3, er3, h⟩ := wp_bind h
  refine Ev.callS (as := [.long p1.toInt64, .long 0, .long ((r2 - 1).toInt64)]) (rest := []) dX6_isTub_13 cl_X6_73 mos_X6_in ⟨Nat.le_of_ble_eq_true rfl, Nat.le_of_ble_eq_true rfl⟩ (Nat.le_of_ble_eq_true rfl) rfl rfl (o_X6_in ⟨r3, er3, ?_⟩)
  show Ev E mi_X6_isTub 16 [(0, .ref (ad E 54)), (1, .int p1)] [.int r3] M Q
  obtain ⟨g4, h⟩ := wp_ck h
  exact Ev.ret dX6_isTub_16 rfl (nar_Z g4) (wp_ret h)

noncomputable def f_X6_isHeir (p1 : Int32) (M : Mem) : Option Int32 := (f_X6_in p1.toInt64 0 (((M 54 2) - 1).toInt64) M).bind fun r1 => ck .boolean r1 <| some r1
theorem o_X6_isHeir {E : GE} {Q : Option Value → Mem → Prop} {p1 : Int32} {M : Mem} (h : wp (f_X6_isHeir p1 M) (gI M) Q) : Runs E mi_X6_isHeir [.ref (ad E 54), .int p1] M Q := by
  refine Runs.ofEv (by decide +kernel) (Nat.le_of_ble_eq_true rfl) ?_
  show Ev E mi_X6_isHeir 0 [(0, .ref (ad E 54)), (1, .int p1)] [] M Q
  unfold f_X6_isHeir at h
  refine Ev.iload_n dX6_isHeir_0 rfl 1 rfl ?_
  refine Ev.i2l dX6_isHeir_1 ?_
  refine Ev.lconst (v := 0) dX6_isHeir_2 rfl ?_
  refine Ev.aload_n dX6_isHeir_3 rfl 0 rfl ?_
  refine Ev.get dX6_isHeir_4 fl_X6_156 rfl (Nat.le_of_ble_eq_true rfl) rfl ?_
  refine Ev.iconst (v := 1) dX6_isHeir_7 rfl ?_
  refine Ev.isub dX6_isHeir_8 ?_
  refine Ev.i2l dX6_isHeir_9 ?_
  obtain ⟨r1, er1, h⟩ := wp_bind h
  refine Ev.callS (as := [.long p1.toInt64, .long 0, .long (((M 54 2) - 1).toInt64)]) (rest := []) dX6_isHeir_10 cl_X6_73 mos_X6_in ⟨Nat.le_of_ble_eq_true rfl, Nat.le_of_ble_eq_true rfl⟩ (Nat.le_of_ble_eq_true rfl) rfl rfl (o_X6_in ⟨r1, er1, ?_⟩)
  show Ev E mi_X6_isHeir 13 [(0, .ref (ad E 54)), (1, .int p1)] [.int r1] M Q
  obtain ⟨g2, h⟩ := wp_ck h
  exact Ev.ret dX6_isHeir_13 rfl (nar_Z g2) (wp_ret h)

noncomputable def f_X6_isHour (p0 : Int32) (M : Mem) : Option Int32 := (f_X6_in p0.toInt64 0 23 M).bind fun r1 => ck .boolean r1 <| some r1
theorem o_X6_isHour {E : GE} {Q : Option Value → Mem → Prop} {p0 : Int32} {M : Mem} (h : wp (f_X6_isHour p0 M) (gI M) Q) : Runs E mi_X6_isHour [.int p0] M Q := by
  refine Runs.ofEv (by decide +kernel) (Nat.le_of_ble_eq_true rfl) ?_
  show Ev E mi_X6_isHour 0 [(0, .int p0)] [] M Q
  unfold f_X6_isHour at h
  refine Ev.iload_n dX6_isHour_0 rfl 0 rfl ?_
  refine Ev.i2l dX6_isHour_1 ?_
  refine Ev.lconst (v := 0) dX6_isHour_2 rfl ?_
  refine Ev.ldc2 dX6_isHour_3 fc_X6_162 ?_
  obtain ⟨r1, er1, h⟩ := wp_bind h
  refine Ev.callS (as := [.long p0.toInt64, .long 0, .long 23]) (rest := []) dX6_isHour_6 cl_X6_73 mos_X6_in ⟨Nat.le_of_ble_eq_true rfl, Nat.le_of_ble_eq_true rfl⟩ (Nat.le_of_ble_eq_true rfl) rfl rfl (o_X6_in ⟨r1, er1, ?_⟩)
  show Ev E mi_X6_isHour 9 [(0, .int p0)] [.int r1] M Q
  obtain ⟨g2, h⟩ := wp_ck h
  exact Ev.ret dX6_isHour_9 rfl (nar_Z g2) (wp_ret h)

noncomputable def f_X6_estates_4 (M : Mem) : Nat → Int32 → Int32 → Option Int32
  | 0, _, _ => none
  | n + 1, x1, x2 => rd (M 55) 360 20 fun r2 => if r2 ≤ x2 then some x1 else rd (M 55) 360 (16 + x2) fun r5 => li (x1 + r5) fun y6 => (f_X6_estates_4 M n) y6 (x2 + 1)
theorem o_X6_estates_4 {E : GE} {Q : Option Value → Mem → Prop} {M : Mem} : ∀ (n : Nat) {x1 : Int32} {x2 : Int32}, wp (f_X6_estates_4 M n x1 x2) (gI M) Q → Ev E mi_X6_estates 4 [(0, .ref (ad E 54)), (1, .int x1), (2, .int x2)] [] M Q := by
  intro n
  induction n with
  | zero => intro _ _ h; exact absurd h wp_none
  | succ n ih =>
    intro x1 x2 h
    unfold f_X6_estates_4 at h
    refine Ev.iload_n dX6_estates_4 rfl 2 rfl ?_
    refine Ev.aload_n dX6_estates_5 rfl 0 rfl ?_
    refine Ev.get dX6_estates_6 fl_X6_7 rfl (Nat.le_of_ble_eq_true rfl) (v := .ref (ad E 55)) rfl ?_
    refine Ev.bipush (v := 20) dX6_estates_9 rfl ?_
    obtain ⟨g1, h⟩ := wp_rd h
    refine Ev.iald dX6_estates_11 rfl (Nat.le_of_ble_eq_true rfl) rfl g1 ?_
    refine Ev.topi (fun r2 er2 => ?_)
    replace h := h r2 er2
    refine Ev.icmp_ge (tgt := 33) dX6_estates_12 (by decide) (fun c3 => ?_) (fun c3 => ?_)
    · replace h := wp_t c3 h
      refine Ev.iload_n dX6_estates_33 rfl 1 rfl ?_
      exact Ev.ret dX6_estates_34 rfl rfl (wp_ret h)
    · replace h := wp_f c3 h
      refine Ev.iload_n dX6_estates_15 rfl 1 rfl ?_
      refine Ev.aload_n dX6_estates_16 rfl 0 rfl ?_
      refine Ev.get dX6_estates_17 fl_X6_7 rfl (Nat.le_of_ble_eq_true rfl) (v := .ref (ad E 55)) rfl ?_
      refine Ev.bipush (v := 16) dX6_estates_20 rfl ?_
      refine Ev.iload_n dX6_estates_22 rfl 2 rfl ?_
      refine Ev.iadd dX6_estates_23 ?_
      obtain ⟨g4, h⟩ := wp_rd h
      refine Ev.iald dX6_estates_24 rfl (Nat.le_of_ble_eq_true rfl) rfl g4 ?_
      refine Ev.topi (fun r5 er5 => ?_)
      replace h := h r5 er5
      refine Ev.iadd dX6_estates_25 ?_
      refine Ev.topi (fun y6 ey6 => ?_)
      replace h := wp_li h y6 ey6
      refine Ev.istore_n dX6_estates_26 rfl (Nat.le_of_ble_eq_true rfl) rfl ?_
      show Ev E mi_X6_estates 27 [(1, .int y6), (0, .ref (ad E 54)), (2, .int x2)] [] M Q
      refine Ev.iinc (v := x2 + 1) dX6_estates_27 2 rfl rfl (Nat.le_of_ble_eq_true rfl) rfl ?_
      show Ev E mi_X6_estates 30 [(2, .int (x2 + 1)), (1, .int y6), (0, .ref (ad E 54))] [] M Q
      refine Ev.goto (tgt := 4) dX6_estates_30 (by decide) ?_
      refine Ev.sub [2, 1, 0] rfl ?_
      exact ih h
noncomputable def f_X6_estates (M : Mem) : Option Int32 := f_X6_estates_4 M FU 0 0
theorem o_X6_estates {E : GE} {Q : Option Value → Mem → Prop} {M : Mem} (h : wp (f_X6_estates M) (gI M) Q) : Runs E mi_X6_estates [.ref (ad E 54)] M Q := by
  refine Runs.ofEv (by decide +kernel) (Nat.le_of_ble_eq_true rfl) ?_
  show Ev E mi_X6_estates 0 [(0, .ref (ad E 54))] [] M Q
  unfold f_X6_estates at h
  refine Ev.iconst (v := 0) dX6_estates_0 rfl ?_
  refine Ev.istore_n dX6_estates_1 rfl (Nat.le_of_ble_eq_true rfl) rfl ?_
  show Ev E mi_X6_estates 2 [(1, .int 0), (0, .ref (ad E 54))] [] M Q
  refine Ev.iconst (v := 0) dX6_estates_2 rfl ?_
  refine Ev.istore_n dX6_estates_3 rfl (Nat.le_of_ble_eq_true rfl) rfl ?_
  show Ev E mi_X6_estates 4 [(2, .int 0), (1, .int 0), (0, .ref (ad E 54))] [] M Q
  refine Ev.sub [2, 1, 0] rfl ?_
  exact o_X6_estates_4 FU h

noncomputable def f_X6_windyHours_30 (M : Mem) (t4 : Int32 → Int32 → Option Int32) (x2 : Int32) (s0 : Int32) (s1 : Int32) : Option Int32 := li (s0 ||| s1) fun y1 => t4 y1 (x2 + 1)
theorem o_X6_windyHours_30 {E : GE} {Q : Option Value → Mem → Prop} {M : Mem} {t4 : Int32 → Int32 → Option Int32} {x2 : Int32} {s0 : Int32} {s1 : Int32} (ht4 : ∀ (x1 : Int32) (x2 : Int32), wp (t4 x1 x2) (gI M) Q → Ev E mi_X6_windyHours 4 [(0, .ref (ad E 54)), (1, .int x1), (2, .int x2)] [] M Q) (h : wp (f_X6_windyHours_30 M t4 x2 s0 s1) (gI M) Q) : Ev E mi_X6_windyHours 30 [(0, .ref (ad E 54)), (2, .int x2)] [.int s1, .int s0] M Q := by
  unfold f_X6_windyHours_30 at h
  refine Ev.ior dX6_windyHours_30 ?_
  refine Ev.topi (fun y1 ey1 => ?_)
  replace h := wp_li h y1 ey1
  refine Ev.istore_n dX6_windyHours_31 rfl (Nat.le_of_ble_eq_true rfl) rfl ?_
  show Ev E mi_X6_windyHours 32 [(1, .int y1), (0, .ref (ad E 54)), (2, .int x2)] [] M Q
  refine Ev.iinc (v := x2 + 1) dX6_windyHours_32 2 rfl rfl (Nat.le_of_ble_eq_true rfl) rfl ?_
  show Ev E mi_X6_windyHours 35 [(2, .int (x2 + 1)), (1, .int y1), (0, .ref (ad E 54))] [] M Q
  refine Ev.goto (tgt := 4) dX6_windyHours_35 (by decide) ?_
  refine Ev.sub [2, 1, 0] rfl ?_
  exact ht4 _ _ h
noncomputable def f_X6_windyHours_4 (M : Mem) : Nat → Int32 → Int32 → Option Int32
  | 0, _, _ => none
  | n + 1, x1, x2 => if 24 ≤ x2 then some x1 else rd (M 55) 360 (47 + x2) fun r3 => if r3 ≤ 0 then f_X6_windyHours_30 M (f_X6_windyHours_4 M n) x2 x1 0 else f_X6_windyHours_30 M (f_X6_windyHours_4 M n) x2 x1 (1 <<< (x2 &&& 31))
theorem o_X6_windyHours_4 {E : GE} {Q : Option Value → Mem → Prop} {M : Mem} : ∀ (n : Nat) {x1 : Int32} {x2 : Int32}, wp (f_X6_windyHours_4 M n x1 x2) (gI M) Q → Ev E mi_X6_windyHours 4 [(0, .ref (ad E 54)), (1, .int x1), (2, .int x2)] [] M Q := by
  intro n
  induction n with
  | zero => intro _ _ h; exact absurd h wp_none
  | succ n ih =>
    intro x1 x2 h
    unfold f_X6_windyHours_4 at h
    refine Ev.iload_n dX6_windyHours_4 rfl 2 rfl ?_
    refine Ev.bipush (v := 24) dX6_windyHours_5 rfl ?_
    refine Ev.icmp_ge (tgt := 38) dX6_windyHours_7 (by decide) (fun c1 => ?_) (fun c1 => ?_)
    · replace h := wp_t c1 h
      refine Ev.iload_n dX6_windyHours_38 rfl 1 rfl ?_
      exact Ev.ret dX6_windyHours_39 rfl rfl (wp_ret h)
    · replace h := wp_f c1 h
      refine Ev.iload_n dX6_windyHours_10 rfl 1 rfl ?_
      refine Ev.aload_n dX6_windyHours_11 rfl 0 rfl ?_
      refine Ev.get dX6_windyHours_12 fl_X6_7 rfl (Nat.le_of_ble_eq_true rfl) (v := .ref (ad E 55)) rfl ?_
      refine Ev.bipush (v := 47) dX6_windyHours_15 rfl ?_
      refine Ev.iload_n dX6_windyHours_17 rfl 2 rfl ?_
      refine Ev.iadd dX6_windyHours_18 ?_
      obtain ⟨g2, h⟩ := wp_rd h
      refine Ev.iald dX6_windyHours_19 rfl (Nat.le_of_ble_eq_true rfl) rfl g2 ?_
      refine Ev.topi (fun r3 er3 => ?_)
      replace h := h r3 er3
      refine Ev.if_le (tgt := 29) dX6_windyHours_20 (by decide) (fun c4 => ?_) (fun c4 => ?_)
      · replace h := wp_t c4 h
        refine Ev.iconst (v := 0) dX6_windyHours_29 rfl ?_
        refine Ev.sub [0, 2] rfl ?_
        exact o_X6_windyHours_30 (fun _ _ h => ih h) h
      · replace h := wp_f c4 h
        refine Ev.iconst (v := 1) dX6_windyHours_23 rfl ?_
        refine Ev.iload_n dX6_windyHours_24 rfl 2 rfl ?_
        refine Ev.ishl dX6_windyHours_25 ?_
        refine Ev.goto (tgt := 30) dX6_windyHours_26 (by decide) ?_
        refine Ev.sub [0, 2] rfl ?_
        exact o_X6_windyHours_30 (fun _ _ h => ih h) h
noncomputable def f_X6_windyHours (M : Mem) : Option Int32 := f_X6_windyHours_4 M FU 0 0
theorem o_X6_windyHours {E : GE} {Q : Option Value → Mem → Prop} {M : Mem} (h : wp (f_X6_windyHours M) (gI M) Q) : Runs E mi_X6_windyHours [.ref (ad E 54)] M Q := by
  refine Runs.ofEv (by decide +kernel) (Nat.le_of_ble_eq_true rfl) ?_
  show Ev E mi_X6_windyHours 0 [(0, .ref (ad E 54))] [] M Q
  unfold f_X6_windyHours at h
  refine Ev.iconst (v := 0) dX6_windyHours_0 rfl ?_
  refine Ev.istore_n dX6_windyHours_1 rfl (Nat.le_of_ble_eq_true rfl) rfl ?_
  show Ev E mi_X6_windyHours 2 [(1, .int 0), (0, .ref (ad E 54))] [] M Q
  refine Ev.iconst (v := 0) dX6_windyHours_2 rfl ?_
  refine Ev.istore_n dX6_windyHours_3 rfl (Nat.le_of_ble_eq_true rfl) rfl ?_
  show Ev E mi_X6_windyHours 4 [(2, .int 0), (1, .int 0), (0, .ref (ad E 54))] [] M Q
  refine Ev.sub [2, 1, 0] rfl ?_
  exact o_X6_windyHours_4 FU h

noncomputable def f_X6_bitsOf_4 (p0 : Int32) (M : Mem) : Nat → Int32 → Int32 → Option Int32
  | 0, _, _ => none
  | n + 1, x1, x2 => if x2 ≤ 0 then some x1 else li (x1 + (x2 &&& 1)) fun y2 => li (x2 >>> (1 &&& 31)) fun y3 => (f_X6_bitsOf_4 p0 M n) y2 y3
theorem o_X6_bitsOf_4 {E : GE} {Q : Option Value → Mem → Prop} {p0 : Int32} {M : Mem} : ∀ (n : Nat) {x1 : Int32} {x2 : Int32}, wp (f_X6_bitsOf_4 p0 M n x1 x2) (gI M) Q → Ev E mi_X6_bitsOf 4 [(1, .int x1), (2, .int x2)] [] M Q := by
  intro n
  induction n with
  | zero => intro _ _ h; exact absurd h wp_none
  | succ n ih =>
    intro x1 x2 h
    unfold f_X6_bitsOf_4 at h
    refine Ev.iload_n dX6_bitsOf_4 rfl 1 rfl ?_
    refine Ev.if_le (tgt := 21) dX6_bitsOf_5 (by decide) (fun c1 => ?_) (fun c1 => ?_)
    · replace h := wp_t c1 h
      refine Ev.iload_n dX6_bitsOf_21 rfl 0 rfl ?_
      exact Ev.ret dX6_bitsOf_22 rfl rfl (wp_ret h)
    · replace h := wp_f c1 h
      refine Ev.iload_n dX6_bitsOf_8 rfl 0 rfl ?_
      refine Ev.iload_n dX6_bitsOf_9 rfl 1 rfl ?_
      refine Ev.iconst (v := 1) dX6_bitsOf_10 rfl ?_
      refine Ev.iand dX6_bitsOf_11 ?_
      refine Ev.iadd dX6_bitsOf_12 ?_
      refine Ev.topi (fun y2 ey2 => ?_)
      replace h := wp_li h y2 ey2
      refine Ev.istore_n dX6_bitsOf_13 rfl (Nat.le_of_ble_eq_true rfl) rfl ?_
      show Ev E mi_X6_bitsOf 14 [(1, .int y2), (2, .int x2)] [] M Q
      refine Ev.iload_n dX6_bitsOf_14 rfl 1 rfl ?_
      refine Ev.iconst (v := 1) dX6_bitsOf_15 rfl ?_
      refine Ev.ishr dX6_bitsOf_16 ?_
      refine Ev.topi (fun y3 ey3 => ?_)
      replace h := wp_li h y3 ey3
      refine Ev.istore_n dX6_bitsOf_17 rfl (Nat.le_of_ble_eq_true rfl) rfl ?_
      show Ev E mi_X6_bitsOf 18 [(2, .int y3), (1, .int y2)] [] M Q
      refine Ev.goto (tgt := 4) dX6_bitsOf_18 (by decide) ?_
      refine Ev.sub [1, 0] rfl ?_
      exact ih h
noncomputable def f_X6_bitsOf (p0 : Int32) (M : Mem) : Option Int32 := f_X6_bitsOf_4 p0 M FU 0 p0
theorem o_X6_bitsOf {E : GE} {Q : Option Value → Mem → Prop} {p0 : Int32} {M : Mem} (h : wp (f_X6_bitsOf p0 M) (gI M) Q) : Runs E mi_X6_bitsOf [.int p0] M Q := by
  refine Runs.ofEv (by decide +kernel) (Nat.le_of_ble_eq_true rfl) ?_
  show Ev E mi_X6_bitsOf 0 [(0, .int p0)] [] M Q
  unfold f_X6_bitsOf at h
  refine Ev.iconst (v := 0) dX6_bitsOf_0 rfl ?_
  refine Ev.istore_n dX6_bitsOf_1 rfl (Nat.le_of_ble_eq_true rfl) rfl ?_
  show Ev E mi_X6_bitsOf 2 [(1, .int 0), (0, .int p0)] [] M Q
  refine Ev.iload_n dX6_bitsOf_2 rfl 1 rfl ?_
  refine Ev.istore_n dX6_bitsOf_3 rfl (Nat.le_of_ble_eq_true rfl) rfl ?_
  show Ev E mi_X6_bitsOf 4 [(2, .int p0), (1, .int 0), (0, .int p0)] [] M Q
  refine Ev.sub [1, 0] rfl ?_
  exact o_X6_bitsOf_4 FU h

noncomputable def f_X6_rule (p1 : Int32) (M : Mem) : Option Int32 := if p1 = 0 then rd (M 55) 360 20 fun r3 => some r3 else if p1 = 1 then some (M 54 2) else if p1 = 2 then rd (M 55) 360 71 fun r7 => some r7 else if p1 = 3 then (f_X6_estates M).bind fun r9 => some r9 else if p1 = 4 then (f_X6_windyHours M).bind fun r11 => (f_X6_bitsOf r11 M).bind fun r12 => some r12 else some (-1)
theorem o_X6_rule {E : GE} {Q : Option Value → Mem → Prop} {p1 : Int32} {M : Mem} (h : wp (f_X6_rule p1 M) (gI M) Q) : Runs E mi_X6_rule [.ref (ad E 54), .int p1] M Q := by
  refine Runs.ofEv (by decide +kernel) (Nat.le_of_ble_eq_true rfl) ?_
  show Ev E mi_X6_rule 0 [(0, .ref (ad E 54)), (1, .int p1)] [] M Q
  unfold f_X6_rule at h
  refine Ev.iload_n dX6_rule_0 rfl 1 rfl ?_
  by_cases c1 : p1 = 0
  · replace h := wp_t c1 h
    refine Ev.tsIn (tgt := 36) dX6_rule_1 c1 (by decide) (by decide) rfl (by decide) ?_
    refine Ev.aload_n dX6_rule_36 rfl 0 rfl ?_
    refine Ev.get dX6_rule_37 fl_X6_7 rfl (Nat.le_of_ble_eq_true rfl) (v := .ref (ad E 55)) rfl ?_
    refine Ev.bipush (v := 20) dX6_rule_40 rfl ?_
    obtain ⟨g2, h⟩ := wp_rd h
    refine Ev.iald dX6_rule_42 rfl (Nat.le_of_ble_eq_true rfl) rfl g2 ?_
    refine Ev.topi (fun r3 er3 => ?_)
    replace h := h r3 er3
    exact Ev.ret dX6_rule_43 rfl rfl (wp_ret h)
  · replace h := wp_f c1 h
    by_cases c4 : p1 = 1
    · replace h := wp_t c4 h
      refine Ev.tsIn (tgt := 44) dX6_rule_1 c4 (by decide) (by decide) rfl (by decide) ?_
      refine Ev.aload_n dX6_rule_44 rfl 0 rfl ?_
      refine Ev.get dX6_rule_45 fl_X6_156 rfl (Nat.le_of_ble_eq_true rfl) rfl ?_
      exact Ev.ret dX6_rule_48 rfl rfl (wp_ret h)
    · replace h := wp_f c4 h
      by_cases c5 : p1 = 2
      · replace h := wp_t c5 h
        refine Ev.tsIn (tgt := 49) dX6_rule_1 c5 (by decide) (by decide) rfl (by decide) ?_
        refine Ev.aload_n dX6_rule_49 rfl 0 rfl ?_
        refine Ev.get dX6_rule_50 fl_X6_7 rfl (Nat.le_of_ble_eq_true rfl) (v := .ref (ad E 55)) rfl ?_
        refine Ev.bipush (v := 71) dX6_rule_53 rfl ?_
        obtain ⟨g6, h⟩ := wp_rd h
        refine Ev.iald dX6_rule_55 rfl (Nat.le_of_ble_eq_true rfl) rfl g6 ?_
        refine Ev.topi (fun r7 er7 => ?_)
        replace h := h r7 er7
        exact Ev.ret dX6_rule_56 rfl rfl (wp_ret h)
      · replace h := wp_f c5 h
        by_cases c8 : p1 = 3
        · replace h := wp_t c8 h
          refine Ev.tsIn (tgt := 57) dX6_rule_1 c8 (by decide) (by decide) rfl (by decide) ?_
          refine Ev.aload_n dX6_rule_57 rfl 0 rfl ?_
          obtain ⟨r9, er9, h⟩ := wp_bind h
          refine Ev.callV (k := 54) (as := []) (rest := []) dX6_rule_58 cl_X6_164 mok_X6_estates rfl (Nat.le_of_ble_eq_true rfl) (Nat.le_of_ble_eq_true rfl) ⟨Nat.le_of_ble_eq_true rfl, Nat.le_of_ble_eq_true rfl⟩ (Nat.le_of_ble_eq_true rfl) rfl rfl (o_X6_estates ⟨r9, er9, ?_⟩)
          show Ev E mi_X6_rule 61 [(0, .ref (ad E 54)), (1, .int p1)] [.int r9] M Q
          exact Ev.ret dX6_rule_61 rfl rfl (wp_ret h)
        · replace h := wp_f c8 h
          by_cases c10 : p1 = 4
          · replace h := wp_t c10 h
            refine Ev.tsIn (tgt := 62) dX6_rule_1 c10 (by decide) (by decide) rfl (by decide) ?_
            refine Ev.aload_n dX6_rule_62 rfl 0 rfl ?_
            obtain ⟨r11, er11, h⟩ := wp_bind h
            refine Ev.callV (k := 54) (as := []) (rest := []) dX6_rule_63 cl_X6_167 mok_X6_windyHours rfl (Nat.le_of_ble_eq_true rfl) (Nat.le_of_ble_eq_true rfl) ⟨Nat.le_of_ble_eq_true rfl, Nat.le_of_ble_eq_true rfl⟩ (Nat.le_of_ble_eq_true rfl) rfl rfl (o_X6_windyHours ⟨r11, er11, ?_⟩)
            show Ev E mi_X6_rule 66 [(0, .ref (ad E 54)), (1, .int p1)] [.int r11] M Q
            obtain ⟨r12, er12, h⟩ := wp_bind h
            refine Ev.callS (as := [.int r11]) (rest := []) dX6_rule_66 cl_X6_170 mos_X6_bitsOf ⟨Nat.le_of_ble_eq_true rfl, Nat.le_of_ble_eq_true rfl⟩ (Nat.le_of_ble_eq_true rfl) rfl rfl (o_X6_bitsOf ⟨r12, er12, ?_⟩)
            show Ev E mi_X6_rule 69 [(0, .ref (ad E 54)), (1, .int p1)] [.int r12] M Q
            exact Ev.ret dX6_rule_69 rfl rfl (wp_ret h)
          · replace h := wp_f c10 h
            refine Ev.tsOut (tgt := 70) dX6_rule_1 (by have qc1 : ¬ (p1).toInt = 0 := fun q => c1 (Int32.toInt_inj.mp q); have qc4 : ¬ (p1).toInt = 1 := fun q => c4 (Int32.toInt_inj.mp q); have qc5 : ¬ (p1).toInt = 2 := fun q => c5 (Int32.toInt_inj.mp q); have qc8 : ¬ (p1).toInt = 3 := fun q => c8 (Int32.toInt_inj.mp q); have qc10 : ¬ (p1).toInt = 4 := fun q => c10 (Int32.toInt_inj.mp q); omega) (by decide) ?_
            refine Ev.iconst (v := (-1)) dX6_rule_70 rfl ?_
            exact Ev.ret dX6_rule_71 rfl rfl (wp_ret h)

noncomputable def f_X6_tub_20 (p1 : Int32) (p2 : Int32) (M : Mem) : Option Int32 := some (-1)
theorem o_X6_tub_20 {E : GE} {Q : Option Value → Mem → Prop} {p1 : Int32} {p2 : Int32} {M : Mem} (h : wp (f_X6_tub_20 p1 p2 M) (gI M) Q) : Ev E mi_X6_tub 20 [] [] M Q := by
  unfold f_X6_tub_20 at h
  refine Ev.iconst (v := (-1)) dX6_tub_20 rfl ?_
  refine Ev.goto (tgt := 53) dX6_tub_21 (by decide) ?_
  exact Ev.ret dX6_tub_53 rfl rfl (wp_ret h)
noncomputable def f_X6_tub (p1 : Int32) (p2 : Int32) (M : Mem) : Option Int32 := (f_X6_isTub p1 M).bind fun r1 => if r1 = 0 then f_X6_tub_20 p1 p2 M else (f_X6_in p2.toInt64 0 5 M).bind fun r3 => if r3 = 0 then f_X6_tub_20 p1 p2 M else if p2 = 5 then rd (M 55) 360 p1 fun r7 => rd (M 56) 4 r7 fun r9 => some r9 else rd (M 55) 360 ((4 * p2) + p1) fun r11 => some r11
theorem o_X6_tub {E : GE} {Q : Option Value → Mem → Prop} {p1 : Int32} {p2 : Int32} {M : Mem} (h : wp (f_X6_tub p1 p2 M) (gI M) Q) : Runs E mi_X6_tub [.ref (ad E 54), .int p1, .int p2] M Q := by
  refine Runs.ofEv (by decide +kernel) (Nat.le_of_ble_eq_true rfl) ?_
  show Ev E mi_X6_tub 0 [(0, .ref (ad E 54)), (1, .int p1), (2, .int p2)] [] M Q
  unfold f_X6_tub at h
  refine Ev.aload_n dX6_tub_0 rfl 0 rfl ?_
  refine Ev.iload_n dX6_tub_1 rfl 1 rfl ?_
  obtain ⟨r1, er1, h⟩ := wp_bind h
  refine Ev.callV (k := 54) (as := [.int p1]) (rest := []) dX6_tub_2 cl_X6_173 mok_X6_isTub rfl (Nat.le_of_ble_eq_true rfl) (Nat.le_of_ble_eq_true rfl) ⟨Nat.le_of_ble_eq_true rfl, Nat.le_of_ble_eq_true rfl⟩ (Nat.le_of_ble_eq_true rfl) rfl rfl (o_X6_isTub ⟨r1, er1, ?_⟩)
  show Ev E mi_X6_tub 5 [(0, .ref (ad E 54)), (1, .int p1), (2, .int p2)] [.int r1] M Q
  refine Ev.if_eq (tgt := 20) dX6_tub_5 (by decide) (fun c2 => ?_) (fun c2 => ?_)
  · replace h := wp_t c2 h
    refine Ev.sub [] rfl ?_
    exact o_X6_tub_20 h
  · replace h := wp_f c2 h
    refine Ev.iload_n dX6_tub_8 rfl 2 rfl ?_
    refine Ev.i2l dX6_tub_9 ?_
    refine Ev.lconst (v := 0) dX6_tub_10 rfl ?_
    refine Ev.ldc2 dX6_tub_11 fc_X6_177 ?_
    obtain ⟨r3, er3, h⟩ := wp_bind h
    refine Ev.callS (as := [.long p2.toInt64, .long 0, .long 5]) (rest := []) dX6_tub_14 cl_X6_73 mos_X6_in ⟨Nat.le_of_ble_eq_true rfl, Nat.le_of_ble_eq_true rfl⟩ (Nat.le_of_ble_eq_true rfl) rfl rfl (o_X6_in ⟨r3, er3, ?_⟩)
    show Ev E mi_X6_tub 17 [(0, .ref (ad E 54)), (1, .int p1), (2, .int p2)] [.int r3] M Q
    refine Ev.if_ne (tgt := 24) dX6_tub_17 (by decide) (fun c4 => ?_) (fun c4 => ?_)
    · replace h := wp_t c4 h
      refine Ev.sub [] rfl ?_
      exact o_X6_tub_20 h
    · replace h := wp_f c4 h
      refine Ev.iload_n dX6_tub_24 rfl 2 rfl ?_
      refine Ev.iconst (v := 5) dX6_tub_25 rfl ?_
      refine Ev.icmp_ne (tgt := 43) dX6_tub_26 (by decide) (fun c5 => ?_) (fun c5 => ?_)
      · replace h := wp_t c5 h
        refine Ev.aload_n dX6_tub_29 rfl 0 rfl ?_
        refine Ev.get dX6_tub_30 fl_X6_13 rfl (Nat.le_of_ble_eq_true rfl) (v := .ref (ad E 56)) rfl ?_
        refine Ev.aload_n dX6_tub_33 rfl 0 rfl ?_
        refine Ev.get dX6_tub_34 fl_X6_7 rfl (Nat.le_of_ble_eq_true rfl) (v := .ref (ad E 55)) rfl ?_
        refine Ev.iload_n dX6_tub_37 rfl 1 rfl ?_
        obtain ⟨g6, h⟩ := wp_rd h
        refine Ev.iald dX6_tub_38 rfl (Nat.le_of_ble_eq_true rfl) rfl g6 ?_
        refine Ev.topi (fun r7 er7 => ?_)
        replace h := h r7 er7
        obtain ⟨g8, h⟩ := wp_rd h
        refine Ev.iald dX6_tub_39 rfl (Nat.le_of_ble_eq_true rfl) rfl g8 ?_
        refine Ev.topi (fun r9 er9 => ?_)
        replace h := h r9 er9
        refine Ev.goto (tgt := 53) dX6_tub_40 (by decide) ?_
        exact Ev.ret dX6_tub_53 rfl rfl (wp_ret h)
      · replace h := wp_f c5 h
        refine Ev.aload_n dX6_tub_43 rfl 0 rfl ?_
        refine Ev.get dX6_tub_44 fl_X6_7 rfl (Nat.le_of_ble_eq_true rfl) (v := .ref (ad E 55)) rfl ?_
        refine Ev.iconst (v := 4) dX6_tub_47 rfl ?_
        refine Ev.iload_n dX6_tub_48 rfl 2 rfl ?_
        refine Ev.imul dX6_tub_49 ?_
        refine Ev.iload_n dX6_tub_50 rfl 1 rfl ?_
        refine Ev.iadd dX6_tub_51 ?_
        obtain ⟨g10, h⟩ := wp_rd h
        refine Ev.iald dX6_tub_52 rfl (Nat.le_of_ble_eq_true rfl) rfl g10 ?_
        refine Ev.topi (fun r11 er11 => ?_)
        replace h := h r11 er11
        exact Ev.ret dX6_tub_53 rfl rfl (wp_ret h)

noncomputable def f_X6_heir (p1 : Int32) (p2 : Int32) (M : Mem) : Option Int32 := (f_X6_isHeir p1 M).bind fun r1 => if r1 = 0 then some (-1) else (f_X6_in p2.toInt64 0 3 M).bind fun r3 => if r3 = 0 then some (-1) else rd (M 55) 360 ((21 + (4 * p1)) + p2) fun r6 => some r6
theorem o_X6_heir {E : GE} {Q : Option Value → Mem → Prop} {p1 : Int32} {p2 : Int32} {M : Mem} (h : wp (f_X6_heir p1 p2 M) (gI M) Q) : Runs E mi_X6_heir [.ref (ad E 54), .int p1, .int p2] M Q := by
  refine Runs.ofEv (by decide +kernel) (Nat.le_of_ble_eq_true rfl) ?_
  show Ev E mi_X6_heir 0 [(0, .ref (ad E 54)), (1, .int p1), (2, .int p2)] [] M Q
  unfold f_X6_heir at h
  refine Ev.aload_n dX6_heir_0 rfl 0 rfl ?_
  refine Ev.iload_n dX6_heir_1 rfl 1 rfl ?_
  obtain ⟨r1, er1, h⟩ := wp_bind h
  refine Ev.callV (k := 54) (as := [.int p1]) (rest := []) dX6_heir_2 cl_X6_179 mok_X6_isHeir rfl (Nat.le_of_ble_eq_true rfl) (Nat.le_of_ble_eq_true rfl) ⟨Nat.le_of_ble_eq_true rfl, Nat.le_of_ble_eq_true rfl⟩ (Nat.le_of_ble_eq_true rfl) rfl rfl (o_X6_isHeir ⟨r1, er1, ?_⟩)
  show Ev E mi_X6_heir 5 [(0, .ref (ad E 54)), (1, .int p1), (2, .int p2)] [.int r1] M Q
  refine Ev.if_eq (tgt := 36) dX6_heir_5 (by decide) (fun c2 => ?_) (fun c2 => ?_)
  · replace h := wp_t c2 h
    refine Ev.iconst (v := (-1)) dX6_heir_36 rfl ?_
    exact Ev.ret dX6_heir_37 rfl rfl (wp_ret h)
  · replace h := wp_f c2 h
    refine Ev.iload_n dX6_heir_8 rfl 2 rfl ?_
    refine Ev.i2l dX6_heir_9 ?_
    refine Ev.lconst (v := 0) dX6_heir_10 rfl ?_
    refine Ev.ldc2 dX6_heir_11 fc_X6_182 ?_
    obtain ⟨r3, er3, h⟩ := wp_bind h
    refine Ev.callS (as := [.long p2.toInt64, .long 0, .long 3]) (rest := []) dX6_heir_14 cl_X6_73 mos_X6_in ⟨Nat.le_of_ble_eq_true rfl, Nat.le_of_ble_eq_true rfl⟩ (Nat.le_of_ble_eq_true rfl) rfl rfl (o_X6_in ⟨r3, er3, ?_⟩)
    show Ev E mi_X6_heir 17 [(0, .ref (ad E 54)), (1, .int p1), (2, .int p2)] [.int r3] M Q
    refine Ev.if_eq (tgt := 36) dX6_heir_17 (by decide) (fun c4 => ?_) (fun c4 => ?_)
    · replace h := wp_t c4 h
      refine Ev.iconst (v := (-1)) dX6_heir_36 rfl ?_
      exact Ev.ret dX6_heir_37 rfl rfl (wp_ret h)
    · replace h := wp_f c4 h
      refine Ev.aload_n dX6_heir_20 rfl 0 rfl ?_
      refine Ev.get dX6_heir_21 fl_X6_7 rfl (Nat.le_of_ble_eq_true rfl) (v := .ref (ad E 55)) rfl ?_
      refine Ev.bipush (v := 21) dX6_heir_24 rfl ?_
      refine Ev.iconst (v := 4) dX6_heir_26 rfl ?_
      refine Ev.iload_n dX6_heir_27 rfl 1 rfl ?_
      refine Ev.imul dX6_heir_28 ?_
      refine Ev.iadd dX6_heir_29 ?_
      refine Ev.iload_n dX6_heir_30 rfl 2 rfl ?_
      refine Ev.iadd dX6_heir_31 ?_
      obtain ⟨g5, h⟩ := wp_rd h
      refine Ev.iald dX6_heir_32 rfl (Nat.le_of_ble_eq_true rfl) rfl g5 ?_
      refine Ev.topi (fun r6 er6 => ?_)
      replace h := h r6 er6
      refine Ev.goto (tgt := 37) dX6_heir_33 (by decide) ?_
      exact Ev.ret dX6_heir_37 rfl rfl (wp_ret h)

noncomputable def f_X6_current (p1 : Int32) (M : Mem) : Option Int32 := (f_X6_in p1.toInt64 0 9 M).bind fun r1 => if r1 = 0 then some (-1) else rd (M 55) 360 (37 + p1) fun r4 => some (r4 + 2)
theorem o_X6_current {E : GE} {Q : Option Value → Mem → Prop} {p1 : Int32} {M : Mem} (h : wp (f_X6_current p1 M) (gI M) Q) : Runs E mi_X6_current [.ref (ad E 54), .int p1] M Q := by
  refine Runs.ofEv (by decide +kernel) (Nat.le_of_ble_eq_true rfl) ?_
  show Ev E mi_X6_current 0 [(0, .ref (ad E 54)), (1, .int p1)] [] M Q
  unfold f_X6_current at h
  refine Ev.iload_n dX6_current_0 rfl 1 rfl ?_
  refine Ev.i2l dX6_current_1 ?_
  refine Ev.lconst (v := 0) dX6_current_2 rfl ?_
  refine Ev.ldc2 dX6_current_3 fc_X6_184 ?_
  obtain ⟨r1, er1, h⟩ := wp_bind h
  refine Ev.callS (as := [.long p1.toInt64, .long 0, .long 9]) (rest := []) dX6_current_6 cl_X6_73 mos_X6_in ⟨Nat.le_of_ble_eq_true rfl, Nat.le_of_ble_eq_true rfl⟩ (Nat.le_of_ble_eq_true rfl) rfl rfl (o_X6_in ⟨r1, er1, ?_⟩)
  show Ev E mi_X6_current 9 [(0, .ref (ad E 54)), (1, .int p1)] [.int r1] M Q
  refine Ev.if_eq (tgt := 26) dX6_current_9 (by decide) (fun c2 => ?_) (fun c2 => ?_)
  · replace h := wp_t c2 h
    refine Ev.iconst (v := (-1)) dX6_current_26 rfl ?_
    exact Ev.ret dX6_current_27 rfl rfl (wp_ret h)
  · replace h := wp_f c2 h
    refine Ev.aload_n dX6_current_12 rfl 0 rfl ?_
    refine Ev.get dX6_current_13 fl_X6_7 rfl (Nat.le_of_ble_eq_true rfl) (v := .ref (ad E 55)) rfl ?_
    refine Ev.bipush (v := 37) dX6_current_16 rfl ?_
    refine Ev.iload_n dX6_current_18 rfl 1 rfl ?_
    refine Ev.iadd dX6_current_19 ?_
    obtain ⟨g3, h⟩ := wp_rd h
    refine Ev.iald dX6_current_20 rfl (Nat.le_of_ble_eq_true rfl) rfl g3 ?_
    refine Ev.topi (fun r4 er4 => ?_)
    replace h := h r4 er4
    refine Ev.iconst (v := 2) dX6_current_21 rfl ?_
    refine Ev.iadd dX6_current_22 ?_
    refine Ev.goto (tgt := 27) dX6_current_23 (by decide) ?_
    exact Ev.ret dX6_current_27 rfl rfl (wp_ret h)

noncomputable def f_X6_wind (p1 : Int32) (M : Mem) : Option Int32 := (f_X6_isHour p1 M).bind fun r1 => if r1 = 0 then some (-1) else rd (M 55) 360 (47 + p1) fun r4 => some r4
theorem o_X6_wind {E : GE} {Q : Option Value → Mem → Prop} {p1 : Int32} {M : Mem} (h : wp (f_X6_wind p1 M) (gI M) Q) : Runs E mi_X6_wind [.ref (ad E 54), .int p1] M Q := by
  refine Runs.ofEv (by decide +kernel) (Nat.le_of_ble_eq_true rfl) ?_
  show Ev E mi_X6_wind 0 [(0, .ref (ad E 54)), (1, .int p1)] [] M Q
  unfold f_X6_wind at h
  refine Ev.iload_n dX6_wind_0 rfl 1 rfl ?_
  obtain ⟨r1, er1, h⟩ := wp_bind h
  refine Ev.callS (as := [.int p1]) (rest := []) dX6_wind_1 cl_X6_186 mos_X6_isHour ⟨Nat.le_of_ble_eq_true rfl, Nat.le_of_ble_eq_true rfl⟩ (Nat.le_of_ble_eq_true rfl) rfl rfl (o_X6_isHour ⟨r1, er1, ?_⟩)
  show Ev E mi_X6_wind 4 [(0, .ref (ad E 54)), (1, .int p1)] [.int r1] M Q
  refine Ev.if_eq (tgt := 19) dX6_wind_4 (by decide) (fun c2 => ?_) (fun c2 => ?_)
  · replace h := wp_t c2 h
    refine Ev.iconst (v := (-1)) dX6_wind_19 rfl ?_
    exact Ev.ret dX6_wind_20 rfl rfl (wp_ret h)
  · replace h := wp_f c2 h
    refine Ev.aload_n dX6_wind_7 rfl 0 rfl ?_
    refine Ev.get dX6_wind_8 fl_X6_7 rfl (Nat.le_of_ble_eq_true rfl) (v := .ref (ad E 55)) rfl ?_
    refine Ev.bipush (v := 47) dX6_wind_11 rfl ?_
    refine Ev.iload_n dX6_wind_13 rfl 1 rfl ?_
    refine Ev.iadd dX6_wind_14 ?_
    obtain ⟨g3, h⟩ := wp_rd h
    refine Ev.iald dX6_wind_15 rfl (Nat.le_of_ble_eq_true rfl) rfl g3 ?_
    refine Ev.topi (fun r4 er4 => ?_)
    replace h := h r4 er4
    refine Ev.goto (tgt := 20) dX6_wind_16 (by decide) ?_
    exact Ev.ret dX6_wind_20 rfl rfl (wp_ret h)

noncomputable def f_X6_puts (p1 : Int32) (p2 : Int32) (p3 : Int32) (p4 : Int32) (M : Mem) : Option (Int32 × Mem) := if p1 = 0 then some ((-1), M) else rd (M 55) 360 p2 fun r3 => li (r3 + p4) fun y4 => inb p2 360 <| lm (up M 55 p2.toNatClampNeg (p3 - p4)) fun M6 => some (y4, M6)
theorem o_X6_puts {E : GE} {Q : Option Value → Mem → Prop} {p1 : Int32} {p2 : Int32} {p3 : Int32} {p4 : Int32} {M : Mem} (h : wp (f_X6_puts p1 p2 p3 p4 M) gIM Q) : Runs E mi_X6_puts [.ref (ad E 54), .int p1, .int p2, .int p3, .int p4] M Q := by
  refine Runs.ofEv (by decide +kernel) (Nat.le_of_ble_eq_true rfl) ?_
  show Ev E mi_X6_puts 0 [(0, .ref (ad E 54)), (1, .int p1), (2, .int p2), (3, .int p3), (4, .int p4)] [] M Q
  unfold f_X6_puts at h
  refine Ev.iload_n dX6_puts_0 rfl 1 rfl ?_
  refine Ev.if_ne (tgt := 6) dX6_puts_1 (by decide) (fun c1 => ?_) (fun c1 => ?_)
  · replace h := wp_t c1 h
    refine Ev.iconst (v := (-1)) dX6_puts_4 rfl ?_
    exact Ev.ret dX6_puts_5 rfl rfl (wp_ret h)
  · replace h := wp_f c1 h
    refine Ev.aload_n dX6_puts_6 rfl 0 rfl ?_
    refine Ev.get dX6_puts_7 fl_X6_7 rfl (Nat.le_of_ble_eq_true rfl) (v := .ref (ad E 55)) rfl ?_
    refine Ev.iload_n dX6_puts_10 rfl 2 rfl ?_
    obtain ⟨g2, h⟩ := wp_rd h
    refine Ev.iald dX6_puts_11 rfl (Nat.le_of_ble_eq_true rfl) rfl g2 ?_
    refine Ev.topi (fun r3 er3 => ?_)
    replace h := h r3 er3
    refine Ev.iload dX6_puts_12 4 rfl ?_
    refine Ev.iadd dX6_puts_14 ?_
    refine Ev.topi (fun y4 ey4 => ?_)
    replace h := wp_li h y4 ey4
    refine Ev.istore dX6_puts_15 (Nat.le_of_ble_eq_true rfl) rfl ?_
    show Ev E mi_X6_puts 17 [(5, .int y4), (0, .ref (ad E 54)), (1, .int p1), (2, .int p2), (3, .int p3), (4, .int p4)] [] M Q
    refine Ev.aload_n dX6_puts_17 rfl 1 rfl ?_
    refine Ev.get dX6_puts_18 fl_X6_7 rfl (Nat.le_of_ble_eq_true rfl) (v := .ref (ad E 55)) rfl ?_
    refine Ev.iload_n dX6_puts_21 rfl 3 rfl ?_
    refine Ev.iload_n dX6_puts_22 rfl 4 rfl ?_
    refine Ev.iload dX6_puts_23 5 rfl ?_
    refine Ev.isub dX6_puts_25 ?_
    obtain ⟨g5, h⟩ := wp_inb h
    refine Ev.iast dX6_puts_26 rfl (Nat.le_of_ble_eq_true rfl) rfl g5 ?_
    refine Ev.topM (fun M6 eM6 => ?_)
    replace h := wp_lm h M6 eM6
    refine Ev.iload dX6_puts_27 0 rfl ?_
    exact Ev.ret dX6_puts_29 rfl rfl (wp_ret h)

noncomputable def f_X6_alter_89 (p1 : Int32) (p2 : Int32) (p3 : Int32) (s1 : Int32) (M : Mem) : Option (Int32 × Mem) := (f_X6_puts s1 ((4 * p2) + p1) p3 0 M).bind fun r1 => some (r1.1, r1.2)
theorem o_X6_alter_89 {E : GE} {Q : Option Value → Mem → Prop} {p1 : Int32} {p2 : Int32} {p3 : Int32} {s1 : Int32} {M : Mem} (h : wp (f_X6_alter_89 p1 p2 p3 s1 M) gIM Q) : Ev E mi_X6_alter 89 [(1, .int p1), (2, .int p2), (3, .int p3)] [.int s1, .ref (ad E 54)] M Q := by
  unfold f_X6_alter_89 at h
  refine Ev.iconst (v := 4) dX6_alter_89 rfl ?_
  refine Ev.iload_n dX6_alter_90 rfl 1 rfl ?_
  refine Ev.imul dX6_alter_91 ?_
  refine Ev.iload_n dX6_alter_92 rfl 0 rfl ?_
  refine Ev.iadd dX6_alter_93 ?_
  refine Ev.iload_n dX6_alter_94 rfl 2 rfl ?_
  refine Ev.iconst (v := 0) dX6_alter_95 rfl ?_
  obtain ⟨r1, er1, h⟩ := wp_bind h
  refine Ev.callV (k := 54) (as := [.int s1, .int ((4 * p2) + p1), .int p3, .int 0]) (rest := []) dX6_alter_96 cl_X6_191 mok_X6_puts rfl (Nat.le_of_ble_eq_true rfl) (Nat.le_of_ble_eq_true rfl) ⟨Nat.le_of_ble_eq_true rfl, Nat.le_of_ble_eq_true rfl⟩ (Nat.le_of_ble_eq_true rfl) rfl rfl (o_X6_puts ⟨r1, er1, ?_⟩)
  show Ev E mi_X6_alter 99 [(1, .int p1), (2, .int p2), (3, .int p3)] [.int r1.1] r1.2 Q
  exact Ev.ret dX6_alter_99 rfl rfl (wp_ret h)
noncomputable def f_X6_alter_88 (p1 : Int32) (p2 : Int32) (p3 : Int32) (M : Mem) : Option (Int32 × Mem) := f_X6_alter_89 p1 p2 p3 0 M
theorem o_X6_alter_88 {E : GE} {Q : Option Value → Mem → Prop} {p1 : Int32} {p2 : Int32} {p3 : Int32} {M : Mem} (h : wp (f_X6_alter_88 p1 p2 p3 M) gIM Q) : Ev E mi_X6_alter 88 [(1, .int p1), (2, .int p2), (3, .int p3)] [.ref (ad E 54)] M Q := by
  unfold f_X6_alter_88 at h
  refine Ev.iconst (v := 0) dX6_alter_88 rfl ?_
  exact o_X6_alter_89 h
noncomputable def f_X6_alter_47 (p1 : Int32) (p2 : Int32) (p3 : Int32) (x4 : Int32) (s0 : Int32) (M : Mem) : Option (Int32 × Mem) := (f_X6_isTub p1 M).bind fun r1 => if r1 = 0 then f_X6_alter_88 p1 p2 p3 M else (f_X6_in p2.toInt64 0 4 M).bind fun r3 => if r3 = 0 then f_X6_alter_88 p1 p2 p3 M else (f_X6_in p3.toInt64 x4.toInt64 s0.toInt64 M).bind fun r5 => if r5 = 0 then f_X6_alter_88 p1 p2 p3 M else f_X6_alter_89 p1 p2 p3 1 M
theorem o_X6_alter_47 {E : GE} {Q : Option Value → Mem → Prop} {p1 : Int32} {p2 : Int32} {p3 : Int32} {x4 : Int32} {s0 : Int32} {M : Mem} (h : wp (f_X6_alter_47 p1 p2 p3 x4 s0 M) gIM Q) : Ev E mi_X6_alter 47 [(0, .ref (ad E 54)), (1, .int p1), (2, .int p2), (3, .int p3), (4, .int x4)] [.int s0] M Q := by
  unfold f_X6_alter_47 at h
  refine Ev.istore dX6_alter_47 (Nat.le_of_ble_eq_true rfl) rfl ?_
  show Ev E mi_X6_alter 49 [(5, .int s0), (0, .ref (ad E 54)), (1, .int p1), (2, .int p2), (3, .int p3), (4, .int x4)] [] M Q
  refine Ev.aload_n dX6_alter_49 rfl 1 rfl ?_
  refine Ev.aload_n dX6_alter_50 rfl 1 rfl ?_
  refine Ev.iload_n dX6_alter_51 rfl 2 rfl ?_
  obtain ⟨r1, er1, h⟩ := wp_bind h
  refine Ev.callV (k := 54) (as := [.int p1]) (rest := [.ref (ad E 54)]) dX6_alter_52 cl_X6_173 mok_X6_isTub rfl (Nat.le_of_ble_eq_true rfl) (Nat.le_of_ble_eq_true rfl) ⟨Nat.le_of_ble_eq_true rfl, Nat.le_of_ble_eq_true rfl⟩ (Nat.le_of_ble_eq_true rfl) rfl rfl (o_X6_isTub ⟨r1, er1, ?_⟩)
  show Ev E mi_X6_alter 55 [(5, .int s0), (0, .ref (ad E 54)), (1, .int p1), (2, .int p2), (3, .int p3), (4, .int x4)] [.int r1, .ref (ad E 54)] M Q
  refine Ev.if_eq (tgt := 88) dX6_alter_55 (by decide) (fun c2 => ?_) (fun c2 => ?_)
  · replace h := wp_t c2 h
    refine Ev.sub [2, 3, 4] rfl ?_
    exact o_X6_alter_88 h
  · replace h := wp_f c2 h
    refine Ev.iload_n dX6_alter_58 rfl 3 rfl ?_
    refine Ev.i2l dX6_alter_59 ?_
    refine Ev.lconst (v := 0) dX6_alter_60 rfl ?_
    refine Ev.ldc2 dX6_alter_61 fc_X6_189 ?_
    obtain ⟨r3, er3, h⟩ := wp_bind h
    refine Ev.callS (as := [.long p2.toInt64, .long 0, .long 4]) (rest := [.ref (ad E 54)]) dX6_alter_64 cl_X6_73 mos_X6_in ⟨Nat.le_of_ble_eq_true rfl, Nat.le_of_ble_eq_true rfl⟩ (Nat.le_of_ble_eq_true rfl) rfl rfl (o_X6_in ⟨r3, er3, ?_⟩)
    show Ev E mi_X6_alter 67 [(5, .int s0), (0, .ref (ad E 54)), (1, .int p1), (2, .int p2), (3, .int p3), (4, .int x4)] [.int r3, .ref (ad E 54)] M Q
    refine Ev.if_eq (tgt := 88) dX6_alter_67 (by decide) (fun c4 => ?_) (fun c4 => ?_)
    · replace h := wp_t c4 h
      refine Ev.sub [2, 3, 4] rfl ?_
      exact o_X6_alter_88 h
    · replace h := wp_f c4 h
      refine Ev.iload_n dX6_alter_70 rfl 4 rfl ?_
      refine Ev.i2l dX6_alter_71 ?_
      refine Ev.iload dX6_alter_72 5 rfl ?_
      refine Ev.i2l dX6_alter_74 ?_
      refine Ev.iload dX6_alter_75 0 rfl ?_
      refine Ev.i2l dX6_alter_77 ?_
      obtain ⟨r5, er5, h⟩ := wp_bind h
      refine Ev.callS (as := [.long p3.toInt64, .long x4.toInt64, .long s0.toInt64]) (rest := [.ref (ad E 54)]) dX6_alter_78 cl_X6_73 mos_X6_in ⟨Nat.le_of_ble_eq_true rfl, Nat.le_of_ble_eq_true rfl⟩ (Nat.le_of_ble_eq_true rfl) rfl rfl (o_X6_in ⟨r5, er5, ?_⟩)
      show Ev E mi_X6_alter 81 [(5, .int s0), (0, .ref (ad E 54)), (1, .int p1), (2, .int p2), (3, .int p3), (4, .int x4)] [.int r5, .ref (ad E 54)] M Q
      refine Ev.if_eq (tgt := 88) dX6_alter_81 (by decide) (fun c6 => ?_) (fun c6 => ?_)
      · replace h := wp_t c6 h
        refine Ev.sub [2, 3, 4] rfl ?_
        exact o_X6_alter_88 h
      · replace h := wp_f c6 h
        refine Ev.iconst (v := 1) dX6_alter_84 rfl ?_
        refine Ev.goto (tgt := 89) dX6_alter_85 (by decide) ?_
        refine Ev.sub [2, 3, 4] rfl ?_
        exact o_X6_alter_89 h
noncomputable def f_X6_alter_15 (p1 : Int32) (p2 : Int32) (p3 : Int32) (s0 : Int32) (M : Mem) : Option (Int32 × Mem) := if p2 = 0 then f_X6_alter_47 p1 p2 p3 s0 3 M else if 3 ≤ p2 then if p2 = 3 then f_X6_alter_47 p1 p2 p3 s0 23 M else f_X6_alter_47 p1 p2 p3 s0 99 M else f_X6_alter_47 p1 p2 p3 s0 9 M
theorem o_X6_alter_15 {E : GE} {Q : Option Value → Mem → Prop} {p1 : Int32} {p2 : Int32} {p3 : Int32} {s0 : Int32} {M : Mem} (h : wp (f_X6_alter_15 p1 p2 p3 s0 M) gIM Q) : Ev E mi_X6_alter 15 [(0, .ref (ad E 54)), (1, .int p1), (2, .int p2), (3, .int p3)] [.int s0] M Q := by
  unfold f_X6_alter_15 at h
  refine Ev.istore dX6_alter_15 (Nat.le_of_ble_eq_true rfl) rfl ?_
  show Ev E mi_X6_alter 17 [(4, .int s0), (0, .ref (ad E 54)), (1, .int p1), (2, .int p2), (3, .int p3)] [] M Q
  refine Ev.iload_n dX6_alter_17 rfl 3 rfl ?_
  refine Ev.if_ne (tgt := 25) dX6_alter_18 (by decide) (fun c1 => ?_) (fun c1 => ?_)
  · replace h := wp_t c1 h
    refine Ev.iconst (v := 3) dX6_alter_21 rfl ?_
    refine Ev.goto (tgt := 47) dX6_alter_22 (by decide) ?_
    refine Ev.sub [1, 2, 3, 4, 0] rfl ?_
    exact o_X6_alter_47 h
  · replace h := wp_f c1 h
    refine Ev.iload_n dX6_alter_25 rfl 3 rfl ?_
    refine Ev.iconst (v := 3) dX6_alter_26 rfl ?_
    refine Ev.icmp_ge (tgt := 35) dX6_alter_27 (by decide) (fun c2 => ?_) (fun c2 => ?_)
    · replace h := wp_t c2 h
      refine Ev.iload_n dX6_alter_35 rfl 3 rfl ?_
      refine Ev.iconst (v := 3) dX6_alter_36 rfl ?_
      refine Ev.icmp_ne (tgt := 45) dX6_alter_37 (by decide) (fun c3 => ?_) (fun c3 => ?_)
      · replace h := wp_t c3 h
        refine Ev.bipush (v := 23) dX6_alter_40 rfl ?_
        refine Ev.goto (tgt := 47) dX6_alter_42 (by decide) ?_
        refine Ev.sub [1, 2, 3, 4, 0] rfl ?_
        exact o_X6_alter_47 h
      · replace h := wp_f c3 h
        refine Ev.bipush (v := 99) dX6_alter_45 rfl ?_
        refine Ev.sub [1, 2, 3, 4, 0] rfl ?_
        exact o_X6_alter_47 h
    · replace h := wp_f c2 h
      refine Ev.bipush (v := 9) dX6_alter_30 rfl ?_
      refine Ev.goto (tgt := 47) dX6_alter_32 (by decide) ?_
      refine Ev.sub [1, 2, 3, 4, 0] rfl ?_
      exact o_X6_alter_47 h
noncomputable def f_X6_alter_10 (p1 : Int32) (p2 : Int32) (p3 : Int32) (M : Mem) : Option (Int32 × Mem) := f_X6_alter_15 p1 p2 p3 1 M
theorem o_X6_alter_10 {E : GE} {Q : Option Value → Mem → Prop} {p1 : Int32} {p2 : Int32} {p3 : Int32} {M : Mem} (h : wp (f_X6_alter_10 p1 p2 p3 M) gIM Q) : Ev E mi_X6_alter 10 [(0, .ref (ad E 54)), (1, .int p1), (2, .int p2), (3, .int p3)] [] M Q := by
  unfold f_X6_alter_10 at h
  refine Ev.iconst (v := 1) dX6_alter_10 rfl ?_
  refine Ev.goto (tgt := 15) dX6_alter_11 (by decide) ?_
  exact o_X6_alter_15 h
noncomputable def f_X6_alter (p1 : Int32) (p2 : Int32) (p3 : Int32) (M : Mem) : Option (Int32 × Mem) := if p2 = 2 then f_X6_alter_10 p1 p2 p3 M else if p2 = 4 then f_X6_alter_10 p1 p2 p3 M else f_X6_alter_15 p1 p2 p3 0 M
theorem o_X6_alter {E : GE} {Q : Option Value → Mem → Prop} {p1 : Int32} {p2 : Int32} {p3 : Int32} {M : Mem} (h : wp (f_X6_alter p1 p2 p3 M) gIM Q) : Runs E mi_X6_alter [.ref (ad E 54), .int p1, .int p2, .int p3] M Q := by
  refine Runs.ofEv (by decide +kernel) (Nat.le_of_ble_eq_true rfl) ?_
  show Ev E mi_X6_alter 0 [(0, .ref (ad E 54)), (1, .int p1), (2, .int p2), (3, .int p3)] [] M Q
  unfold f_X6_alter at h
  refine Ev.iload_n dX6_alter_0 rfl 2 rfl ?_
  refine Ev.iconst (v := 2) dX6_alter_1 rfl ?_
  refine Ev.icmp_eq (tgt := 10) dX6_alter_2 (by decide) (fun c1 => ?_) (fun c1 => ?_)
  · replace h := wp_t c1 h
    exact o_X6_alter_10 h
  · replace h := wp_f c1 h
    refine Ev.iload_n dX6_alter_5 rfl 2 rfl ?_
    refine Ev.iconst (v := 4) dX6_alter_6 rfl ?_
    refine Ev.icmp_ne (tgt := 14) dX6_alter_7 (by decide) (fun c2 => ?_) (fun c2 => ?_)
    · replace h := wp_t c2 h
      exact o_X6_alter_10 h
    · replace h := wp_f c2 h
      refine Ev.iconst (v := 0) dX6_alter_14 rfl ?_
      exact o_X6_alter_15 h

noncomputable def f_X6_stand_79 (p1 : Int32) (p2 : Int32) (p3 : Int32) (x4 : Int32) (x5 : Int32) (s0 : Int32) (M : Mem) : Option (Int32 × Mem) := (f_X6_in p3.toInt64 x5.toInt64 s0.toInt64 M).bind fun r1 => (f_X6_puts r1 (x4 + p2) p3 0 M).bind fun r2 => some (r2.1, r2.2)
theorem o_X6_stand_79 {E : GE} {Q : Option Value → Mem → Prop} {p1 : Int32} {p2 : Int32} {p3 : Int32} {x4 : Int32} {x5 : Int32} {s0 : Int32} {M : Mem} (h : wp (f_X6_stand_79 p1 p2 p3 x4 x5 s0 M) gIM Q) : Ev E mi_X6_stand 79 [(0, .ref (ad E 54)), (2, .int p2), (3, .int p3), (4, .int x4), (5, .int x5)] [.int s0] M Q := by
  unfold f_X6_stand_79 at h
  refine Ev.istore dX6_stand_79 (Nat.le_of_ble_eq_true rfl) rfl ?_
  show Ev E mi_X6_stand 81 [(6, .int s0), (0, .ref (ad E 54)), (2, .int p2), (3, .int p3), (4, .int x4), (5, .int x5)] [] M Q
  refine Ev.aload_n dX6_stand_81 rfl 1 rfl ?_
  refine Ev.iload_n dX6_stand_82 rfl 3 rfl ?_
  refine Ev.i2l dX6_stand_83 ?_
  refine Ev.iload dX6_stand_84 5 rfl ?_
  refine Ev.i2l dX6_stand_86 ?_
  refine Ev.iload dX6_stand_87 0 rfl ?_
  refine Ev.i2l dX6_stand_89 ?_
  obtain ⟨r1, er1, h⟩ := wp_bind h
  refine Ev.callS (as := [.long p3.toInt64, .long x5.toInt64, .long s0.toInt64]) (rest := [.ref (ad E 54)]) dX6_stand_90 cl_X6_73 mos_X6_in ⟨Nat.le_of_ble_eq_true rfl, Nat.le_of_ble_eq_true rfl⟩ (Nat.le_of_ble_eq_true rfl) rfl rfl (o_X6_in ⟨r1, er1, ?_⟩)
  show Ev E mi_X6_stand 93 [(6, .int s0), (0, .ref (ad E 54)), (2, .int p2), (3, .int p3), (4, .int x4), (5, .int x5)] [.int r1, .ref (ad E 54)] M Q
  refine Ev.iload dX6_stand_93 4 rfl ?_
  refine Ev.iload_n dX6_stand_95 rfl 2 rfl ?_
  refine Ev.iadd dX6_stand_96 ?_
  refine Ev.iload_n dX6_stand_97 rfl 3 rfl ?_
  refine Ev.iconst (v := 0) dX6_stand_98 rfl ?_
  obtain ⟨r2, er2, h⟩ := wp_bind h
  refine Ev.callV (k := 54) (as := [.int r1, .int (x4 + p2), .int p3, .int 0]) (rest := []) dX6_stand_99 cl_X6_191 mok_X6_puts rfl (Nat.le_of_ble_eq_true rfl) (Nat.le_of_ble_eq_true rfl) ⟨Nat.le_of_ble_eq_true rfl, Nat.le_of_ble_eq_true rfl⟩ (Nat.le_of_ble_eq_true rfl) rfl rfl (o_X6_puts ⟨r2, er2, ?_⟩)
  show Ev E mi_X6_stand 102 [(6, .int s0), (0, .ref (ad E 54)), (2, .int p2), (3, .int p3), (4, .int x4), (5, .int x5)] [.int r2.1] r2.2 Q
  exact Ev.ret dX6_stand_102 rfl rfl (wp_ret h)
noncomputable def f_X6_stand_48 (p1 : Int32) (p2 : Int32) (p3 : Int32) (x4 : Int32) (s0 : Int32) (M : Mem) : Option (Int32 × Mem) := if p2 = 1 then rd (M 55) 360 (x4 + 2) fun r3 => f_X6_stand_79 p1 p2 p3 x4 s0 r3 M else if p2 = 2 then f_X6_stand_79 p1 p2 p3 x4 s0 23 M else f_X6_stand_79 p1 p2 p3 x4 s0 9 M
theorem o_X6_stand_48 {E : GE} {Q : Option Value → Mem → Prop} {p1 : Int32} {p2 : Int32} {p3 : Int32} {x4 : Int32} {s0 : Int32} {M : Mem} (h : wp (f_X6_stand_48 p1 p2 p3 x4 s0 M) gIM Q) : Ev E mi_X6_stand 48 [(0, .ref (ad E 54)), (2, .int p2), (3, .int p3), (4, .int x4)] [.int s0] M Q := by
  unfold f_X6_stand_48 at h
  refine Ev.istore dX6_stand_48 (Nat.le_of_ble_eq_true rfl) rfl ?_
  show Ev E mi_X6_stand 50 [(5, .int s0), (0, .ref (ad E 54)), (2, .int p2), (3, .int p3), (4, .int x4)] [] M Q
  refine Ev.iload_n dX6_stand_50 rfl 2 rfl ?_
  refine Ev.iconst (v := 1) dX6_stand_51 rfl ?_
  refine Ev.icmp_ne (tgt := 67) dX6_stand_52 (by decide) (fun c1 => ?_) (fun c1 => ?_)
  · replace h := wp_t c1 h
    refine Ev.aload_n dX6_stand_55 rfl 1 rfl ?_
    refine Ev.get dX6_stand_56 fl_X6_7 rfl (Nat.le_of_ble_eq_true rfl) (v := .ref (ad E 55)) rfl ?_
    refine Ev.iload dX6_stand_59 4 rfl ?_
    refine Ev.iconst (v := 2) dX6_stand_61 rfl ?_
    refine Ev.iadd dX6_stand_62 ?_
    obtain ⟨g2, h⟩ := wp_rd h
    refine Ev.iald dX6_stand_63 rfl (Nat.le_of_ble_eq_true rfl) rfl g2 ?_
    refine Ev.topi (fun r3 er3 => ?_)
    replace h := h r3 er3
    refine Ev.goto (tgt := 79) dX6_stand_64 (by decide) ?_
    refine Ev.sub [1, 2, 3, 4, 0] rfl ?_
    exact o_X6_stand_79 h
  · replace h := wp_f c1 h
    refine Ev.iload_n dX6_stand_67 rfl 2 rfl ?_
    refine Ev.iconst (v := 2) dX6_stand_68 rfl ?_
    refine Ev.icmp_ne (tgt := 77) dX6_stand_69 (by decide) (fun c4 => ?_) (fun c4 => ?_)
    · replace h := wp_t c4 h
      refine Ev.bipush (v := 23) dX6_stand_72 rfl ?_
      refine Ev.goto (tgt := 79) dX6_stand_74 (by decide) ?_
      refine Ev.sub [1, 2, 3, 4, 0] rfl ?_
      exact o_X6_stand_79 h
    · replace h := wp_f c4 h
      refine Ev.bipush (v := 9) dX6_stand_77 rfl ?_
      refine Ev.sub [1, 2, 3, 4, 0] rfl ?_
      exact o_X6_stand_79 h
noncomputable def f_X6_stand (p1 : Int32) (p2 : Int32) (p3 : Int32) (M : Mem) : Option (Int32 × Mem) := (f_X6_isHeir p1 M).bind fun r1 => if r1 = 0 then some ((-1), M) else (f_X6_in p2.toInt64 0 3 M).bind fun r3 => if r3 = 0 then some ((-1), M) else li (21 + (4 * p1)) fun y5 => if p2 = 2 then rd (M 55) 360 (y5 + 1) fun r8 => f_X6_stand_48 p1 p2 p3 y5 r8 M else f_X6_stand_48 p1 p2 p3 y5 0 M
theorem o_X6_stand {E : GE} {Q : Option Value → Mem → Prop} {p1 : Int32} {p2 : Int32} {p3 : Int32} {M : Mem} (h : wp (f_X6_stand p1 p2 p3 M) gIM Q) : Runs E mi_X6_stand [.ref (ad E 54), .int p1, .int p2, .int p3] M Q := by
  refine Runs.ofEv (by decide +kernel) (Nat.le_of_ble_eq_true rfl) ?_
  show Ev E mi_X6_stand 0 [(0, .ref (ad E 54)), (1, .int p1), (2, .int p2), (3, .int p3)] [] M Q
  unfold f_X6_stand at h
  refine Ev.aload_n dX6_stand_0 rfl 0 rfl ?_
  refine Ev.iload_n dX6_stand_1 rfl 1 rfl ?_
  obtain ⟨r1, er1, h⟩ := wp_bind h
  refine Ev.callV (k := 54) (as := [.int p1]) (rest := []) dX6_stand_2 cl_X6_179 mok_X6_isHeir rfl (Nat.le_of_ble_eq_true rfl) (Nat.le_of_ble_eq_true rfl) ⟨Nat.le_of_ble_eq_true rfl, Nat.le_of_ble_eq_true rfl⟩ (Nat.le_of_ble_eq_true rfl) rfl rfl (o_X6_isHeir ⟨r1, er1, ?_⟩)
  show Ev E mi_X6_stand 5 [(0, .ref (ad E 54)), (1, .int p1), (2, .int p2), (3, .int p3)] [.int r1] M Q
  refine Ev.if_eq (tgt := 20) dX6_stand_5 (by decide) (fun c2 => ?_) (fun c2 => ?_)
  · replace h := wp_t c2 h
    refine Ev.iconst (v := (-1)) dX6_stand_20 rfl ?_
    exact Ev.ret dX6_stand_21 rfl rfl (wp_ret h)
  · replace h := wp_f c2 h
    refine Ev.iload_n dX6_stand_8 rfl 2 rfl ?_
    refine Ev.i2l dX6_stand_9 ?_
    refine Ev.lconst (v := 0) dX6_stand_10 rfl ?_
    refine Ev.ldc2 dX6_stand_11 fc_X6_182 ?_
    obtain ⟨r3, er3, h⟩ := wp_bind h
    refine Ev.callS (as := [.long p2.toInt64, .long 0, .long 3]) (rest := []) dX6_stand_14 cl_X6_73 mos_X6_in ⟨Nat.le_of_ble_eq_true rfl, Nat.le_of_ble_eq_true rfl⟩ (Nat.le_of_ble_eq_true rfl) rfl rfl (o_X6_in ⟨r3, er3, ?_⟩)
    show Ev E mi_X6_stand 17 [(0, .ref (ad E 54)), (1, .int p1), (2, .int p2), (3, .int p3)] [.int r3] M Q
    refine Ev.if_ne (tgt := 22) dX6_stand_17 (by decide) (fun c4 => ?_) (fun c4 => ?_)
    · replace h := wp_t c4 h
      refine Ev.iconst (v := (-1)) dX6_stand_20 rfl ?_
      exact Ev.ret dX6_stand_21 rfl rfl (wp_ret h)
    · replace h := wp_f c4 h
      refine Ev.bipush (v := 21) dX6_stand_22 rfl ?_
      refine Ev.iconst (v := 4) dX6_stand_24 rfl ?_
      refine Ev.iload_n dX6_stand_25 rfl 1 rfl ?_
      refine Ev.imul dX6_stand_26 ?_
      refine Ev.iadd dX6_stand_27 ?_
      refine Ev.topi (fun y5 ey5 => ?_)
      replace h := wp_li h y5 ey5
      refine Ev.istore dX6_stand_28 (Nat.le_of_ble_eq_true rfl) rfl ?_
      show Ev E mi_X6_stand 30 [(4, .int y5), (0, .ref (ad E 54)), (1, .int p1), (2, .int p2), (3, .int p3)] [] M Q
      refine Ev.iload_n dX6_stand_30 rfl 3 rfl ?_
      refine Ev.iconst (v := 2) dX6_stand_31 rfl ?_
      refine Ev.icmp_ne (tgt := 47) dX6_stand_32 (by decide) (fun c6 => ?_) (fun c6 => ?_)
      · replace h := wp_t c6 h
        refine Ev.aload_n dX6_stand_35 rfl 1 rfl ?_
        refine Ev.get dX6_stand_36 fl_X6_7 rfl (Nat.le_of_ble_eq_true rfl) (v := .ref (ad E 55)) rfl ?_
        refine Ev.iload dX6_stand_39 0 rfl ?_
        refine Ev.iconst (v := 1) dX6_stand_41 rfl ?_
        refine Ev.iadd dX6_stand_42 ?_
        obtain ⟨g7, h⟩ := wp_rd h
        refine Ev.iald dX6_stand_43 rfl (Nat.le_of_ble_eq_true rfl) rfl g7 ?_
        refine Ev.topi (fun r8 er8 => ?_)
        replace h := h r8 er8
        refine Ev.goto (tgt := 48) dX6_stand_44 (by decide) ?_
        refine Ev.sub [1, 3, 4, 0] rfl ?_
        exact o_X6_stand_48 h
      · replace h := wp_f c6 h
        refine Ev.iconst (v := 0) dX6_stand_47 rfl ?_
        refine Ev.sub [1, 3, 4, 0] rfl ?_
        exact o_X6_stand_48 h

noncomputable def f_X6_set_30 (p1 : Int32) (p2 : Int32) (s1 : Int32) (M : Mem) : Option (Int32 × Mem) := (f_X6_puts s1 (37 + p1) p2 2 M).bind fun r1 => some (r1.1, r1.2)
theorem o_X6_set_30 {E : GE} {Q : Option Value → Mem → Prop} {p1 : Int32} {p2 : Int32} {s1 : Int32} {M : Mem} (h : wp (f_X6_set_30 p1 p2 s1 M) gIM Q) : Ev E mi_X6_set 30 [(1, .int p1), (2, .int p2)] [.int s1, .ref (ad E 54)] M Q := by
  unfold f_X6_set_30 at h
  refine Ev.bipush (v := 37) dX6_set_30 rfl ?_
  refine Ev.iload_n dX6_set_32 rfl 0 rfl ?_
  refine Ev.iadd dX6_set_33 ?_
  refine Ev.iload_n dX6_set_34 rfl 1 rfl ?_
  refine Ev.iconst (v := 2) dX6_set_35 rfl ?_
  obtain ⟨r1, er1, h⟩ := wp_bind h
  refine Ev.callV (k := 54) (as := [.int s1, .int (37 + p1), .int p2, .int 2]) (rest := []) dX6_set_36 cl_X6_191 mok_X6_puts rfl (Nat.le_of_ble_eq_true rfl) (Nat.le_of_ble_eq_true rfl) ⟨Nat.le_of_ble_eq_true rfl, Nat.le_of_ble_eq_true rfl⟩ (Nat.le_of_ble_eq_true rfl) rfl rfl (o_X6_puts ⟨r1, er1, ?_⟩)
  show Ev E mi_X6_set 39 [(1, .int p1), (2, .int p2)] [.int r1.1] r1.2 Q
  exact Ev.ret dX6_set_39 rfl rfl (wp_ret h)
noncomputable def f_X6_set_29 (p1 : Int32) (p2 : Int32) (M : Mem) : Option (Int32 × Mem) := f_X6_set_30 p1 p2 0 M
theorem o_X6_set_29 {E : GE} {Q : Option Value → Mem → Prop} {p1 : Int32} {p2 : Int32} {M : Mem} (h : wp (f_X6_set_29 p1 p2 M) gIM Q) : Ev E mi_X6_set 29 [(1, .int p1), (2, .int p2)] [.ref (ad E 54)] M Q := by
  unfold f_X6_set_29 at h
  refine Ev.iconst (v := 0) dX6_set_29 rfl ?_
  exact o_X6_set_30 h
noncomputable def f_X6_set (p1 : Int32) (p2 : Int32) (M : Mem) : Option (Int32 × Mem) := (f_X6_in p1.toInt64 0 9 M).bind fun r1 => if r1 = 0 then f_X6_set_29 p1 p2 M else (f_X6_in p2.toInt64 0 4 M).bind fun r3 => if r3 = 0 then f_X6_set_29 p1 p2 M else f_X6_set_30 p1 p2 1 M
theorem o_X6_set {E : GE} {Q : Option Value → Mem → Prop} {p1 : Int32} {p2 : Int32} {M : Mem} (h : wp (f_X6_set p1 p2 M) gIM Q) : Runs E mi_X6_set [.ref (ad E 54), .int p1, .int p2] M Q := by
  refine Runs.ofEv (by decide +kernel) (Nat.le_of_ble_eq_true rfl) ?_
  show Ev E mi_X6_set 0 [(0, .ref (ad E 54)), (1, .int p1), (2, .int p2)] [] M Q
  unfold f_X6_set at h
  refine Ev.aload_n dX6_set_0 rfl 0 rfl ?_
  refine Ev.iload_n dX6_set_1 rfl 1 rfl ?_
  refine Ev.i2l dX6_set_2 ?_
  refine Ev.lconst (v := 0) dX6_set_3 rfl ?_
  refine Ev.ldc2 dX6_set_4 fc_X6_184 ?_
  obtain ⟨r1, er1, h⟩ := wp_bind h
  refine Ev.callS (as := [.long p1.toInt64, .long 0, .long 9]) (rest := [.ref (ad E 54)]) dX6_set_7 cl_X6_73 mos_X6_in ⟨Nat.le_of_ble_eq_true rfl, Nat.le_of_ble_eq_true rfl⟩ (Nat.le_of_ble_eq_true rfl) rfl rfl (o_X6_in ⟨r1, er1, ?_⟩)
  show Ev E mi_X6_set 10 [(0, .ref (ad E 54)), (1, .int p1), (2, .int p2)] [.int r1, .ref (ad E 54)] M Q
  refine Ev.if_eq (tgt := 29) dX6_set_10 (by decide) (fun c2 => ?_) (fun c2 => ?_)
  · replace h := wp_t c2 h
    refine Ev.sub [1, 2] rfl ?_
    exact o_X6_set_29 h
  · replace h := wp_f c2 h
    refine Ev.iload_n dX6_set_13 rfl 2 rfl ?_
    refine Ev.i2l dX6_set_14 ?_
    refine Ev.lconst (v := 0) dX6_set_15 rfl ?_
    refine Ev.ldc2 dX6_set_16 fc_X6_189 ?_
    obtain ⟨r3, er3, h⟩ := wp_bind h
    refine Ev.callS (as := [.long p2.toInt64, .long 0, .long 4]) (rest := [.ref (ad E 54)]) dX6_set_19 cl_X6_73 mos_X6_in ⟨Nat.le_of_ble_eq_true rfl, Nat.le_of_ble_eq_true rfl⟩ (Nat.le_of_ble_eq_true rfl) rfl rfl (o_X6_in ⟨r3, er3, ?_⟩)
    show Ev E mi_X6_set 22 [(0, .ref (ad E 54)), (1, .int p1), (2, .int p2)] [.int r3, .ref (ad E 54)] M Q
    refine Ev.if_eq (tgt := 29) dX6_set_22 (by decide) (fun c4 => ?_) (fun c4 => ?_)
    · replace h := wp_t c4 h
      refine Ev.sub [1, 2] rfl ?_
      exact o_X6_set_29 h
    · replace h := wp_f c4 h
      refine Ev.iconst (v := 1) dX6_set_25 rfl ?_
      refine Ev.goto (tgt := 30) dX6_set_26 (by decide) ?_
      refine Ev.sub [1, 2] rfl ?_
      exact o_X6_set_30 h

noncomputable def f_X6_blow_25 (p1 : Int32) (p2 : Int32) (s1 : Int32) (M : Mem) : Option (Int32 × Mem) := (f_X6_puts s1 (47 + p1) p2 0 M).bind fun r1 => some (r1.1, r1.2)
theorem o_X6_blow_25 {E : GE} {Q : Option Value → Mem → Prop} {p1 : Int32} {p2 : Int32} {s1 : Int32} {M : Mem} (h : wp (f_X6_blow_25 p1 p2 s1 M) gIM Q) : Ev E mi_X6_blow 25 [(1, .int p1), (2, .int p2)] [.int s1, .ref (ad E 54)] M Q := by
  unfold f_X6_blow_25 at h
  refine Ev.bipush (v := 47) dX6_blow_25 rfl ?_
  refine Ev.iload_n dX6_blow_27 rfl 0 rfl ?_
  refine Ev.iadd dX6_blow_28 ?_
  refine Ev.iload_n dX6_blow_29 rfl 1 rfl ?_
  refine Ev.iconst (v := 0) dX6_blow_30 rfl ?_
  obtain ⟨r1, er1, h⟩ := wp_bind h
  refine Ev.callV (k := 54) (as := [.int s1, .int (47 + p1), .int p2, .int 0]) (rest := []) dX6_blow_31 cl_X6_191 mok_X6_puts rfl (Nat.le_of_ble_eq_true rfl) (Nat.le_of_ble_eq_true rfl) ⟨Nat.le_of_ble_eq_true rfl, Nat.le_of_ble_eq_true rfl⟩ (Nat.le_of_ble_eq_true rfl) rfl rfl (o_X6_puts ⟨r1, er1, ?_⟩)
  show Ev E mi_X6_blow 34 [(1, .int p1), (2, .int p2)] [.int r1.1] r1.2 Q
  exact Ev.ret dX6_blow_34 rfl rfl (wp_ret h)
noncomputable def f_X6_blow_24 (p1 : Int32) (p2 : Int32) (M : Mem) : Option (Int32 × Mem) := f_X6_blow_25 p1 p2 0 M
theorem o_X6_blow_24 {E : GE} {Q : Option Value → Mem → Prop} {p1 : Int32} {p2 : Int32} {M : Mem} (h : wp (f_X6_blow_24 p1 p2 M) gIM Q) : Ev E mi_X6_blow 24 [(1, .int p1), (2, .int p2)] [.ref (ad E 54)] M Q := by
  unfold f_X6_blow_24 at h
  refine Ev.iconst (v := 0) dX6_blow_24 rfl ?_
  exact o_X6_blow_25 h
noncomputable def f_X6_blow (p1 : Int32) (p2 : Int32) (M : Mem) : Option (Int32 × Mem) := (f_X6_isHour p1 M).bind fun r1 => if r1 = 0 then f_X6_blow_24 p1 p2 M else (f_X6_in p2.toInt64 0 4 M).bind fun r3 => if r3 = 0 then f_X6_blow_24 p1 p2 M else f_X6_blow_25 p1 p2 1 M
theorem o_X6_blow {E : GE} {Q : Option Value → Mem → Prop} {p1 : Int32} {p2 : Int32} {M : Mem} (h : wp (f_X6_blow p1 p2 M) gIM Q) : Runs E mi_X6_blow [.ref (ad E 54), .int p1, .int p2] M Q := by
  refine Runs.ofEv (by decide +kernel) (Nat.le_of_ble_eq_true rfl) ?_
  show Ev E mi_X6_blow 0 [(0, .ref (ad E 54)), (1, .int p1), (2, .int p2)] [] M Q
  unfold f_X6_blow at h
  refine Ev.aload_n dX6_blow_0 rfl 0 rfl ?_
  refine Ev.iload_n dX6_blow_1 rfl 1 rfl ?_
  obtain ⟨r1, er1, h⟩ := wp_bind h
  refine Ev.callS (as := [.int p1]) (rest := [.ref (ad E 54)]) dX6_blow_2 cl_X6_186 mos_X6_isHour ⟨Nat.le_of_ble_eq_true rfl, Nat.le_of_ble_eq_true rfl⟩ (Nat.le_of_ble_eq_true rfl) rfl rfl (o_X6_isHour ⟨r1, er1, ?_⟩)
  show Ev E mi_X6_blow 5 [(0, .ref (ad E 54)), (1, .int p1), (2, .int p2)] [.int r1, .ref (ad E 54)] M Q
  refine Ev.if_eq (tgt := 24) dX6_blow_5 (by decide) (fun c2 => ?_) (fun c2 => ?_)
  · replace h := wp_t c2 h
    refine Ev.sub [1, 2] rfl ?_
    exact o_X6_blow_24 h
  · replace h := wp_f c2 h
    refine Ev.iload_n dX6_blow_8 rfl 2 rfl ?_
    refine Ev.i2l dX6_blow_9 ?_
    refine Ev.lconst (v := 0) dX6_blow_10 rfl ?_
    refine Ev.ldc2 dX6_blow_11 fc_X6_189 ?_
    obtain ⟨r3, er3, h⟩ := wp_bind h
    refine Ev.callS (as := [.long p2.toInt64, .long 0, .long 4]) (rest := [.ref (ad E 54)]) dX6_blow_14 cl_X6_73 mos_X6_in ⟨Nat.le_of_ble_eq_true rfl, Nat.le_of_ble_eq_true rfl⟩ (Nat.le_of_ble_eq_true rfl) rfl rfl (o_X6_in ⟨r3, er3, ?_⟩)
    show Ev E mi_X6_blow 17 [(0, .ref (ad E 54)), (1, .int p1), (2, .int p2)] [.int r3, .ref (ad E 54)] M Q
    refine Ev.if_eq (tgt := 24) dX6_blow_17 (by decide) (fun c4 => ?_) (fun c4 => ?_)
    · replace h := wp_t c4 h
      refine Ev.sub [1, 2] rfl ?_
      exact o_X6_blow_24 h
    · replace h := wp_f c4 h
      refine Ev.iconst (v := 1) dX6_blow_20 rfl ?_
      refine Ev.goto (tgt := 25) dX6_blow_21 (by decide) ?_
      refine Ev.sub [1, 2] rfl ?_
      exact o_X6_blow_25 h

noncomputable def f_X6_phase (p1 : Int32) (M : Mem) : Option (Int32 × Mem) := (f_X6_in p1.toInt64 0 5 M).bind fun r1 => (f_X6_puts r1 71 p1 0 M).bind fun r2 => some (r2.1, r2.2)
theorem o_X6_phase {E : GE} {Q : Option Value → Mem → Prop} {p1 : Int32} {M : Mem} (h : wp (f_X6_phase p1 M) gIM Q) : Runs E mi_X6_phase [.ref (ad E 54), .int p1] M Q := by
  refine Runs.ofEv (by decide +kernel) (Nat.le_of_ble_eq_true rfl) ?_
  show Ev E mi_X6_phase 0 [(0, .ref (ad E 54)), (1, .int p1)] [] M Q
  unfold f_X6_phase at h
  refine Ev.aload_n dX6_phase_0 rfl 0 rfl ?_
  refine Ev.iload_n dX6_phase_1 rfl 1 rfl ?_
  refine Ev.i2l dX6_phase_2 ?_
  refine Ev.lconst (v := 0) dX6_phase_3 rfl ?_
  refine Ev.ldc2 dX6_phase_4 fc_X6_177 ?_
  obtain ⟨r1, er1, h⟩ := wp_bind h
  refine Ev.callS (as := [.long p1.toInt64, .long 0, .long 5]) (rest := [.ref (ad E 54)]) dX6_phase_7 cl_X6_73 mos_X6_in ⟨Nat.le_of_ble_eq_true rfl, Nat.le_of_ble_eq_true rfl⟩ (Nat.le_of_ble_eq_true rfl) rfl rfl (o_X6_in ⟨r1, er1, ?_⟩)
  show Ev E mi_X6_phase 10 [(0, .ref (ad E 54)), (1, .int p1)] [.int r1, .ref (ad E 54)] M Q
  refine Ev.bipush (v := 71) dX6_phase_10 rfl ?_
  refine Ev.iload_n dX6_phase_12 rfl 1 rfl ?_
  refine Ev.iconst (v := 0) dX6_phase_13 rfl ?_
  obtain ⟨r2, er2, h⟩ := wp_bind h
  refine Ev.callV (k := 54) (as := [.int r1, .int 71, .int p1, .int 0]) (rest := []) dX6_phase_14 cl_X6_191 mok_X6_puts rfl (Nat.le_of_ble_eq_true rfl) (Nat.le_of_ble_eq_true rfl) ⟨Nat.le_of_ble_eq_true rfl, Nat.le_of_ble_eq_true rfl⟩ (Nat.le_of_ble_eq_true rfl) rfl rfl (o_X6_puts ⟨r2, er2, ?_⟩)
  show Ev E mi_X6_phase 17 [(0, .ref (ad E 54)), (1, .int p1)] [.int r2.1] r2.2 Q
  exact Ev.ret dX6_phase_17 rfl rfl (wp_ret h)

noncomputable def f_X6_casts (p1 : Int32) (p2 : Int32) (p3 : Int32) (M : Mem) : Option (Int32 × Mem) := (f_X6_in p1.toInt64 0 9 M).bind fun r1 => if r1 = 0 then some ((-1), M) else (f_X6_in p2.toInt64 1 9 M).bind fun r3 => if r3 = 0 then some ((-1), M) else (f_X6_isHour p3 M).bind fun r5 => if r5 = 0 then some ((-1), M) else rd (M 55) 360 20 fun r8 => if r8 = 4 then some ((-3), M) else inb r8 360 <| lm (up M 55 r8.toNatClampNeg 0) fun M11 => inb (4 + r8) 360 <| lm (up M11 55 (4 + r8).toNatClampNeg p1) fun M13 => inb (8 + r8) 360 <| lm (up M13 55 (8 + r8).toNatClampNeg p2) fun M15 => inb (12 + r8) 360 <| lm (up M15 55 (12 + r8).toNatClampNeg p3) fun M17 => inb (16 + r8) 360 <| lm (up M17 55 (16 + r8).toNatClampNeg 1) fun M19 => rd (M19 55) 360 20 fun r21 => inb 20 360 <| lm (up M19 55 (20 : Int32).toNatClampNeg (r21 + 1)) fun M23 => rd (M23 55) 360 20 fun r25 => some (r25, M23)
theorem o_X6_casts {E : GE} {Q : Option Value → Mem → Prop} {p1 : Int32} {p2 : Int32} {p3 : Int32} {M : Mem} (h : wp (f_X6_casts p1 p2 p3 M) gIM Q) : Runs E mi_X6_casts [.ref (ad E 54), .int p1, .int p2, .int p3] M Q := by
  refine Runs.ofEv (by decide +kernel) (Nat.le_of_ble_eq_true rfl) ?_
  show Ev E mi_X6_casts 0 [(0, .ref (ad E 54)), (1, .int p1), (2, .int p2), (3, .int p3)] [] M Q
  unfold f_X6_casts at h
  refine Ev.iload_n dX6_casts_0 rfl 1 rfl ?_
  refine Ev.i2l dX6_casts_1 ?_
  refine Ev.lconst (v := 0) dX6_casts_2 rfl ?_
  refine Ev.ldc2 dX6_casts_3 fc_X6_184 ?_
  obtain ⟨r1, er1, h⟩ := wp_bind h
  refine Ev.callS (as := [.long p1.toInt64, .long 0, .long 9]) (rest := []) dX6_casts_6 cl_X6_73 mos_X6_in ⟨Nat.le_of_ble_eq_true rfl, Nat.le_of_ble_eq_true rfl⟩ (Nat.le_of_ble_eq_true rfl) rfl rfl (o_X6_in ⟨r1, er1, ?_⟩)
  show Ev E mi_X6_casts 9 [(0, .ref (ad E 54)), (1, .int p1), (2, .int p2), (3, .int p3)] [.int r1] M Q
  refine Ev.if_eq (tgt := 31) dX6_casts_9 (by decide) (fun c2 => ?_) (fun c2 => ?_)
  · replace h := wp_t c2 h
    refine Ev.iconst (v := (-1)) dX6_casts_31 rfl ?_
    exact Ev.ret dX6_casts_32 rfl rfl (wp_ret h)
  · replace h := wp_f c2 h
    refine Ev.iload_n dX6_casts_12 rfl 2 rfl ?_
    refine Ev.i2l dX6_casts_13 ?_
    refine Ev.lconst (v := 1) dX6_casts_14 rfl ?_
    refine Ev.ldc2 dX6_casts_15 fc_X6_184 ?_
    obtain ⟨r3, er3, h⟩ := wp_bind h
    refine Ev.callS (as := [.long p2.toInt64, .long 1, .long 9]) (rest := []) dX6_casts_18 cl_X6_73 mos_X6_in ⟨Nat.le_of_ble_eq_true rfl, Nat.le_of_ble_eq_true rfl⟩ (Nat.le_of_ble_eq_true rfl) rfl rfl (o_X6_in ⟨r3, er3, ?_⟩)
    show Ev E mi_X6_casts 21 [(0, .ref (ad E 54)), (1, .int p1), (2, .int p2), (3, .int p3)] [.int r3] M Q
    refine Ev.if_eq (tgt := 31) dX6_casts_21 (by decide) (fun c4 => ?_) (fun c4 => ?_)
    · replace h := wp_t c4 h
      refine Ev.iconst (v := (-1)) dX6_casts_31 rfl ?_
      exact Ev.ret dX6_casts_32 rfl rfl (wp_ret h)
    · replace h := wp_f c4 h
      refine Ev.iload_n dX6_casts_24 rfl 3 rfl ?_
      obtain ⟨r5, er5, h⟩ := wp_bind h
      refine Ev.callS (as := [.int p3]) (rest := []) dX6_casts_25 cl_X6_186 mos_X6_isHour ⟨Nat.le_of_ble_eq_true rfl, Nat.le_of_ble_eq_true rfl⟩ (Nat.le_of_ble_eq_true rfl) rfl rfl (o_X6_isHour ⟨r5, er5, ?_⟩)
      show Ev E mi_X6_casts 28 [(0, .ref (ad E 54)), (1, .int p1), (2, .int p2), (3, .int p3)] [.int r5] M Q
      refine Ev.if_ne (tgt := 33) dX6_casts_28 (by decide) (fun c6 => ?_) (fun c6 => ?_)
      · replace h := wp_t c6 h
        refine Ev.iconst (v := (-1)) dX6_casts_31 rfl ?_
        exact Ev.ret dX6_casts_32 rfl rfl (wp_ret h)
      · replace h := wp_f c6 h
        refine Ev.aload_n dX6_casts_33 rfl 0 rfl ?_
        refine Ev.get dX6_casts_34 fl_X6_7 rfl (Nat.le_of_ble_eq_true rfl) (v := .ref (ad E 55)) rfl ?_
        refine Ev.bipush (v := 20) dX6_casts_37 rfl ?_
        obtain ⟨g7, h⟩ := wp_rd h
        refine Ev.iald dX6_casts_39 rfl (Nat.le_of_ble_eq_true rfl) rfl g7 ?_
        refine Ev.topi (fun r8 er8 => ?_)
        replace h := h r8 er8
        refine Ev.istore dX6_casts_40 (Nat.le_of_ble_eq_true rfl) rfl ?_
        show Ev E mi_X6_casts 42 [(4, .int r8), (0, .ref (ad E 54)), (1, .int p1), (2, .int p2), (3, .int p3)] [] M Q
        refine Ev.iload dX6_casts_42 0 rfl ?_
        refine Ev.iconst (v := 4) dX6_casts_44 rfl ?_
        refine Ev.icmp_ne (tgt := 51) dX6_casts_45 (by decide) (fun c9 => ?_) (fun c9 => ?_)
        · replace h := wp_t c9 h
          refine Ev.bipush (v := (-3)) dX6_casts_48 rfl ?_
          exact Ev.ret dX6_casts_50 rfl rfl (wp_ret h)
        · replace h := wp_f c9 h
          refine Ev.aload_n dX6_casts_51 rfl 1 rfl ?_
          refine Ev.get dX6_casts_52 fl_X6_7 rfl (Nat.le_of_ble_eq_true rfl) (v := .ref (ad E 55)) rfl ?_
          refine Ev.iload dX6_casts_55 0 rfl ?_
          refine Ev.iconst (v := 0) dX6_casts_57 rfl ?_
          obtain ⟨g10, h⟩ := wp_inb h
          refine Ev.iast dX6_casts_58 rfl (Nat.le_of_ble_eq_true rfl) rfl g10 ?_
          refine Ev.topM (fun M11 eM11 => ?_)
          replace h := wp_lm h M11 eM11
          refine Ev.aload_n dX6_casts_59 rfl 1 rfl ?_
          refine Ev.get dX6_casts_60 fl_X6_7 rfl (Nat.le_of_ble_eq_true rfl) (v := .ref (ad E 55)) rfl ?_
          refine Ev.iconst (v := 4) dX6_casts_63 rfl ?_
          refine Ev.iload dX6_casts_64 0 rfl ?_
          refine Ev.iadd dX6_casts_66 ?_
          refine Ev.iload_n dX6_casts_67 rfl 2 rfl ?_
          obtain ⟨g12, h⟩ := wp_inb h
          refine Ev.iast dX6_casts_68 rfl (Nat.le_of_ble_eq_true rfl) rfl g12 ?_
          refine Ev.topM (fun M13 eM13 => ?_)
          replace h := wp_lm h M13 eM13
          refine Ev.aload_n dX6_casts_69 rfl 1 rfl ?_
          refine Ev.get dX6_casts_70 fl_X6_7 rfl (Nat.le_of_ble_eq_true rfl) (v := .ref (ad E 55)) rfl ?_
          refine Ev.bipush (v := 8) dX6_casts_73 rfl ?_
          refine Ev.iload dX6_casts_75 0 rfl ?_
          refine Ev.iadd dX6_casts_77 ?_
          refine Ev.iload_n dX6_casts_78 rfl 3 rfl ?_
          obtain ⟨g14, h⟩ := wp_inb h
          refine Ev.iast dX6_casts_79 rfl (Nat.le_of_ble_eq_true rfl) rfl g14 ?_
          refine Ev.topM (fun M15 eM15 => ?_)
          replace h := wp_lm h M15 eM15
          refine Ev.aload_n dX6_casts_80 rfl 1 rfl ?_
          refine Ev.get dX6_casts_81 fl_X6_7 rfl (Nat.le_of_ble_eq_true rfl) (v := .ref (ad E 55)) rfl ?_
          refine Ev.bipush (v := 12) dX6_casts_84 rfl ?_
          refine Ev.iload dX6_casts_86 0 rfl ?_
          refine Ev.iadd dX6_casts_88 ?_
          refine Ev.iload_n dX6_casts_89 rfl 4 rfl ?_
          obtain ⟨g16, h⟩ := wp_inb h
          refine Ev.iast dX6_casts_90 rfl (Nat.le_of_ble_eq_true rfl) rfl g16 ?_
          refine Ev.topM (fun M17 eM17 => ?_)
          replace h := wp_lm h M17 eM17
          refine Ev.aload_n dX6_casts_91 rfl 1 rfl ?_
          refine Ev.get dX6_casts_92 fl_X6_7 rfl (Nat.le_of_ble_eq_true rfl) (v := .ref (ad E 55)) rfl ?_
          refine Ev.bipush (v := 16) dX6_casts_95 rfl ?_
          refine Ev.iload dX6_casts_97 0 rfl ?_
          refine Ev.iadd dX6_casts_99 ?_
          refine Ev.iconst (v := 1) dX6_casts_100 rfl ?_
          obtain ⟨g18, h⟩ := wp_inb h
          refine Ev.iast dX6_casts_101 rfl (Nat.le_of_ble_eq_true rfl) rfl g18 ?_
          refine Ev.topM (fun M19 eM19 => ?_)
          replace h := wp_lm h M19 eM19
          refine Ev.aload_n dX6_casts_102 rfl 1 rfl ?_
          refine Ev.get dX6_casts_103 fl_X6_7 rfl (Nat.le_of_ble_eq_true rfl) (v := .ref (ad E 55)) rfl ?_
          refine Ev.bipush (v := 20) dX6_casts_106 rfl ?_
          refine Ev.dup2 dX6_casts_108 rfl rfl ?_
          obtain ⟨g20, h⟩ := wp_rd h
          refine Ev.iald dX6_casts_109 rfl (Nat.le_of_ble_eq_true rfl) rfl g20 ?_
          refine Ev.topi (fun r21 er21 => ?_)
          replace h := h r21 er21
          refine Ev.iconst (v := 1) dX6_casts_110 rfl ?_
          refine Ev.iadd dX6_casts_111 ?_
          obtain ⟨g22, h⟩ := wp_inb h
          refine Ev.iast dX6_casts_112 rfl (Nat.le_of_ble_eq_true rfl) rfl g22 ?_
          refine Ev.topM (fun M23 eM23 => ?_)
          replace h := wp_lm h M23 eM23
          refine Ev.aload_n dX6_casts_113 rfl 1 rfl ?_
          refine Ev.get dX6_casts_114 fl_X6_7 rfl (Nat.le_of_ble_eq_true rfl) (v := .ref (ad E 55)) rfl ?_
          refine Ev.bipush (v := 20) dX6_casts_117 rfl ?_
          obtain ⟨g24, h⟩ := wp_rd h
          refine Ev.iald dX6_casts_119 rfl (Nat.le_of_ble_eq_true rfl) rfl g24 ?_
          refine Ev.topi (fun r25 er25 => ?_)
          replace h := h r25 er25
          exact Ev.ret dX6_casts_120 rfl rfl (wp_ret h)

noncomputable def f_X6_cast (p1 : Int32) (p2 : Int32) (p3 : Int32) (M : Mem) : Option (Int32 × Mem) := (f_X6_casts p1 p2 p3 M).bind fun r1 => some (r1.1, r1.2)
theorem o_X6_cast {E : GE} {Q : Option Value → Mem → Prop} {p1 : Int32} {p2 : Int32} {p3 : Int32} {M : Mem} (h : wp (f_X6_cast p1 p2 p3 M) gIM Q) : Runs E mi_X6_cast [.ref (ad E 54), .int p1, .int p2, .int p3] M Q := by
  refine Runs.ofEv (by decide +kernel) (Nat.le_of_ble_eq_true rfl) ?_
  show Ev E mi_X6_cast 0 [(0, .ref (ad E 54)), (1, .int p1), (2, .int p2), (3, .int p3)] [] M Q
  unfold f_X6_cast at h
  refine Ev.aload_n dX6_cast_0 rfl 0 rfl ?_
  refine Ev.iload_n dX6_cast_1 rfl 1 rfl ?_
  refine Ev.iload_n dX6_cast_2 rfl 2 rfl ?_
  refine Ev.iload_n dX6_cast_3 rfl 3 rfl ?_
  obtain ⟨r1, er1, h⟩ := wp_bind h
  refine Ev.callV (k := 54) (as := [.int p1, .int p2, .int p3]) (rest := []) dX6_cast_4 cl_X6_195 mok_X6_casts rfl (Nat.le_of_ble_eq_true rfl) (Nat.le_of_ble_eq_true rfl) ⟨Nat.le_of_ble_eq_true rfl, Nat.le_of_ble_eq_true rfl⟩ (Nat.le_of_ble_eq_true rfl) rfl rfl (o_X6_casts ⟨r1, er1, ?_⟩)
  show Ev E mi_X6_cast 7 [(0, .ref (ad E 54)), (1, .int p1), (2, .int p2), (3, .int p3)] [.int r1.1] r1.2 Q
  exact Ev.ret dX6_cast_7 rfl rfl (wp_ret h)

noncomputable def f_X6_sink (p1 : Int32) (M : Mem) : Option (Int32 × Mem) := rd (M 55) 360 20 fun r2 => (f_X6_in p1.toInt64 0 r2.toInt64 M).bind fun r3 => (f_X6_puts r3 20 p1 0 M).bind fun r4 => some (r4.1, r4.2)
theorem o_X6_sink {E : GE} {Q : Option Value → Mem → Prop} {p1 : Int32} {M : Mem} (h : wp (f_X6_sink p1 M) gIM Q) : Runs E mi_X6_sink [.ref (ad E 54), .int p1] M Q := by
  refine Runs.ofEv (by decide +kernel) (Nat.le_of_ble_eq_true rfl) ?_
  show Ev E mi_X6_sink 0 [(0, .ref (ad E 54)), (1, .int p1)] [] M Q
  unfold f_X6_sink at h
  refine Ev.aload_n dX6_sink_0 rfl 0 rfl ?_
  refine Ev.iload_n dX6_sink_1 rfl 1 rfl ?_
  refine Ev.i2l dX6_sink_2 ?_
  refine Ev.lconst (v := 0) dX6_sink_3 rfl ?_
  refine Ev.aload_n dX6_sink_4 rfl 0 rfl ?_
  refine Ev.get dX6_sink_5 fl_X6_7 rfl (Nat.le_of_ble_eq_true rfl) (v := .ref (ad E 55)) rfl ?_
  refine Ev.bipush (v := 20) dX6_sink_8 rfl ?_
  obtain ⟨g1, h⟩ := wp_rd h
  refine Ev.iald dX6_sink_10 rfl (Nat.le_of_ble_eq_true rfl) rfl g1 ?_
  refine Ev.topi (fun r2 er2 => ?_)
  replace h := h r2 er2
  refine Ev.i2l dX6_sink_11 ?_
  obtain ⟨r3, er3, h⟩ := wp_bind h
  refine Ev.callS (as := [.long p1.toInt64, .long 0, .long r2.toInt64]) (rest := [.ref (ad E 54)]) dX6_sink_12 cl_X6_73 mos_X6_in ⟨Nat.le_of_ble_eq_true rfl, Nat.le_of_ble_eq_true rfl⟩ (Nat.le_of_ble_eq_true rfl) rfl rfl (o_X6_in ⟨r3, er3, ?_⟩)
  show Ev E mi_X6_sink 15 [(0, .ref (ad E 54)), (1, .int p1)] [.int r3, .ref (ad E 54)] M Q
  refine Ev.bipush (v := 20) dX6_sink_15 rfl ?_
  refine Ev.iload_n dX6_sink_17 rfl 1 rfl ?_
  refine Ev.iconst (v := 0) dX6_sink_18 rfl ?_
  obtain ⟨r4, er4, h⟩ := wp_bind h
  refine Ev.callV (k := 54) (as := [.int r3, .int 20, .int p1, .int 0]) (rest := []) dX6_sink_19 cl_X6_191 mok_X6_puts rfl (Nat.le_of_ble_eq_true rfl) (Nat.le_of_ble_eq_true rfl) ⟨Nat.le_of_ble_eq_true rfl, Nat.le_of_ble_eq_true rfl⟩ (Nat.le_of_ble_eq_true rfl) rfl rfl (o_X6_puts ⟨r4, er4, ?_⟩)
  show Ev E mi_X6_sink 22 [(0, .ref (ad E 54)), (1, .int p1)] [.int r4.1] r4.2 Q
  exact Ev.ret dX6_sink_22 rfl rfl (wp_ret h)

noncomputable def f_X6_drifts_211 (p1 : Int32) (p2 : Int32) (p3 : Int32) (s1 : Int32) (s2 : Int32) (M : Mem) : Option Mem := inb s1 4 <| lm (up M 61 s1.toNatClampNeg s2) fun M2 => inb p2 4 <| lm (up M2 63 p2.toNatClampNeg 2) fun M4 => inb p2 4 <| lm (up M4 64 p2.toNatClampNeg p3) fun M6 => some M6
theorem o_X6_drifts_211 {E : GE} {Q : Option Value → Mem → Prop} {p1 : Int32} {p2 : Int32} {p3 : Int32} {s1 : Int32} {s2 : Int32} {M : Mem} (h : wp (f_X6_drifts_211 p1 p2 p3 s1 s2 M) gVM Q) : Ev E mi_X6_drifts 211 [(0, .ref (ad E 54)), (2, .int p2), (3, .int p3)] [.int s2, .int s1, .ref (ad E 61)] M Q := by
  unfold f_X6_drifts_211 at h
  obtain ⟨g1, h⟩ := wp_inb h
  refine Ev.iast dX6_drifts_211 rfl (Nat.le_of_ble_eq_true rfl) rfl g1 ?_
  refine Ev.topM (fun M2 eM2 => ?_)
  replace h := wp_lm h M2 eM2
  refine Ev.aload_n dX6_drifts_212 rfl 0 rfl ?_
  refine Ev.get dX6_drifts_213 fl_X6_34 rfl (Nat.le_of_ble_eq_true rfl) (v := .ref (ad E 63)) rfl ?_
  refine Ev.iload_n dX6_drifts_216 rfl 1 rfl ?_
  refine Ev.iconst (v := 2) dX6_drifts_217 rfl ?_
  obtain ⟨g3, h⟩ := wp_inb h
  refine Ev.iast dX6_drifts_218 rfl (Nat.le_of_ble_eq_true rfl) rfl g3 ?_
  refine Ev.topM (fun M4 eM4 => ?_)
  replace h := wp_lm h M4 eM4
  refine Ev.aload_n dX6_drifts_219 rfl 0 rfl ?_
  refine Ev.get dX6_drifts_220 fl_X6_37 rfl (Nat.le_of_ble_eq_true rfl) (v := .ref (ad E 64)) rfl ?_
  refine Ev.iload_n dX6_drifts_223 rfl 1 rfl ?_
  refine Ev.iload_n dX6_drifts_224 rfl 2 rfl ?_
  obtain ⟨g5, h⟩ := wp_inb h
  refine Ev.iast dX6_drifts_225 rfl (Nat.le_of_ble_eq_true rfl) rfl g5 ?_
  refine Ev.topM (fun M6 eM6 => ?_)
  replace h := wp_lm h M6 eM6
  refine Ev.goto (tgt := 271) dX6_drifts_226 (by decide) ?_
  exact Ev.vret dX6_drifts_271 rfl (wp_ret h)
noncomputable def f_X6_drifts_257 (p1 : Int32) (p2 : Int32) (p3 : Int32) (M : Mem) : Option Mem := inb p2 4 <| lm (up M 63 p2.toNatClampNeg 3) fun M2 => inb p2 4 <| lm (up M2 64 p2.toNatClampNeg p3) fun M4 => some M4
theorem o_X6_drifts_257 {E : GE} {Q : Option Value → Mem → Prop} {p1 : Int32} {p2 : Int32} {p3 : Int32} {M : Mem} (h : wp (f_X6_drifts_257 p1 p2 p3 M) gVM Q) : Ev E mi_X6_drifts 257 [(0, .ref (ad E 54)), (2, .int p2), (3, .int p3)] [] M Q := by
  unfold f_X6_drifts_257 at h
  refine Ev.aload_n dX6_drifts_257 rfl 0 rfl ?_
  refine Ev.get dX6_drifts_258 fl_X6_34 rfl (Nat.le_of_ble_eq_true rfl) (v := .ref (ad E 63)) rfl ?_
  refine Ev.iload_n dX6_drifts_261 rfl 1 rfl ?_
  refine Ev.iconst (v := 3) dX6_drifts_262 rfl ?_
  obtain ⟨g1, h⟩ := wp_inb h
  refine Ev.iast dX6_drifts_263 rfl (Nat.le_of_ble_eq_true rfl) rfl g1 ?_
  refine Ev.topM (fun M2 eM2 => ?_)
  replace h := wp_lm h M2 eM2
  refine Ev.aload_n dX6_drifts_264 rfl 0 rfl ?_
  refine Ev.get dX6_drifts_265 fl_X6_37 rfl (Nat.le_of_ble_eq_true rfl) (v := .ref (ad E 64)) rfl ?_
  refine Ev.iload_n dX6_drifts_268 rfl 1 rfl ?_
  refine Ev.iload_n dX6_drifts_269 rfl 2 rfl ?_
  obtain ⟨g3, h⟩ := wp_inb h
  refine Ev.iast dX6_drifts_270 rfl (Nat.le_of_ble_eq_true rfl) rfl g3 ?_
  refine Ev.topM (fun M4 eM4 => ?_)
  replace h := wp_lm h M4 eM4
  exact Ev.vret dX6_drifts_271 rfl (wp_ret h)
noncomputable def f_X6_drifts_152 (p1 : Int32) (p2 : Int32) (p3 : Int32) (s1 : Int32) (s2 : Int32) (s3 : Int32) (s4 : Int32) (M : Mem) : Option Mem := inb s1 4 <| lm (up M 62 s1.toNatClampNeg (s2 + (s3 + s4))) fun M2 => rd (M2 62) 4 p2 fun r4 => if 0 < r4 then rd (M2 62) 4 p2 fun r7 => if 9 < r7 then f_X6_drifts_257 p1 p2 p3 M2 else rd (M2 61) 4 p2 fun r10 => (f_X6_in r10.toInt64 0 9 M2).bind fun r11 => if r11 = 0 then f_X6_drifts_257 p1 p2 p3 M2 else some M2 else inb p2 4 <| lm (up M2 62 p2.toNatClampNeg 0) fun M14 => rd (M14 61) 4 p2 fun r16 => if 0 ≤ r16 then rd (M14 61) 4 p2 fun r19 => if r19 ≤ 9 then rd (M14 61) 4 p2 fun r22 => f_X6_drifts_211 p1 p2 p3 p2 r22 M14 else f_X6_drifts_211 p1 p2 p3 p2 9 M14 else f_X6_drifts_211 p1 p2 p3 p2 0 M14
theorem o_X6_drifts_152 {E : GE} {Q : Option Value → Mem → Prop} {p1 : Int32} {p2 : Int32} {p3 : Int32} {s1 : Int32} {s2 : Int32} {s3 : Int32} {s4 : Int32} {M : Mem} (h : wp (f_X6_drifts_152 p1 p2 p3 s1 s2 s3 s4 M) gVM Q) : Ev E mi_X6_drifts 152 [(0, .ref (ad E 54)), (2, .int p2), (3, .int p3)] [.int s4, .int s3, .int s2, .int s1, .ref (ad E 62)] M Q := by
  unfold f_X6_drifts_152 at h
  refine Ev.iadd dX6_drifts_152 ?_
  refine Ev.iadd dX6_drifts_153 ?_
  obtain ⟨g1, h⟩ := wp_inb h
  refine Ev.iast dX6_drifts_154 rfl (Nat.le_of_ble_eq_true rfl) rfl g1 ?_
  refine Ev.topM (fun M2 eM2 => ?_)
  replace h := wp_lm h M2 eM2
  refine Ev.aload_n dX6_drifts_155 rfl 0 rfl ?_
  refine Ev.get dX6_drifts_156 fl_X6_31 rfl (Nat.le_of_ble_eq_true rfl) (v := .ref (ad E 62)) rfl ?_
  refine Ev.iload_n dX6_drifts_159 rfl 1 rfl ?_
  obtain ⟨g3, h⟩ := wp_rd h
  refine Ev.iald dX6_drifts_160 rfl (Nat.le_of_ble_eq_true rfl) rfl g3 ?_
  refine Ev.topi (fun r4 er4 => ?_)
  replace h := h r4 er4
  refine Ev.if_gt (tgt := 229) dX6_drifts_161 (by decide) (fun c5 => ?_) (fun c5 => ?_)
  · replace h := wp_t c5 h
    refine Ev.aload_n dX6_drifts_229 rfl 0 rfl ?_
    refine Ev.get dX6_drifts_230 fl_X6_31 rfl (Nat.le_of_ble_eq_true rfl) (v := .ref (ad E 62)) rfl ?_
    refine Ev.iload_n dX6_drifts_233 rfl 1 rfl ?_
    obtain ⟨g6, h⟩ := wp_rd h
    refine Ev.iald dX6_drifts_234 rfl (Nat.le_of_ble_eq_true rfl) rfl g6 ?_
    refine Ev.topi (fun r7 er7 => ?_)
    replace h := h r7 er7
    refine Ev.bipush (v := 9) dX6_drifts_235 rfl ?_
    refine Ev.icmp_gt (tgt := 257) dX6_drifts_237 (by decide) (fun c8 => ?_) (fun c8 => ?_)
    · replace h := wp_t c8 h
      exact o_X6_drifts_257 h
    · replace h := wp_f c8 h
      refine Ev.aload_n dX6_drifts_240 rfl 0 rfl ?_
      refine Ev.get dX6_drifts_241 fl_X6_28 rfl (Nat.le_of_ble_eq_true rfl) (v := .ref (ad E 61)) rfl ?_
      refine Ev.iload_n dX6_drifts_244 rfl 1 rfl ?_
      obtain ⟨g9, h⟩ := wp_rd h
      refine Ev.iald dX6_drifts_245 rfl (Nat.le_of_ble_eq_true rfl) rfl g9 ?_
      refine Ev.topi (fun r10 er10 => ?_)
      replace h := h r10 er10
      refine Ev.i2l dX6_drifts_246 ?_
      refine Ev.lconst (v := 0) dX6_drifts_247 rfl ?_
      refine Ev.ldc2 dX6_drifts_248 fc_X6_184 ?_
      obtain ⟨r11, er11, h⟩ := wp_bind h
      refine Ev.callS (as := [.long r10.toInt64, .long 0, .long 9]) (rest := []) dX6_drifts_251 cl_X6_73 mos_X6_in ⟨Nat.le_of_ble_eq_true rfl, Nat.le_of_ble_eq_true rfl⟩ (Nat.le_of_ble_eq_true rfl) rfl rfl (o_X6_in ⟨r11, er11, ?_⟩)
      show Ev E mi_X6_drifts 254 [(0, .ref (ad E 54)), (2, .int p2), (3, .int p3)] [.int r11] M2 Q
      refine Ev.if_ne (tgt := 271) dX6_drifts_254 (by decide) (fun c12 => ?_) (fun c12 => ?_)
      · replace h := wp_t c12 h
        exact o_X6_drifts_257 h
      · replace h := wp_f c12 h
        exact Ev.vret dX6_drifts_271 rfl (wp_ret h)
  · replace h := wp_f c5 h
    refine Ev.aload_n dX6_drifts_164 rfl 0 rfl ?_
    refine Ev.get dX6_drifts_165 fl_X6_31 rfl (Nat.le_of_ble_eq_true rfl) (v := .ref (ad E 62)) rfl ?_
    refine Ev.iload_n dX6_drifts_168 rfl 1 rfl ?_
    refine Ev.iconst (v := 0) dX6_drifts_169 rfl ?_
    obtain ⟨g13, h⟩ := wp_inb h
    refine Ev.iast dX6_drifts_170 rfl (Nat.le_of_ble_eq_true rfl) rfl g13 ?_
    refine Ev.topM (fun M14 eM14 => ?_)
    replace h := wp_lm h M14 eM14
    refine Ev.aload_n dX6_drifts_171 rfl 0 rfl ?_
    refine Ev.get dX6_drifts_172 fl_X6_28 rfl (Nat.le_of_ble_eq_true rfl) (v := .ref (ad E 61)) rfl ?_
    refine Ev.iload_n dX6_drifts_175 rfl 1 rfl ?_
    refine Ev.aload_n dX6_drifts_176 rfl 0 rfl ?_
    refine Ev.get dX6_drifts_177 fl_X6_28 rfl (Nat.le_of_ble_eq_true rfl) (v := .ref (ad E 61)) rfl ?_
    refine Ev.iload_n dX6_drifts_180 rfl 1 rfl ?_
    obtain ⟨g15, h⟩ := wp_rd h
    refine Ev.iald dX6_drifts_181 rfl (Nat.le_of_ble_eq_true rfl) rfl g15 ?_
    refine Ev.topi (fun r16 er16 => ?_)
    replace h := h r16 er16
    refine Ev.if_ge (tgt := 189) dX6_drifts_182 (by decide) (fun c17 => ?_) (fun c17 => ?_)
    · replace h := wp_t c17 h
      refine Ev.aload_n dX6_drifts_189 rfl 0 rfl ?_
      refine Ev.get dX6_drifts_190 fl_X6_28 rfl (Nat.le_of_ble_eq_true rfl) (v := .ref (ad E 61)) rfl ?_
      refine Ev.iload_n dX6_drifts_193 rfl 1 rfl ?_
      obtain ⟨g18, h⟩ := wp_rd h
      refine Ev.iald dX6_drifts_194 rfl (Nat.le_of_ble_eq_true rfl) rfl g18 ?_
      refine Ev.topi (fun r19 er19 => ?_)
      replace h := h r19 er19
      refine Ev.bipush (v := 9) dX6_drifts_195 rfl ?_
      refine Ev.icmp_le (tgt := 205) dX6_drifts_197 (by decide) (fun c20 => ?_) (fun c20 => ?_)
      · replace h := wp_t c20 h
        refine Ev.aload_n dX6_drifts_205 rfl 0 rfl ?_
        refine Ev.get dX6_drifts_206 fl_X6_28 rfl (Nat.le_of_ble_eq_true rfl) (v := .ref (ad E 61)) rfl ?_
        refine Ev.iload_n dX6_drifts_209 rfl 1 rfl ?_
        obtain ⟨g21, h⟩ := wp_rd h
        refine Ev.iald dX6_drifts_210 rfl (Nat.le_of_ble_eq_true rfl) rfl g21 ?_
        refine Ev.topi (fun r22 er22 => ?_)
        replace h := h r22 er22
        exact o_X6_drifts_211 h
      · replace h := wp_f c20 h
        refine Ev.bipush (v := 9) dX6_drifts_200 rfl ?_
        refine Ev.goto (tgt := 211) dX6_drifts_202 (by decide) ?_
        exact o_X6_drifts_211 h
    · replace h := wp_f c17 h
      refine Ev.iconst (v := 0) dX6_drifts_185 rfl ?_
      refine Ev.goto (tgt := 211) dX6_drifts_186 (by decide) ?_
      exact o_X6_drifts_211 h
noncomputable def f_X6_drifts_116 (p1 : Int32) (p2 : Int32) (p3 : Int32) (x4 : Int32) (x5 : Int32) (x6 : Int32) (s1 : Int32) (s2 : Int32) (s3 : Int32) (s4 : Int32) (M : Mem) : Option Mem := inb s1 4 <| lm (up M 61 s1.toNatClampNeg (s2 + (s3 + s4))) fun M2 => rd (M2 62) 4 p2 fun r4 => if x4 = 3 then f_X6_drifts_152 p1 p2 p3 p2 r4 x6 x5 M2 else if x4 = 1 then f_X6_drifts_152 p1 p2 p3 p2 r4 x6 (-x5) M2 else f_X6_drifts_152 p1 p2 p3 p2 r4 x6 0 M2
theorem o_X6_drifts_116 {E : GE} {Q : Option Value → Mem → Prop} {p1 : Int32} {p2 : Int32} {p3 : Int32} {x4 : Int32} {x5 : Int32} {x6 : Int32} {s1 : Int32} {s2 : Int32} {s3 : Int32} {s4 : Int32} {M : Mem} (h : wp (f_X6_drifts_116 p1 p2 p3 x4 x5 x6 s1 s2 s3 s4 M) gVM Q) : Ev E mi_X6_drifts 116 [(0, .ref (ad E 54)), (2, .int p2), (3, .int p3), (4, .int x4), (5, .int x5), (6, .int x6)] [.int s4, .int s3, .int s2, .int s1, .ref (ad E 61)] M Q := by
  unfold f_X6_drifts_116 at h
  refine Ev.iadd dX6_drifts_116 ?_
  refine Ev.iadd dX6_drifts_117 ?_
  obtain ⟨g1, h⟩ := wp_inb h
  refine Ev.iast dX6_drifts_118 rfl (Nat.le_of_ble_eq_true rfl) rfl g1 ?_
  refine Ev.topM (fun M2 eM2 => ?_)
  replace h := wp_lm h M2 eM2
  refine Ev.aload_n dX6_drifts_119 rfl 0 rfl ?_
  refine Ev.get dX6_drifts_120 fl_X6_31 rfl (Nat.le_of_ble_eq_true rfl) (v := .ref (ad E 62)) rfl ?_
  refine Ev.iload_n dX6_drifts_123 rfl 1 rfl ?_
  refine Ev.dup2 dX6_drifts_124 rfl rfl ?_
  obtain ⟨g3, h⟩ := wp_rd h
  refine Ev.iald dX6_drifts_125 rfl (Nat.le_of_ble_eq_true rfl) rfl g3 ?_
  refine Ev.topi (fun r4 er4 => ?_)
  replace h := h r4 er4
  refine Ev.iload dX6_drifts_126 5 rfl ?_
  refine Ev.iload dX6_drifts_128 3 rfl ?_
  refine Ev.iconst (v := 3) dX6_drifts_130 rfl ?_
  refine Ev.icmp_ne (tgt := 139) dX6_drifts_131 (by decide) (fun c5 => ?_) (fun c5 => ?_)
  · replace h := wp_t c5 h
    refine Ev.iload dX6_drifts_134 4 rfl ?_
    refine Ev.goto (tgt := 152) dX6_drifts_136 (by decide) ?_
    refine Ev.sub [0, 1, 2] rfl ?_
    exact o_X6_drifts_152 h
  · replace h := wp_f c5 h
    refine Ev.iload dX6_drifts_139 3 rfl ?_
    refine Ev.iconst (v := 1) dX6_drifts_141 rfl ?_
    refine Ev.icmp_ne (tgt := 151) dX6_drifts_142 (by decide) (fun c6 => ?_) (fun c6 => ?_)
    · replace h := wp_t c6 h
      refine Ev.iload dX6_drifts_145 4 rfl ?_
      refine Ev.ineg dX6_drifts_147 ?_
      refine Ev.goto (tgt := 152) dX6_drifts_148 (by decide) ?_
      refine Ev.sub [0, 1, 2] rfl ?_
      exact o_X6_drifts_152 h
    · replace h := wp_f c6 h
      refine Ev.iconst (v := 0) dX6_drifts_151 rfl ?_
      refine Ev.sub [0, 1, 2] rfl ?_
      exact o_X6_drifts_152 h
noncomputable def f_X6_drifts_67 (p1 : Int32) (p2 : Int32) (p3 : Int32) (x4 : Int32) (x5 : Int32) (s0 : Int32) (M : Mem) : Option Mem := rd (M 61) 4 p2 fun r2 => rd (M 62) 4 p2 fun r4 => rd (M 55) 360 ((p1 + 37) + r4) fun r6 => if x4 = 2 then f_X6_drifts_116 p1 p2 p3 x4 x5 s0 p2 r2 r6 x5 M else if x4 = 4 then f_X6_drifts_116 p1 p2 p3 x4 x5 s0 p2 r2 r6 (-x5) M else f_X6_drifts_116 p1 p2 p3 x4 x5 s0 p2 r2 r6 0 M
theorem o_X6_drifts_67 {E : GE} {Q : Option Value → Mem → Prop} {p1 : Int32} {p2 : Int32} {p3 : Int32} {x4 : Int32} {x5 : Int32} {s0 : Int32} {M : Mem} (h : wp (f_X6_drifts_67 p1 p2 p3 x4 x5 s0 M) gVM Q) : Ev E mi_X6_drifts 67 [(0, .ref (ad E 54)), (1, .int p1), (2, .int p2), (3, .int p3), (4, .int x4), (5, .int x5)] [.int s0] M Q := by
  unfold f_X6_drifts_67 at h
  refine Ev.istore dX6_drifts_67 (Nat.le_of_ble_eq_true rfl) rfl ?_
  show Ev E mi_X6_drifts 69 [(6, .int s0), (0, .ref (ad E 54)), (1, .int p1), (2, .int p2), (3, .int p3), (4, .int x4), (5, .int x5)] [] M Q
  refine Ev.aload_n dX6_drifts_69 rfl 1 rfl ?_
  refine Ev.get dX6_drifts_70 fl_X6_28 rfl (Nat.le_of_ble_eq_true rfl) (v := .ref (ad E 61)) rfl ?_
  refine Ev.iload_n dX6_drifts_73 rfl 3 rfl ?_
  refine Ev.dup2 dX6_drifts_74 rfl rfl ?_
  obtain ⟨g1, h⟩ := wp_rd h
  refine Ev.iald dX6_drifts_75 rfl (Nat.le_of_ble_eq_true rfl) rfl g1 ?_
  refine Ev.topi (fun r2 er2 => ?_)
  replace h := h r2 er2
  refine Ev.aload_n dX6_drifts_76 rfl 1 rfl ?_
  refine Ev.get dX6_drifts_77 fl_X6_7 rfl (Nat.le_of_ble_eq_true rfl) (v := .ref (ad E 55)) rfl ?_
  refine Ev.iload_n dX6_drifts_80 rfl 2 rfl ?_
  refine Ev.bipush (v := 37) dX6_drifts_81 rfl ?_
  refine Ev.iadd dX6_drifts_83 ?_
  refine Ev.aload_n dX6_drifts_84 rfl 1 rfl ?_
  refine Ev.get dX6_drifts_85 fl_X6_31 rfl (Nat.le_of_ble_eq_true rfl) (v := .ref (ad E 62)) rfl ?_
  refine Ev.iload_n dX6_drifts_88 rfl 3 rfl ?_
  obtain ⟨g3, h⟩ := wp_rd h
  refine Ev.iald dX6_drifts_89 rfl (Nat.le_of_ble_eq_true rfl) rfl g3 ?_
  refine Ev.topi (fun r4 er4 => ?_)
  replace h := h r4 er4
  refine Ev.iadd dX6_drifts_90 ?_
  obtain ⟨g5, h⟩ := wp_rd h
  refine Ev.iald dX6_drifts_91 rfl (Nat.le_of_ble_eq_true rfl) rfl g5 ?_
  refine Ev.topi (fun r6 er6 => ?_)
  replace h := h r6 er6
  refine Ev.iload dX6_drifts_92 5 rfl ?_
  refine Ev.iconst (v := 2) dX6_drifts_94 rfl ?_
  refine Ev.icmp_ne (tgt := 103) dX6_drifts_95 (by decide) (fun c7 => ?_) (fun c7 => ?_)
  · replace h := wp_t c7 h
    refine Ev.iload dX6_drifts_98 6 rfl ?_
    refine Ev.goto (tgt := 116) dX6_drifts_100 (by decide) ?_
    refine Ev.sub [1, 3, 4, 5, 6, 0] rfl ?_
    exact o_X6_drifts_116 h
  · replace h := wp_f c7 h
    refine Ev.iload dX6_drifts_103 5 rfl ?_
    refine Ev.iconst (v := 4) dX6_drifts_105 rfl ?_
    refine Ev.icmp_ne (tgt := 115) dX6_drifts_106 (by decide) (fun c8 => ?_) (fun c8 => ?_)
    · replace h := wp_t c8 h
      refine Ev.iload dX6_drifts_109 6 rfl ?_
      refine Ev.ineg dX6_drifts_111 ?_
      refine Ev.goto (tgt := 116) dX6_drifts_112 (by decide) ?_
      refine Ev.sub [1, 3, 4, 5, 6, 0] rfl ?_
      exact o_X6_drifts_116 h
    · replace h := wp_f c8 h
      refine Ev.iconst (v := 0) dX6_drifts_115 rfl ?_
      refine Ev.sub [1, 3, 4, 5, 6, 0] rfl ?_
      exact o_X6_drifts_116 h
noncomputable def f_X6_drifts_27 (p1 : Int32) (p2 : Int32) (p3 : Int32) (s0 : Int32) (M : Mem) : Option Mem := rd (M 55) 360 (p1 + p2) fun r2 => rd (M 56) 4 r2 fun r4 => rd (M 55) 360 (p1 + 71) fun r6 => if (((p3 + r6) / 3) - ((p3 + r6) / 3) / 2 * 2) = 0 then f_X6_drifts_67 p1 p2 p3 s0 r4 1 M else f_X6_drifts_67 p1 p2 p3 s0 r4 (-1) M
theorem o_X6_drifts_27 {E : GE} {Q : Option Value → Mem → Prop} {p1 : Int32} {p2 : Int32} {p3 : Int32} {s0 : Int32} {M : Mem} (h : wp (f_X6_drifts_27 p1 p2 p3 s0 M) gVM Q) : Ev E mi_X6_drifts 27 [(0, .ref (ad E 54)), (1, .int p1), (2, .int p2), (3, .int p3)] [.int s0] M Q := by
  unfold f_X6_drifts_27 at h
  refine Ev.istore dX6_drifts_27 (Nat.le_of_ble_eq_true rfl) rfl ?_
  show Ev E mi_X6_drifts 29 [(4, .int s0), (0, .ref (ad E 54)), (1, .int p1), (2, .int p2), (3, .int p3)] [] M Q
  refine Ev.aload_n dX6_drifts_29 rfl 1 rfl ?_
  refine Ev.get dX6_drifts_30 fl_X6_13 rfl (Nat.le_of_ble_eq_true rfl) (v := .ref (ad E 56)) rfl ?_
  refine Ev.aload_n dX6_drifts_33 rfl 1 rfl ?_
  refine Ev.get dX6_drifts_34 fl_X6_7 rfl (Nat.le_of_ble_eq_true rfl) (v := .ref (ad E 55)) rfl ?_
  refine Ev.iload_n dX6_drifts_37 rfl 2 rfl ?_
  refine Ev.iload_n dX6_drifts_38 rfl 3 rfl ?_
  refine Ev.iadd dX6_drifts_39 ?_
  obtain ⟨g1, h⟩ := wp_rd h
  refine Ev.iald dX6_drifts_40 rfl (Nat.le_of_ble_eq_true rfl) rfl g1 ?_
  refine Ev.topi (fun r2 er2 => ?_)
  replace h := h r2 er2
  obtain ⟨g3, h⟩ := wp_rd h
  refine Ev.iald dX6_drifts_41 rfl (Nat.le_of_ble_eq_true rfl) rfl g3 ?_
  refine Ev.topi (fun r4 er4 => ?_)
  replace h := h r4 er4
  refine Ev.istore dX6_drifts_42 (Nat.le_of_ble_eq_true rfl) rfl ?_
  show Ev E mi_X6_drifts 44 [(5, .int r4), (4, .int s0), (0, .ref (ad E 54)), (1, .int p1), (2, .int p2), (3, .int p3)] [] M Q
  refine Ev.iload_n dX6_drifts_44 rfl 5 rfl ?_
  refine Ev.aload_n dX6_drifts_45 rfl 2 rfl ?_
  refine Ev.get dX6_drifts_46 fl_X6_7 rfl (Nat.le_of_ble_eq_true rfl) (v := .ref (ad E 55)) rfl ?_
  refine Ev.iload_n dX6_drifts_49 rfl 3 rfl ?_
  refine Ev.bipush (v := 71) dX6_drifts_50 rfl ?_
  refine Ev.iadd dX6_drifts_52 ?_
  obtain ⟨g5, h⟩ := wp_rd h
  refine Ev.iald dX6_drifts_53 rfl (Nat.le_of_ble_eq_true rfl) rfl g5 ?_
  refine Ev.topi (fun r6 er6 => ?_)
  replace h := h r6 er6
  refine Ev.iadd dX6_drifts_54 ?_
  refine Ev.iconst (v := 3) dX6_drifts_55 rfl ?_
  refine Ev.idiv dX6_drifts_56 (by decide) ?_
  refine Ev.iconst (v := 2) dX6_drifts_57 rfl ?_
  refine Ev.irem dX6_drifts_58 (by decide) ?_
  refine Ev.if_ne (tgt := 66) dX6_drifts_59 (by decide) (fun c7 => ?_) (fun c7 => ?_)
  · replace h := wp_t c7 h
    refine Ev.iconst (v := 1) dX6_drifts_62 rfl ?_
    refine Ev.goto (tgt := 67) dX6_drifts_63 (by decide) ?_
    refine Ev.sub [2, 3, 4, 5, 1, 0] rfl ?_
    exact o_X6_drifts_67 h
  · replace h := wp_f c7 h
    refine Ev.iconst (v := (-1)) dX6_drifts_66 rfl ?_
    refine Ev.sub [2, 3, 4, 5, 1, 0] rfl ?_
    exact o_X6_drifts_67 h
noncomputable def f_X6_drifts (p1 : Int32) (p2 : Int32) (p3 : Int32) (M : Mem) : Option Mem := if (((M 54 25) >>> (p3 &&& 31)) &&& 1) = 1 then f_X6_drifts_27 p1 p2 p3 0 M else rd (M 55) 360 ((p1 + 47) + p3) fun r3 => f_X6_drifts_27 p1 p2 p3 r3 M
theorem o_X6_drifts {E : GE} {Q : Option Value → Mem → Prop} {p1 : Int32} {p2 : Int32} {p3 : Int32} {M : Mem} (h : wp (f_X6_drifts p1 p2 p3 M) gVM Q) : Runs E mi_X6_drifts [.ref (ad E 54), .int p1, .int p2, .int p3] M Q := by
  refine Runs.ofEv (by decide +kernel) (Nat.le_of_ble_eq_true rfl) ?_
  show Ev E mi_X6_drifts 0 [(0, .ref (ad E 54)), (1, .int p1), (2, .int p2), (3, .int p3)] [] M Q
  unfold f_X6_drifts at h
  refine Ev.aload_n dX6_drifts_0 rfl 0 rfl ?_
  refine Ev.get dX6_drifts_1 fl_X6_198 rfl (Nat.le_of_ble_eq_true rfl) rfl ?_
  refine Ev.iload_n dX6_drifts_4 rfl 3 rfl ?_
  refine Ev.ishr dX6_drifts_5 ?_
  refine Ev.iconst (v := 1) dX6_drifts_6 rfl ?_
  refine Ev.iand dX6_drifts_7 ?_
  refine Ev.iconst (v := 1) dX6_drifts_8 rfl ?_
  refine Ev.icmp_ne (tgt := 16) dX6_drifts_9 (by decide) (fun c1 => ?_) (fun c1 => ?_)
  · replace h := wp_t c1 h
    refine Ev.iconst (v := 0) dX6_drifts_12 rfl ?_
    refine Ev.goto (tgt := 27) dX6_drifts_13 (by decide) ?_
    exact o_X6_drifts_27 h
  · replace h := wp_f c1 h
    refine Ev.aload_n dX6_drifts_16 rfl 0 rfl ?_
    refine Ev.get dX6_drifts_17 fl_X6_7 rfl (Nat.le_of_ble_eq_true rfl) (v := .ref (ad E 55)) rfl ?_
    refine Ev.iload_n dX6_drifts_20 rfl 1 rfl ?_
    refine Ev.bipush (v := 47) dX6_drifts_21 rfl ?_
    refine Ev.iadd dX6_drifts_23 ?_
    refine Ev.iload_n dX6_drifts_24 rfl 3 rfl ?_
    refine Ev.iadd dX6_drifts_25 ?_
    obtain ⟨g2, h⟩ := wp_rd h
    refine Ev.iald dX6_drifts_26 rfl (Nat.le_of_ble_eq_true rfl) rfl g2 ?_
    refine Ev.topi (fun r3 er3 => ?_)
    replace h := h r3 er3
    exact o_X6_drifts_27 h

noncomputable def f_X6_hooks_169 (p1 : Int32) (p2 : Int32) (p3 : Int32) (t11 : Int32 → Int32 → Int32 → Mem → Option Mem) (x4 : Int32) (x6 : Int32) (s0 : Int32) (M : Mem) : Option Mem := t11 x4 s0 (x6 + 1) M
theorem o_X6_hooks_169 {E : GE} {Q : Option Value → Mem → Prop} {p1 : Int32} {p2 : Int32} {p3 : Int32} {t11 : Int32 → Int32 → Int32 → Mem → Option Mem} {x4 : Int32} {x6 : Int32} {s0 : Int32} {M : Mem} (ht11 : ∀ (x4 : Int32) (x5 : Int32) (x6 : Int32) (M : Mem), wp (t11 x4 x5 x6 M) gVM Q → Ev E mi_X6_hooks 11 [(0, .ref (ad E 54)), (1, .int p1), (2, .int p2), (3, .int p3), (4, .int x4), (5, .int x5), (6, .int x6)] [] M Q) (h : wp (f_X6_hooks_169 p1 p2 p3 t11 x4 x6 s0 M) gVM Q) : Ev E mi_X6_hooks 169 [(0, .ref (ad E 54)), (1, .int p1), (2, .int p2), (3, .int p3), (4, .int x4), (6, .int x6)] [.int s0] M Q := by
  unfold f_X6_hooks_169 at h
  refine Ev.istore dX6_hooks_169 (Nat.le_of_ble_eq_true rfl) rfl ?_
  show Ev E mi_X6_hooks 171 [(5, .int s0), (0, .ref (ad E 54)), (1, .int p1), (2, .int p2), (3, .int p3), (4, .int x4), (6, .int x6)] [] M Q
  refine Ev.iinc (v := x6 + 1) dX6_hooks_171 6 rfl rfl (Nat.le_of_ble_eq_true rfl) rfl ?_
  show Ev E mi_X6_hooks 174 [(6, .int (x6 + 1)), (5, .int s0), (0, .ref (ad E 54)), (1, .int p1), (2, .int p2), (3, .int p3), (4, .int x4)] [] M Q
  refine Ev.goto (tgt := 11) dX6_hooks_174 (by decide) ?_
  refine Ev.sub [2, 3, 4, 5, 6, 1, 0] rfl ?_
  exact ht11 _ _ _ _ h
noncomputable def f_X6_hooks_167 (p1 : Int32) (p2 : Int32) (p3 : Int32) (t11 : Int32 → Int32 → Int32 → Mem → Option Mem) (x4 : Int32) (x5 : Int32) (x6 : Int32) (M : Mem) : Option Mem := f_X6_hooks_169 p1 p2 p3 t11 x4 x6 x5 M
theorem o_X6_hooks_167 {E : GE} {Q : Option Value → Mem → Prop} {p1 : Int32} {p2 : Int32} {p3 : Int32} {t11 : Int32 → Int32 → Int32 → Mem → Option Mem} {x4 : Int32} {x5 : Int32} {x6 : Int32} {M : Mem} (ht11 : ∀ (x4 : Int32) (x5 : Int32) (x6 : Int32) (M : Mem), wp (t11 x4 x5 x6 M) gVM Q → Ev E mi_X6_hooks 11 [(0, .ref (ad E 54)), (1, .int p1), (2, .int p2), (3, .int p3), (4, .int x4), (5, .int x5), (6, .int x6)] [] M Q) (h : wp (f_X6_hooks_167 p1 p2 p3 t11 x4 x5 x6 M) gVM Q) : Ev E mi_X6_hooks 167 [(0, .ref (ad E 54)), (1, .int p1), (2, .int p2), (3, .int p3), (4, .int x4), (5, .int x5), (6, .int x6)] [] M Q := by
  unfold f_X6_hooks_167 at h
  refine Ev.iload dX6_hooks_167 5 rfl ?_
  refine Ev.sub [0, 1, 2, 3, 4, 6] rfl ?_
  exact o_X6_hooks_169 ht11 h
noncomputable def f_X6_hooks_148 (p1 : Int32) (p2 : Int32) (p3 : Int32) (t11 : Int32 → Int32 → Int32 → Mem → Option Mem) (x5 : Int32) (x6 : Int32) (x8 : Int32) (x9 : Int32) (s0 : Int32) (M : Mem) : Option Mem := if x9 = 0 then f_X6_hooks_167 p1 p2 p3 t11 s0 x5 x6 M else if x5 ≤ x8 then f_X6_hooks_167 p1 p2 p3 t11 s0 x5 x6 M else f_X6_hooks_169 p1 p2 p3 t11 s0 x6 x8 M
theorem o_X6_hooks_148 {E : GE} {Q : Option Value → Mem → Prop} {p1 : Int32} {p2 : Int32} {p3 : Int32} {t11 : Int32 → Int32 → Int32 → Mem → Option Mem} {x5 : Int32} {x6 : Int32} {x8 : Int32} {x9 : Int32} {s0 : Int32} {M : Mem} (ht11 : ∀ (x4 : Int32) (x5 : Int32) (x6 : Int32) (M : Mem), wp (t11 x4 x5 x6 M) gVM Q → Ev E mi_X6_hooks 11 [(0, .ref (ad E 54)), (1, .int p1), (2, .int p2), (3, .int p3), (4, .int x4), (5, .int x5), (6, .int x6)] [] M Q) (h : wp (f_X6_hooks_148 p1 p2 p3 t11 x5 x6 x8 x9 s0 M) gVM Q) : Ev E mi_X6_hooks 148 [(0, .ref (ad E 54)), (1, .int p1), (2, .int p2), (3, .int p3), (5, .int x5), (6, .int x6), (8, .int x8), (9, .int x9)] [.int s0] M Q := by
  unfold f_X6_hooks_148 at h
  refine Ev.istore dX6_hooks_148 (Nat.le_of_ble_eq_true rfl) rfl ?_
  show Ev E mi_X6_hooks 150 [(4, .int s0), (0, .ref (ad E 54)), (1, .int p1), (2, .int p2), (3, .int p3), (5, .int x5), (6, .int x6), (8, .int x8), (9, .int x9)] [] M Q
  refine Ev.iload dX6_hooks_150 8 rfl ?_
  refine Ev.if_eq (tgt := 167) dX6_hooks_152 (by decide) (fun c1 => ?_) (fun c1 => ?_)
  · replace h := wp_t c1 h
    refine Ev.sub [1, 2, 3, 4, 0, 5, 6] rfl ?_
    exact o_X6_hooks_167 ht11 h
  · replace h := wp_f c1 h
    refine Ev.iload dX6_hooks_155 7 rfl ?_
    refine Ev.iload dX6_hooks_157 5 rfl ?_
    refine Ev.icmp_ge (tgt := 167) dX6_hooks_159 (by decide) (fun c2 => ?_) (fun c2 => ?_)
    · replace h := wp_t c2 h
      refine Ev.sub [1, 2, 3, 4, 0, 5, 6] rfl ?_
      exact o_X6_hooks_167 ht11 h
    · replace h := wp_f c2 h
      refine Ev.iload dX6_hooks_162 7 rfl ?_
      refine Ev.goto (tgt := 169) dX6_hooks_164 (by decide) ?_
      refine Ev.sub [1, 2, 3, 4, 0, 6] rfl ?_
      exact o_X6_hooks_169 ht11 h
noncomputable def f_X6_hooks_146 (p1 : Int32) (p2 : Int32) (p3 : Int32) (t11 : Int32 → Int32 → Int32 → Mem → Option Mem) (x4 : Int32) (x5 : Int32) (x6 : Int32) (x8 : Int32) (x9 : Int32) (M : Mem) : Option Mem := f_X6_hooks_148 p1 p2 p3 t11 x5 x6 x8 x9 x4 M
theorem o_X6_hooks_146 {E : GE} {Q : Option Value → Mem → Prop} {p1 : Int32} {p2 : Int32} {p3 : Int32} {t11 : Int32 → Int32 → Int32 → Mem → Option Mem} {x4 : Int32} {x5 : Int32} {x6 : Int32} {x8 : Int32} {x9 : Int32} {M : Mem} (ht11 : ∀ (x4 : Int32) (x5 : Int32) (x6 : Int32) (M : Mem), wp (t11 x4 x5 x6 M) gVM Q → Ev E mi_X6_hooks 11 [(0, .ref (ad E 54)), (1, .int p1), (2, .int p2), (3, .int p3), (4, .int x4), (5, .int x5), (6, .int x6)] [] M Q) (h : wp (f_X6_hooks_146 p1 p2 p3 t11 x4 x5 x6 x8 x9 M) gVM Q) : Ev E mi_X6_hooks 146 [(0, .ref (ad E 54)), (1, .int p1), (2, .int p2), (3, .int p3), (4, .int x4), (5, .int x5), (6, .int x6), (8, .int x8), (9, .int x9)] [] M Q := by
  unfold f_X6_hooks_146 at h
  refine Ev.iload dX6_hooks_146 4 rfl ?_
  refine Ev.sub [0, 1, 2, 3, 5, 6, 7, 8] rfl ?_
  exact o_X6_hooks_148 ht11 h
noncomputable def f_X6_hooks_127 (p1 : Int32) (p2 : Int32) (p3 : Int32) (t11 : Int32 → Int32 → Int32 → Mem → Option Mem) (x4 : Int32) (x5 : Int32) (x6 : Int32) (x8 : Int32) (s0 : Int32) (M : Mem) : Option Mem := if s0 = 0 then f_X6_hooks_146 p1 p2 p3 t11 x4 x5 x6 x8 s0 M else if x5 ≤ x8 then f_X6_hooks_146 p1 p2 p3 t11 x4 x5 x6 x8 s0 M else f_X6_hooks_148 p1 p2 p3 t11 x5 x6 x8 s0 x6 M
theorem o_X6_hooks_127 {E : GE} {Q : Option Value → Mem → Prop} {p1 : Int32} {p2 : Int32} {p3 : Int32} {t11 : Int32 → Int32 → Int32 → Mem → Option Mem} {x4 : Int32} {x5 : Int32} {x6 : Int32} {x8 : Int32} {s0 : Int32} {M : Mem} (ht11 : ∀ (x4 : Int32) (x5 : Int32) (x6 : Int32) (M : Mem), wp (t11 x4 x5 x6 M) gVM Q → Ev E mi_X6_hooks 11 [(0, .ref (ad E 54)), (1, .int p1), (2, .int p2), (3, .int p3), (4, .int x4), (5, .int x5), (6, .int x6)] [] M Q) (h : wp (f_X6_hooks_127 p1 p2 p3 t11 x4 x5 x6 x8 s0 M) gVM Q) : Ev E mi_X6_hooks 127 [(0, .ref (ad E 54)), (1, .int p1), (2, .int p2), (3, .int p3), (4, .int x4), (5, .int x5), (6, .int x6), (8, .int x8)] [.int s0] M Q := by
  unfold f_X6_hooks_127 at h
  refine Ev.istore dX6_hooks_127 (Nat.le_of_ble_eq_true rfl) rfl ?_
  show Ev E mi_X6_hooks 129 [(9, .int s0), (0, .ref (ad E 54)), (1, .int p1), (2, .int p2), (3, .int p3), (4, .int x4), (5, .int x5), (6, .int x6), (8, .int x8)] [] M Q
  refine Ev.iload dX6_hooks_129 0 rfl ?_
  refine Ev.if_eq (tgt := 146) dX6_hooks_131 (by decide) (fun c1 => ?_) (fun c1 => ?_)
  · replace h := wp_t c1 h
    refine Ev.sub [1, 2, 3, 4, 5, 6, 7, 8, 0] rfl ?_
    exact o_X6_hooks_146 ht11 h
  · replace h := wp_f c1 h
    refine Ev.iload dX6_hooks_134 8 rfl ?_
    refine Ev.iload dX6_hooks_136 6 rfl ?_
    refine Ev.icmp_ge (tgt := 146) dX6_hooks_138 (by decide) (fun c2 => ?_) (fun c2 => ?_)
    · replace h := wp_t c2 h
      refine Ev.sub [1, 2, 3, 4, 5, 6, 7, 8, 0] rfl ?_
      exact o_X6_hooks_146 ht11 h
    · replace h := wp_f c2 h
      refine Ev.iload dX6_hooks_141 7 rfl ?_
      refine Ev.goto (tgt := 148) dX6_hooks_143 (by decide) ?_
      refine Ev.sub [1, 2, 3, 4, 6, 7, 8, 0] rfl ?_
      exact o_X6_hooks_148 ht11 h
noncomputable def f_X6_hooks_126 (p1 : Int32) (p2 : Int32) (p3 : Int32) (t11 : Int32 → Int32 → Int32 → Mem → Option Mem) (x4 : Int32) (x5 : Int32) (x6 : Int32) (x8 : Int32) (M : Mem) : Option Mem := f_X6_hooks_127 p1 p2 p3 t11 x4 x5 x6 x8 0 M
theorem o_X6_hooks_126 {E : GE} {Q : Option Value → Mem → Prop} {p1 : Int32} {p2 : Int32} {p3 : Int32} {t11 : Int32 → Int32 → Int32 → Mem → Option Mem} {x4 : Int32} {x5 : Int32} {x6 : Int32} {x8 : Int32} {M : Mem} (ht11 : ∀ (x4 : Int32) (x5 : Int32) (x6 : Int32) (M : Mem), wp (t11 x4 x5 x6 M) gVM Q → Ev E mi_X6_hooks 11 [(0, .ref (ad E 54)), (1, .int p1), (2, .int p2), (3, .int p3), (4, .int x4), (5, .int x5), (6, .int x6)] [] M Q) (h : wp (f_X6_hooks_126 p1 p2 p3 t11 x4 x5 x6 x8 M) gVM Q) : Ev E mi_X6_hooks 126 [(0, .ref (ad E 54)), (1, .int p1), (2, .int p2), (3, .int p3), (4, .int x4), (5, .int x5), (6, .int x6), (8, .int x8)] [] M Q := by
  unfold f_X6_hooks_126 at h
  refine Ev.iconst (v := 0) dX6_hooks_126 rfl ?_
  exact o_X6_hooks_127 ht11 h
noncomputable def f_X6_hooks_78 (p1 : Int32) (p2 : Int32) (p3 : Int32) (t11 : Int32 → Int32 → Int32 → Mem → Option Mem) (x4 : Int32) (x5 : Int32) (x6 : Int32) (x7 : Int32) (s0 : Int32) (M : Mem) : Option Mem := rd (M 55) 360 (x7 + 1) fun r2 => rd (M 55) 360 (x7 + 2) fun r4 => (f_X6_in p3.toInt64 r2.toInt64 r4.toInt64 M).bind fun r5 => if r5 = 0 then f_X6_hooks_126 p1 p2 p3 t11 x4 x5 x6 s0 M else rd (M 55) 360 (x7 + 3) fun r8 => if r8 < s0 then f_X6_hooks_126 p1 p2 p3 t11 x4 x5 x6 s0 M else f_X6_hooks_127 p1 p2 p3 t11 x4 x5 x6 s0 1 M
theorem o_X6_hooks_78 {E : GE} {Q : Option Value → Mem → Prop} {p1 : Int32} {p2 : Int32} {p3 : Int32} {t11 : Int32 → Int32 → Int32 → Mem → Option Mem} {x4 : Int32} {x5 : Int32} {x6 : Int32} {x7 : Int32} {s0 : Int32} {M : Mem} (ht11 : ∀ (x4 : Int32) (x5 : Int32) (x6 : Int32) (M : Mem), wp (t11 x4 x5 x6 M) gVM Q → Ev E mi_X6_hooks 11 [(0, .ref (ad E 54)), (1, .int p1), (2, .int p2), (3, .int p3), (4, .int x4), (5, .int x5), (6, .int x6)] [] M Q) (h : wp (f_X6_hooks_78 p1 p2 p3 t11 x4 x5 x6 x7 s0 M) gVM Q) : Ev E mi_X6_hooks 78 [(0, .ref (ad E 54)), (1, .int p1), (2, .int p2), (3, .int p3), (4, .int x4), (5, .int x5), (6, .int x6), (7, .int x7)] [.int s0] M Q := by
  unfold f_X6_hooks_78 at h
  refine Ev.istore dX6_hooks_78 (Nat.le_of_ble_eq_true rfl) rfl ?_
  show Ev E mi_X6_hooks 80 [(8, .int s0), (0, .ref (ad E 54)), (1, .int p1), (2, .int p2), (3, .int p3), (4, .int x4), (5, .int x5), (6, .int x6), (7, .int x7)] [] M Q
  refine Ev.iload_n dX6_hooks_80 rfl 4 rfl ?_
  refine Ev.i2l dX6_hooks_81 ?_
  refine Ev.aload_n dX6_hooks_82 rfl 1 rfl ?_
  refine Ev.get dX6_hooks_83 fl_X6_7 rfl (Nat.le_of_ble_eq_true rfl) (v := .ref (ad E 55)) rfl ?_
  refine Ev.iload dX6_hooks_86 8 rfl ?_
  refine Ev.iconst (v := 1) dX6_hooks_88 rfl ?_
  refine Ev.iadd dX6_hooks_89 ?_
  obtain ⟨g1, h⟩ := wp_rd h
  refine Ev.iald dX6_hooks_90 rfl (Nat.le_of_ble_eq_true rfl) rfl g1 ?_
  refine Ev.topi (fun r2 er2 => ?_)
  replace h := h r2 er2
  refine Ev.i2l dX6_hooks_91 ?_
  refine Ev.aload_n dX6_hooks_92 rfl 1 rfl ?_
  refine Ev.get dX6_hooks_93 fl_X6_7 rfl (Nat.le_of_ble_eq_true rfl) (v := .ref (ad E 55)) rfl ?_
  refine Ev.iload dX6_hooks_96 8 rfl ?_
  refine Ev.iconst (v := 2) dX6_hooks_98 rfl ?_
  refine Ev.iadd dX6_hooks_99 ?_
  obtain ⟨g3, h⟩ := wp_rd h
  refine Ev.iald dX6_hooks_100 rfl (Nat.le_of_ble_eq_true rfl) rfl g3 ?_
  refine Ev.topi (fun r4 er4 => ?_)
  replace h := h r4 er4
  refine Ev.i2l dX6_hooks_101 ?_
  obtain ⟨r5, er5, h⟩ := wp_bind h
  refine Ev.callS (as := [.long p3.toInt64, .long r2.toInt64, .long r4.toInt64]) (rest := []) dX6_hooks_102 cl_X6_73 mos_X6_in ⟨Nat.le_of_ble_eq_true rfl, Nat.le_of_ble_eq_true rfl⟩ (Nat.le_of_ble_eq_true rfl) rfl rfl (o_X6_in ⟨r5, er5, ?_⟩)
  show Ev E mi_X6_hooks 105 [(8, .int s0), (0, .ref (ad E 54)), (1, .int p1), (2, .int p2), (3, .int p3), (4, .int x4), (5, .int x5), (6, .int x6), (7, .int x7)] [.int r5] M Q
  refine Ev.if_eq (tgt := 126) dX6_hooks_105 (by decide) (fun c6 => ?_) (fun c6 => ?_)
  · replace h := wp_t c6 h
    refine Ev.sub [1, 2, 3, 4, 5, 6, 7, 0] rfl ?_
    exact o_X6_hooks_126 ht11 h
  · replace h := wp_f c6 h
    refine Ev.iload dX6_hooks_108 0 rfl ?_
    refine Ev.aload_n dX6_hooks_110 rfl 1 rfl ?_
    refine Ev.get dX6_hooks_111 fl_X6_7 rfl (Nat.le_of_ble_eq_true rfl) (v := .ref (ad E 55)) rfl ?_
    refine Ev.iload dX6_hooks_114 8 rfl ?_
    refine Ev.iconst (v := 3) dX6_hooks_116 rfl ?_
    refine Ev.iadd dX6_hooks_117 ?_
    obtain ⟨g7, h⟩ := wp_rd h
    refine Ev.iald dX6_hooks_118 rfl (Nat.le_of_ble_eq_true rfl) rfl g7 ?_
    refine Ev.topi (fun r8 er8 => ?_)
    replace h := h r8 er8
    refine Ev.icmp_gt (tgt := 126) dX6_hooks_119 (by decide) (fun c9 => ?_) (fun c9 => ?_)
    · replace h := wp_t c9 h
      refine Ev.sub [1, 2, 3, 4, 5, 6, 7, 0] rfl ?_
      exact o_X6_hooks_126 ht11 h
    · replace h := wp_f c9 h
      refine Ev.iconst (v := 1) dX6_hooks_122 rfl ?_
      refine Ev.goto (tgt := 127) dX6_hooks_123 (by decide) ?_
      refine Ev.sub [1, 2, 3, 4, 5, 6, 7, 0] rfl ?_
      exact o_X6_hooks_127 ht11 h
noncomputable def f_X6_hooks_177 (p1 : Int32) (p2 : Int32) (p3 : Int32) (x4 : Int32) (M : Mem) : Option Mem := if x4 = (-4) then some M else inb p2 4 <| lm (up M 63 p2.toNatClampNeg 1) fun M3 => inb p2 4 <| lm (up M3 65 p2.toNatClampNeg x4) fun M5 => inb p2 4 <| lm (up M5 66 p2.toNatClampNeg p3) fun M7 => some M7
theorem o_X6_hooks_177 {E : GE} {Q : Option Value → Mem → Prop} {p1 : Int32} {p2 : Int32} {p3 : Int32} {x4 : Int32} {M : Mem} (h : wp (f_X6_hooks_177 p1 p2 p3 x4 M) gVM Q) : Ev E mi_X6_hooks 177 [(0, .ref (ad E 54)), (2, .int p2), (3, .int p3), (4, .int x4)] [] M Q := by
  unfold f_X6_hooks_177 at h
  refine Ev.iload dX6_hooks_177 3 rfl ?_
  refine Ev.bipush (v := (-4)) dX6_hooks_179 rfl ?_
  refine Ev.icmp_eq (tgt := 206) dX6_hooks_181 (by decide) (fun c1 => ?_) (fun c1 => ?_)
  · replace h := wp_t c1 h
    exact Ev.vret dX6_hooks_206 rfl (wp_ret h)
  · replace h := wp_f c1 h
    refine Ev.aload_n dX6_hooks_184 rfl 0 rfl ?_
    refine Ev.get dX6_hooks_185 fl_X6_34 rfl (Nat.le_of_ble_eq_true rfl) (v := .ref (ad E 63)) rfl ?_
    refine Ev.iload_n dX6_hooks_188 rfl 1 rfl ?_
    refine Ev.iconst (v := 1) dX6_hooks_189 rfl ?_
    obtain ⟨g2, h⟩ := wp_inb h
    refine Ev.iast dX6_hooks_190 rfl (Nat.le_of_ble_eq_true rfl) rfl g2 ?_
    refine Ev.topM (fun M3 eM3 => ?_)
    replace h := wp_lm h M3 eM3
    refine Ev.aload_n dX6_hooks_191 rfl 0 rfl ?_
    refine Ev.get dX6_hooks_192 fl_X6_40 rfl (Nat.le_of_ble_eq_true rfl) (v := .ref (ad E 65)) rfl ?_
    refine Ev.iload_n dX6_hooks_195 rfl 1 rfl ?_
    refine Ev.iload dX6_hooks_196 3 rfl ?_
    obtain ⟨g4, h⟩ := wp_inb h
    refine Ev.iast dX6_hooks_198 rfl (Nat.le_of_ble_eq_true rfl) rfl g4 ?_
    refine Ev.topM (fun M5 eM5 => ?_)
    replace h := wp_lm h M5 eM5
    refine Ev.aload_n dX6_hooks_199 rfl 0 rfl ?_
    refine Ev.get dX6_hooks_200 fl_X6_43 rfl (Nat.le_of_ble_eq_true rfl) (v := .ref (ad E 66)) rfl ?_
    refine Ev.iload_n dX6_hooks_203 rfl 1 rfl ?_
    refine Ev.iload_n dX6_hooks_204 rfl 2 rfl ?_
    obtain ⟨g6, h⟩ := wp_inb h
    refine Ev.iast dX6_hooks_205 rfl (Nat.le_of_ble_eq_true rfl) rfl g6 ?_
    refine Ev.topM (fun M7 eM7 => ?_)
    replace h := wp_lm h M7 eM7
    exact Ev.vret dX6_hooks_206 rfl (wp_ret h)
noncomputable def f_X6_hooks_11 (p1 : Int32) (p2 : Int32) (p3 : Int32) : Nat → Int32 → Int32 → Int32 → Mem → Option Mem
  | 0, _, _, _, _ => none
  | n + 1, x4, x5, x6, M => if (M 54 2) ≤ x6 then f_X6_hooks_177 p1 p2 p3 x4 M else li ((p1 + 21) + (4 * x6)) fun y2 => rd (M 55) 360 y2 fun r4 => rd (M 61) 4 p2 fun r6 => if r4 ≤ r6 then rd (M 61) 4 p2 fun r9 => rd (M 55) 360 y2 fun r11 => f_X6_hooks_78 p1 p2 p3 (f_X6_hooks_11 p1 p2 p3 n) x4 x5 x6 y2 (r9 - r11) M else rd (M 55) 360 y2 fun r13 => rd (M 61) 4 p2 fun r15 => f_X6_hooks_78 p1 p2 p3 (f_X6_hooks_11 p1 p2 p3 n) x4 x5 x6 y2 (r13 - r15) M
theorem o_X6_hooks_11 {E : GE} {Q : Option Value → Mem → Prop} {p1 : Int32} {p2 : Int32} {p3 : Int32} : ∀ (n : Nat) {x4 : Int32} {x5 : Int32} {x6 : Int32} {M : Mem}, wp (f_X6_hooks_11 p1 p2 p3 n x4 x5 x6 M) gVM Q → Ev E mi_X6_hooks 11 [(0, .ref (ad E 54)), (1, .int p1), (2, .int p2), (3, .int p3), (4, .int x4), (5, .int x5), (6, .int x6)] [] M Q := by
  intro n
  induction n with
  | zero => intro _ _ _ _ h; exact absurd h wp_none
  | succ n ih =>
    intro x4 x5 x6 M h
    unfold f_X6_hooks_11 at h
    refine Ev.iload dX6_hooks_11 6 rfl ?_
    refine Ev.aload_n dX6_hooks_13 rfl 0 rfl ?_
    refine Ev.get dX6_hooks_14 fl_X6_156 rfl (Nat.le_of_ble_eq_true rfl) rfl ?_
    refine Ev.icmp_ge (tgt := 177) dX6_hooks_17 (by decide) (fun c1 => ?_) (fun c1 => ?_)
    · replace h := wp_t c1 h
      refine Ev.sub [0, 2, 3, 4] rfl ?_
      exact o_X6_hooks_177 h
    · replace h := wp_f c1 h
      refine Ev.iload_n dX6_hooks_20 rfl 1 rfl ?_
      refine Ev.bipush (v := 21) dX6_hooks_21 rfl ?_
      refine Ev.iadd dX6_hooks_23 ?_
      refine Ev.iconst (v := 4) dX6_hooks_24 rfl ?_
      refine Ev.iload dX6_hooks_25 6 rfl ?_
      refine Ev.imul dX6_hooks_27 ?_
      refine Ev.iadd dX6_hooks_28 ?_
      refine Ev.topi (fun y2 ey2 => ?_)
      replace h := wp_li h y2 ey2
      refine Ev.istore dX6_hooks_29 (Nat.le_of_ble_eq_true rfl) rfl ?_
      show Ev E mi_X6_hooks 31 [(7, .int y2), (0, .ref (ad E 54)), (1, .int p1), (2, .int p2), (3, .int p3), (4, .int x4), (5, .int x5), (6, .int x6)] [] M Q
      refine Ev.aload_n dX6_hooks_31 rfl 1 rfl ?_
      refine Ev.get dX6_hooks_32 fl_X6_7 rfl (Nat.le_of_ble_eq_true rfl) (v := .ref (ad E 55)) rfl ?_
      refine Ev.iload dX6_hooks_35 0 rfl ?_
      obtain ⟨g3, h⟩ := wp_rd h
      refine Ev.iald dX6_hooks_37 rfl (Nat.le_of_ble_eq_true rfl) rfl g3 ?_
      refine Ev.topi (fun r4 er4 => ?_)
      replace h := h r4 er4
      refine Ev.aload_n dX6_hooks_38 rfl 1 rfl ?_
      refine Ev.get dX6_hooks_39 fl_X6_28 rfl (Nat.le_of_ble_eq_true rfl) (v := .ref (ad E 61)) rfl ?_
      refine Ev.iload_n dX6_hooks_42 rfl 3 rfl ?_
      obtain ⟨g5, h⟩ := wp_rd h
      refine Ev.iald dX6_hooks_43 rfl (Nat.le_of_ble_eq_true rfl) rfl g5 ?_
      refine Ev.topi (fun r6 er6 => ?_)
      replace h := h r6 er6
      refine Ev.icmp_le (tgt := 64) dX6_hooks_44 (by decide) (fun c7 => ?_) (fun c7 => ?_)
      · replace h := wp_t c7 h
        refine Ev.aload_n dX6_hooks_64 rfl 1 rfl ?_
        refine Ev.get dX6_hooks_65 fl_X6_28 rfl (Nat.le_of_ble_eq_true rfl) (v := .ref (ad E 61)) rfl ?_
        refine Ev.iload_n dX6_hooks_68 rfl 3 rfl ?_
        obtain ⟨g8, h⟩ := wp_rd h
        refine Ev.iald dX6_hooks_69 rfl (Nat.le_of_ble_eq_true rfl) rfl g8 ?_
        refine Ev.topi (fun r9 er9 => ?_)
        replace h := h r9 er9
        refine Ev.aload_n dX6_hooks_70 rfl 1 rfl ?_
        refine Ev.get dX6_hooks_71 fl_X6_7 rfl (Nat.le_of_ble_eq_true rfl) (v := .ref (ad E 55)) rfl ?_
        refine Ev.iload dX6_hooks_74 0 rfl ?_
        obtain ⟨g10, h⟩ := wp_rd h
        refine Ev.iald dX6_hooks_76 rfl (Nat.le_of_ble_eq_true rfl) rfl g10 ?_
        refine Ev.topi (fun r11 er11 => ?_)
        replace h := h r11 er11
        refine Ev.isub dX6_hooks_77 ?_
        refine Ev.sub [1, 2, 3, 4, 5, 6, 7, 0] rfl ?_
        exact o_X6_hooks_78 (fun _ _ _ _ h => ih h) h
      · replace h := wp_f c7 h
        refine Ev.aload_n dX6_hooks_47 rfl 1 rfl ?_
        refine Ev.get dX6_hooks_48 fl_X6_7 rfl (Nat.le_of_ble_eq_true rfl) (v := .ref (ad E 55)) rfl ?_
        refine Ev.iload dX6_hooks_51 0 rfl ?_
        obtain ⟨g12, h⟩ := wp_rd h
        refine Ev.iald dX6_hooks_53 rfl (Nat.le_of_ble_eq_true rfl) rfl g12 ?_
        refine Ev.topi (fun r13 er13 => ?_)
        replace h := h r13 er13
        refine Ev.aload_n dX6_hooks_54 rfl 1 rfl ?_
        refine Ev.get dX6_hooks_55 fl_X6_28 rfl (Nat.le_of_ble_eq_true rfl) (v := .ref (ad E 61)) rfl ?_
        refine Ev.iload_n dX6_hooks_58 rfl 3 rfl ?_
        obtain ⟨g14, h⟩ := wp_rd h
        refine Ev.iald dX6_hooks_59 rfl (Nat.le_of_ble_eq_true rfl) rfl g14 ?_
        refine Ev.topi (fun r15 er15 => ?_)
        replace h := h r15 er15
        refine Ev.isub dX6_hooks_60 ?_
        refine Ev.goto (tgt := 78) dX6_hooks_61 (by decide) ?_
        refine Ev.sub [1, 2, 3, 4, 5, 6, 7, 0] rfl ?_
        exact o_X6_hooks_78 (fun _ _ _ _ h => ih h) h
noncomputable def f_X6_hooks (p1 : Int32) (p2 : Int32) (p3 : Int32) (M : Mem) : Option Mem := f_X6_hooks_11 p1 p2 p3 FU (-4) 100 0 M
theorem o_X6_hooks {E : GE} {Q : Option Value → Mem → Prop} {p1 : Int32} {p2 : Int32} {p3 : Int32} {M : Mem} (h : wp (f_X6_hooks p1 p2 p3 M) gVM Q) : Runs E mi_X6_hooks [.ref (ad E 54), .int p1, .int p2, .int p3] M Q := by
  refine Runs.ofEv (by decide +kernel) (Nat.le_of_ble_eq_true rfl) ?_
  show Ev E mi_X6_hooks 0 [(0, .ref (ad E 54)), (1, .int p1), (2, .int p2), (3, .int p3)] [] M Q
  unfold f_X6_hooks at h
  refine Ev.bipush (v := (-4)) dX6_hooks_0 rfl ?_
  refine Ev.istore dX6_hooks_2 (Nat.le_of_ble_eq_true rfl) rfl ?_
  show Ev E mi_X6_hooks 4 [(4, .int (-4)), (0, .ref (ad E 54)), (1, .int p1), (2, .int p2), (3, .int p3)] [] M Q
  refine Ev.bipush (v := 100) dX6_hooks_4 rfl ?_
  refine Ev.istore dX6_hooks_6 (Nat.le_of_ble_eq_true rfl) rfl ?_
  show Ev E mi_X6_hooks 8 [(5, .int 100), (4, .int (-4)), (0, .ref (ad E 54)), (1, .int p1), (2, .int p2), (3, .int p3)] [] M Q
  refine Ev.iconst (v := 0) dX6_hooks_8 rfl ?_
  refine Ev.istore dX6_hooks_9 (Nat.le_of_ble_eq_true rfl) rfl ?_
  show Ev E mi_X6_hooks 11 [(6, .int 0), (5, .int 100), (4, .int (-4)), (0, .ref (ad E 54)), (1, .int p1), (2, .int p2), (3, .int p3)] [] M Q
  refine Ev.sub [3, 4, 5, 6, 2, 1, 0] rfl ?_
  exact o_X6_hooks_11 FU h

noncomputable def f_X6_dayGoes_151 (p1 : Int32) (p2 : Int32) (t109 : Int32 → Int32 → Int32 → Mem → Option Mem) (x3 : Int32) (x4 : Int32) (x5 : Int32) (M : Mem) : Option Mem := t109 x3 x4 (x5 + 1) M
theorem o_X6_dayGoes_151 {E : GE} {Q : Option Value → Mem → Prop} {p1 : Int32} {p2 : Int32} {t109 : Int32 → Int32 → Int32 → Mem → Option Mem} {x3 : Int32} {x4 : Int32} {x5 : Int32} {M : Mem} (ht109 : ∀ (x3 : Int32) (x4 : Int32) (x5 : Int32) (M : Mem), wp (t109 x3 x4 x5 M) gVM Q → Ev E mi_X6_dayGoes 109 [(0, .ref (ad E 54)), (1, .int p1), (2, .int p2), (3, .int x3), (4, .int x4), (5, .int x5)] [] M Q) (h : wp (f_X6_dayGoes_151 p1 p2 t109 x3 x4 x5 M) gVM Q) : Ev E mi_X6_dayGoes 151 [(0, .ref (ad E 54)), (1, .int p1), (2, .int p2), (3, .int x3), (4, .int x4), (5, .int x5)] [] M Q := by
  unfold f_X6_dayGoes_151 at h
  refine Ev.iinc (v := x5 + 1) dX6_dayGoes_151 5 rfl rfl (Nat.le_of_ble_eq_true rfl) rfl ?_
  show Ev E mi_X6_dayGoes 154 [(5, .int (x5 + 1)), (0, .ref (ad E 54)), (1, .int p1), (2, .int p2), (3, .int x3), (4, .int x4)] [] M Q
  refine Ev.goto (tgt := 109) dX6_dayGoes_154 (by decide) ?_
  refine Ev.sub [1, 2, 3, 4, 5, 0] rfl ?_
  exact ht109 _ _ _ _ h
noncomputable def f_X6_dayGoes_186 (p1 : Int32) (p2 : Int32) (t160 : Int32 → Int32 → Int32 → Mem → Option Mem) (x3 : Int32) (x4 : Int32) (x5 : Int32) (M : Mem) : Option Mem := t160 x3 x4 (x5 + 1) M
theorem o_X6_dayGoes_186 {E : GE} {Q : Option Value → Mem → Prop} {p1 : Int32} {p2 : Int32} {t160 : Int32 → Int32 → Int32 → Mem → Option Mem} {x3 : Int32} {x4 : Int32} {x5 : Int32} {M : Mem} (ht160 : ∀ (x3 : Int32) (x4 : Int32) (x5 : Int32) (M : Mem), wp (t160 x3 x4 x5 M) gVM Q → Ev E mi_X6_dayGoes 160 [(0, .ref (ad E 54)), (1, .int p1), (2, .int p2), (3, .int x3), (4, .int x4), (5, .int x5)] [] M Q) (h : wp (f_X6_dayGoes_186 p1 p2 t160 x3 x4 x5 M) gVM Q) : Ev E mi_X6_dayGoes 186 [(0, .ref (ad E 54)), (1, .int p1), (2, .int p2), (3, .int x3), (4, .int x4), (5, .int x5)] [] M Q := by
  unfold f_X6_dayGoes_186 at h
  refine Ev.iinc (v := x5 + 1) dX6_dayGoes_186 5 rfl rfl (Nat.le_of_ble_eq_true rfl) rfl ?_
  show Ev E mi_X6_dayGoes 189 [(5, .int (x5 + 1)), (0, .ref (ad E 54)), (1, .int p1), (2, .int p2), (3, .int x3), (4, .int x4)] [] M Q
  refine Ev.goto (tgt := 160) dX6_dayGoes_189 (by decide) ?_
  refine Ev.sub [1, 2, 3, 4, 5, 0] rfl ?_
  exact ht160 _ _ _ _ h
noncomputable def f_X6_dayGoes_192 (p1 : Int32) (p2 : Int32) (t100 : Int32 → Int32 → Mem → Option Mem) (x3 : Int32) (x4 : Int32) (M : Mem) : Option Mem := t100 x3 (x4 + 1) M
theorem o_X6_dayGoes_192 {E : GE} {Q : Option Value → Mem → Prop} {p1 : Int32} {p2 : Int32} {t100 : Int32 → Int32 → Mem → Option Mem} {x3 : Int32} {x4 : Int32} {M : Mem} (ht100 : ∀ (x3 : Int32) (x4 : Int32) (M : Mem), wp (t100 x3 x4 M) gVM Q → Ev E mi_X6_dayGoes 100 [(0, .ref (ad E 54)), (1, .int p1), (2, .int p2), (3, .int x3), (4, .int x4)] [] M Q) (h : wp (f_X6_dayGoes_192 p1 p2 t100 x3 x4 M) gVM Q) : Ev E mi_X6_dayGoes 192 [(0, .ref (ad E 54)), (1, .int p1), (2, .int p2), (3, .int x3), (4, .int x4)] [] M Q := by
  unfold f_X6_dayGoes_192 at h
  refine Ev.iinc (v := x4 + 1) dX6_dayGoes_192 4 rfl rfl (Nat.le_of_ble_eq_true rfl) rfl ?_
  show Ev E mi_X6_dayGoes 195 [(4, .int (x4 + 1)), (0, .ref (ad E 54)), (1, .int p1), (2, .int p2), (3, .int x3)] [] M Q
  refine Ev.goto (tgt := 100) dX6_dayGoes_195 (by decide) ?_
  refine Ev.sub [1, 2, 3, 4, 0] rfl ?_
  exact ht100 _ _ _ h
noncomputable def f_X6_dayGoes_160 (p1 : Int32) (p2 : Int32) (t100 : Int32 → Int32 → Mem → Option Mem) : Nat → Int32 → Int32 → Int32 → Mem → Option Mem
  | 0, _, _, _, _ => none
  | n + 1, x3, x4, x5, M => if x3 ≤ x5 then f_X6_dayGoes_192 p1 p2 t100 x3 x4 M else rd (M 63) 4 x5 fun r3 => if r3 = 2 then (f_X6_hooks p1 x5 x4 M).bind fun r5 => f_X6_dayGoes_186 p1 p2 (f_X6_dayGoes_160 p1 p2 t100 n) x3 x4 x5 r5 else f_X6_dayGoes_186 p1 p2 (f_X6_dayGoes_160 p1 p2 t100 n) x3 x4 x5 M
theorem o_X6_dayGoes_160 {E : GE} {Q : Option Value → Mem → Prop} {p1 : Int32} {p2 : Int32} {t100 : Int32 → Int32 → Mem → Option Mem} (ht100 : ∀ (x3 : Int32) (x4 : Int32) (M : Mem), wp (t100 x3 x4 M) gVM Q → Ev E mi_X6_dayGoes 100 [(0, .ref (ad E 54)), (1, .int p1), (2, .int p2), (3, .int x3), (4, .int x4)] [] M Q) : ∀ (n : Nat) {x3 : Int32} {x4 : Int32} {x5 : Int32} {M : Mem}, wp (f_X6_dayGoes_160 p1 p2 t100 n x3 x4 x5 M) gVM Q → Ev E mi_X6_dayGoes 160 [(0, .ref (ad E 54)), (1, .int p1), (2, .int p2), (3, .int x3), (4, .int x4), (5, .int x5)] [] M Q := by
  intro n
  induction n with
  | zero => intro _ _ _ _ h; exact absurd h wp_none
  | succ n ih =>
    intro x3 x4 x5 M h
    unfold f_X6_dayGoes_160 at h
    refine Ev.iload dX6_dayGoes_160 5 rfl ?_
    refine Ev.iload_n dX6_dayGoes_162 rfl 3 rfl ?_
    refine Ev.icmp_ge (tgt := 192) dX6_dayGoes_163 (by decide) (fun c1 => ?_) (fun c1 => ?_)
    · replace h := wp_t c1 h
      refine Ev.sub [0, 1, 2, 3, 4] rfl ?_
      exact o_X6_dayGoes_192 ht100 h
    · replace h := wp_f c1 h
      refine Ev.aload_n dX6_dayGoes_166 rfl 0 rfl ?_
      refine Ev.get dX6_dayGoes_167 fl_X6_34 rfl (Nat.le_of_ble_eq_true rfl) (v := .ref (ad E 63)) rfl ?_
      refine Ev.iload dX6_dayGoes_170 5 rfl ?_
      obtain ⟨g2, h⟩ := wp_rd h
      refine Ev.iald dX6_dayGoes_172 rfl (Nat.le_of_ble_eq_true rfl) rfl g2 ?_
      refine Ev.topi (fun r3 er3 => ?_)
      replace h := h r3 er3
      refine Ev.iconst (v := 2) dX6_dayGoes_173 rfl ?_
      refine Ev.icmp_ne (tgt := 186) dX6_dayGoes_174 (by decide) (fun c4 => ?_) (fun c4 => ?_)
      · replace h := wp_t c4 h
        refine Ev.aload_n dX6_dayGoes_177 rfl 0 rfl ?_
        refine Ev.iload_n dX6_dayGoes_178 rfl 1 rfl ?_
        refine Ev.iload dX6_dayGoes_179 5 rfl ?_
        refine Ev.iload dX6_dayGoes_181 4 rfl ?_
        obtain ⟨r5, er5, h⟩ := wp_bind h
        refine Ev.callV (k := 54) (as := [.int p1, .int x5, .int x4]) (rest := []) dX6_dayGoes_183 cl_X6_205 mok_X6_hooks rfl (Nat.le_of_ble_eq_true rfl) (Nat.le_of_ble_eq_true rfl) ⟨Nat.le_of_ble_eq_true rfl, Nat.le_of_ble_eq_true rfl⟩ (Nat.le_of_ble_eq_true rfl) rfl rfl (o_X6_hooks ⟨r5, er5, ?_⟩)
        show Ev E mi_X6_dayGoes 186 [(0, .ref (ad E 54)), (1, .int p1), (2, .int p2), (3, .int x3), (4, .int x4), (5, .int x5)] [] r5 Q
        exact o_X6_dayGoes_186 (fun _ _ _ _ h => ih h) h
      · replace h := wp_f c4 h
        exact o_X6_dayGoes_186 (fun _ _ _ _ h => ih h) h
noncomputable def f_X6_dayGoes_157 (p1 : Int32) (p2 : Int32) (t100 : Int32 → Int32 → Mem → Option Mem) (x3 : Int32) (x4 : Int32) (M : Mem) : Option Mem := f_X6_dayGoes_160 p1 p2 t100 FU x3 x4 0 M
theorem o_X6_dayGoes_157 {E : GE} {Q : Option Value → Mem → Prop} {p1 : Int32} {p2 : Int32} {t100 : Int32 → Int32 → Mem → Option Mem} {x3 : Int32} {x4 : Int32} {M : Mem} (ht100 : ∀ (x3 : Int32) (x4 : Int32) (M : Mem), wp (t100 x3 x4 M) gVM Q → Ev E mi_X6_dayGoes 100 [(0, .ref (ad E 54)), (1, .int p1), (2, .int p2), (3, .int x3), (4, .int x4)] [] M Q) (h : wp (f_X6_dayGoes_157 p1 p2 t100 x3 x4 M) gVM Q) : Ev E mi_X6_dayGoes 157 [(0, .ref (ad E 54)), (1, .int p1), (2, .int p2), (3, .int x3), (4, .int x4)] [] M Q := by
  unfold f_X6_dayGoes_157 at h
  refine Ev.iconst (v := 0) dX6_dayGoes_157 rfl ?_
  refine Ev.istore dX6_dayGoes_158 (Nat.le_of_ble_eq_true rfl) rfl ?_
  show Ev E mi_X6_dayGoes 160 [(5, .int 0), (0, .ref (ad E 54)), (1, .int p1), (2, .int p2), (3, .int x3), (4, .int x4)] [] M Q
  refine Ev.sub [1, 2, 3, 4, 5, 0] rfl ?_
  exact o_X6_dayGoes_160 ht100 FU h
noncomputable def f_X6_dayGoes_109 (p1 : Int32) (p2 : Int32) (t100 : Int32 → Int32 → Mem → Option Mem) : Nat → Int32 → Int32 → Int32 → Mem → Option Mem
  | 0, _, _, _, _ => none
  | n + 1, x3, x4, x5, M => if x3 ≤ x5 then f_X6_dayGoes_157 p1 p2 t100 x3 x4 M else rd (M 63) 4 x5 fun r3 => if r3 = 0 then rd (M 55) 360 ((p1 + 12) + x5) fun r6 => if x4 < r6 then f_X6_dayGoes_151 p1 p2 (f_X6_dayGoes_109 p1 p2 t100 n) x3 x4 x5 M else (f_X6_drifts p1 x5 x4 M).bind fun r8 => f_X6_dayGoes_151 p1 p2 (f_X6_dayGoes_109 p1 p2 t100 n) x3 x4 x5 r8 else f_X6_dayGoes_151 p1 p2 (f_X6_dayGoes_109 p1 p2 t100 n) x3 x4 x5 M
theorem o_X6_dayGoes_109 {E : GE} {Q : Option Value → Mem → Prop} {p1 : Int32} {p2 : Int32} {t100 : Int32 → Int32 → Mem → Option Mem} (ht100 : ∀ (x3 : Int32) (x4 : Int32) (M : Mem), wp (t100 x3 x4 M) gVM Q → Ev E mi_X6_dayGoes 100 [(0, .ref (ad E 54)), (1, .int p1), (2, .int p2), (3, .int x3), (4, .int x4)] [] M Q) : ∀ (n : Nat) {x3 : Int32} {x4 : Int32} {x5 : Int32} {M : Mem}, wp (f_X6_dayGoes_109 p1 p2 t100 n x3 x4 x5 M) gVM Q → Ev E mi_X6_dayGoes 109 [(0, .ref (ad E 54)), (1, .int p1), (2, .int p2), (3, .int x3), (4, .int x4), (5, .int x5)] [] M Q := by
  intro n
  induction n with
  | zero => intro _ _ _ _ h; exact absurd h wp_none
  | succ n ih =>
    intro x3 x4 x5 M h
    unfold f_X6_dayGoes_109 at h
    refine Ev.iload dX6_dayGoes_109 5 rfl ?_
    refine Ev.iload_n dX6_dayGoes_111 rfl 3 rfl ?_
    refine Ev.icmp_ge (tgt := 157) dX6_dayGoes_112 (by decide) (fun c1 => ?_) (fun c1 => ?_)
    · replace h := wp_t c1 h
      refine Ev.sub [0, 1, 2, 3, 4] rfl ?_
      exact o_X6_dayGoes_157 ht100 h
    · replace h := wp_f c1 h
      refine Ev.aload_n dX6_dayGoes_115 rfl 0 rfl ?_
      refine Ev.get dX6_dayGoes_116 fl_X6_34 rfl (Nat.le_of_ble_eq_true rfl) (v := .ref (ad E 63)) rfl ?_
      refine Ev.iload dX6_dayGoes_119 5 rfl ?_
      obtain ⟨g2, h⟩ := wp_rd h
      refine Ev.iald dX6_dayGoes_121 rfl (Nat.le_of_ble_eq_true rfl) rfl g2 ?_
      refine Ev.topi (fun r3 er3 => ?_)
      replace h := h r3 er3
      refine Ev.if_ne (tgt := 151) dX6_dayGoes_122 (by decide) (fun c4 => ?_) (fun c4 => ?_)
      · replace h := wp_t c4 h
        refine Ev.aload_n dX6_dayGoes_125 rfl 0 rfl ?_
        refine Ev.get dX6_dayGoes_126 fl_X6_7 rfl (Nat.le_of_ble_eq_true rfl) (v := .ref (ad E 55)) rfl ?_
        refine Ev.iload_n dX6_dayGoes_129 rfl 1 rfl ?_
        refine Ev.bipush (v := 12) dX6_dayGoes_130 rfl ?_
        refine Ev.iadd dX6_dayGoes_132 ?_
        refine Ev.iload dX6_dayGoes_133 5 rfl ?_
        refine Ev.iadd dX6_dayGoes_135 ?_
        obtain ⟨g5, h⟩ := wp_rd h
        refine Ev.iald dX6_dayGoes_136 rfl (Nat.le_of_ble_eq_true rfl) rfl g5 ?_
        refine Ev.topi (fun r6 er6 => ?_)
        replace h := h r6 er6
        refine Ev.iload dX6_dayGoes_137 4 rfl ?_
        refine Ev.icmp_gt (tgt := 151) dX6_dayGoes_139 (by decide) (fun c7 => ?_) (fun c7 => ?_)
        · replace h := wp_t c7 h
          exact o_X6_dayGoes_151 (fun _ _ _ _ h => ih h) h
        · replace h := wp_f c7 h
          refine Ev.aload_n dX6_dayGoes_142 rfl 0 rfl ?_
          refine Ev.iload_n dX6_dayGoes_143 rfl 1 rfl ?_
          refine Ev.iload dX6_dayGoes_144 5 rfl ?_
          refine Ev.iload dX6_dayGoes_146 4 rfl ?_
          obtain ⟨r8, er8, h⟩ := wp_bind h
          refine Ev.callV (k := 54) (as := [.int p1, .int x5, .int x4]) (rest := []) dX6_dayGoes_148 cl_X6_201 mok_X6_drifts rfl (Nat.le_of_ble_eq_true rfl) (Nat.le_of_ble_eq_true rfl) ⟨Nat.le_of_ble_eq_true rfl, Nat.le_of_ble_eq_true rfl⟩ (Nat.le_of_ble_eq_true rfl) rfl rfl (o_X6_drifts ⟨r8, er8, ?_⟩)
          show Ev E mi_X6_dayGoes 151 [(0, .ref (ad E 54)), (1, .int p1), (2, .int p2), (3, .int x3), (4, .int x4), (5, .int x5)] [] r8 Q
          exact o_X6_dayGoes_151 (fun _ _ _ _ h => ih h) h
      · replace h := wp_f c4 h
        exact o_X6_dayGoes_151 (fun _ _ _ _ h => ih h) h
noncomputable def f_X6_dayGoes_100 (p1 : Int32) (p2 : Int32) : Nat → Int32 → Int32 → Mem → Option Mem
  | 0, _, _, _ => none
  | n + 1, x3, x4, M => if p2 ≤ x4 then some M else f_X6_dayGoes_109 p1 p2 (f_X6_dayGoes_100 p1 p2 n) FU x3 x4 0 M
theorem o_X6_dayGoes_100 {E : GE} {Q : Option Value → Mem → Prop} {p1 : Int32} {p2 : Int32} : ∀ (n : Nat) {x3 : Int32} {x4 : Int32} {M : Mem}, wp (f_X6_dayGoes_100 p1 p2 n x3 x4 M) gVM Q → Ev E mi_X6_dayGoes 100 [(0, .ref (ad E 54)), (1, .int p1), (2, .int p2), (3, .int x3), (4, .int x4)] [] M Q := by
  intro n
  induction n with
  | zero => intro _ _ _ h; exact absurd h wp_none
  | succ n ih =>
    intro x3 x4 M h
    unfold f_X6_dayGoes_100 at h
    refine Ev.iload dX6_dayGoes_100 4 rfl ?_
    refine Ev.iload_n dX6_dayGoes_102 rfl 2 rfl ?_
    refine Ev.icmp_ge (tgt := 198) dX6_dayGoes_103 (by decide) (fun c1 => ?_) (fun c1 => ?_)
    · replace h := wp_t c1 h
      exact Ev.vret dX6_dayGoes_198 rfl (wp_ret h)
    · replace h := wp_f c1 h
      refine Ev.iconst (v := 0) dX6_dayGoes_106 rfl ?_
      refine Ev.istore dX6_dayGoes_107 (Nat.le_of_ble_eq_true rfl) rfl ?_
      show Ev E mi_X6_dayGoes 109 [(5, .int 0), (0, .ref (ad E 54)), (1, .int p1), (2, .int p2), (3, .int x3), (4, .int x4)] [] M Q
      refine Ev.sub [1, 2, 3, 4, 5, 0] rfl ?_
      exact o_X6_dayGoes_109 (fun _ _ _ h => ih h) FU h
noncomputable def f_X6_dayGoes_97 (p1 : Int32) (p2 : Int32) (x3 : Int32) (M : Mem) : Option Mem := f_X6_dayGoes_100 p1 p2 FU x3 0 M
theorem o_X6_dayGoes_97 {E : GE} {Q : Option Value → Mem → Prop} {p1 : Int32} {p2 : Int32} {x3 : Int32} {M : Mem} (h : wp (f_X6_dayGoes_97 p1 p2 x3 M) gVM Q) : Ev E mi_X6_dayGoes 97 [(0, .ref (ad E 54)), (1, .int p1), (2, .int p2), (3, .int x3)] [] M Q := by
  unfold f_X6_dayGoes_97 at h
  refine Ev.iconst (v := 0) dX6_dayGoes_97 rfl ?_
  refine Ev.istore dX6_dayGoes_98 (Nat.le_of_ble_eq_true rfl) rfl ?_
  show Ev E mi_X6_dayGoes 100 [(4, .int 0), (0, .ref (ad E 54)), (1, .int p1), (2, .int p2), (3, .int x3)] [] M Q
  refine Ev.sub [1, 2, 3, 4, 0] rfl ?_
  exact o_X6_dayGoes_100 FU h
noncomputable def f_X6_dayGoes_13 (p1 : Int32) (p2 : Int32) : Nat → Int32 → Int32 → Mem → Option Mem
  | 0, _, _, _ => none
  | n + 1, x3, x4, M => if x3 ≤ x4 then f_X6_dayGoes_97 p1 p2 x3 M else rd (M 55) 360 ((p1 + 4) + x4) fun r3 => inb x4 4 <| lm (up M 61 x4.toNatClampNeg r3) fun M5 => rd (M5 55) 360 ((p1 + 8) + x4) fun r7 => inb x4 4 <| lm (up M5 62 x4.toNatClampNeg r7) fun M9 => inb x4 4 <| lm (up M9 63 x4.toNatClampNeg 0) fun M11 => inb x4 4 <| lm (up M11 64 x4.toNatClampNeg (-4)) fun M13 => inb x4 4 <| lm (up M13 65 x4.toNatClampNeg (-4)) fun M15 => inb x4 4 <| lm (up M15 66 x4.toNatClampNeg (-4)) fun M17 => (f_X6_dayGoes_13 p1 p2 n) x3 (x4 + 1) M17
theorem o_X6_dayGoes_13 {E : GE} {Q : Option Value → Mem → Prop} {p1 : Int32} {p2 : Int32} : ∀ (n : Nat) {x3 : Int32} {x4 : Int32} {M : Mem}, wp (f_X6_dayGoes_13 p1 p2 n x3 x4 M) gVM Q → Ev E mi_X6_dayGoes 13 [(0, .ref (ad E 54)), (1, .int p1), (2, .int p2), (3, .int x3), (4, .int x4)] [] M Q := by
  intro n
  induction n with
  | zero => intro _ _ _ h; exact absurd h wp_none
  | succ n ih =>
    intro x3 x4 M h
    unfold f_X6_dayGoes_13 at h
    refine Ev.iload dX6_dayGoes_13 4 rfl ?_
    refine Ev.iload_n dX6_dayGoes_15 rfl 3 rfl ?_
    refine Ev.icmp_ge (tgt := 97) dX6_dayGoes_16 (by decide) (fun c1 => ?_) (fun c1 => ?_)
    · replace h := wp_t c1 h
      refine Ev.sub [0, 1, 2, 3] rfl ?_
      exact o_X6_dayGoes_97 h
    · replace h := wp_f c1 h
      refine Ev.aload_n dX6_dayGoes_19 rfl 0 rfl ?_
      refine Ev.get dX6_dayGoes_20 fl_X6_28 rfl (Nat.le_of_ble_eq_true rfl) (v := .ref (ad E 61)) rfl ?_
      refine Ev.iload dX6_dayGoes_23 4 rfl ?_
      refine Ev.aload_n dX6_dayGoes_25 rfl 0 rfl ?_
      refine Ev.get dX6_dayGoes_26 fl_X6_7 rfl (Nat.le_of_ble_eq_true rfl) (v := .ref (ad E 55)) rfl ?_
      refine Ev.iload_n dX6_dayGoes_29 rfl 1 rfl ?_
      refine Ev.iconst (v := 4) dX6_dayGoes_30 rfl ?_
      refine Ev.iadd dX6_dayGoes_31 ?_
      refine Ev.iload dX6_dayGoes_32 4 rfl ?_
      refine Ev.iadd dX6_dayGoes_34 ?_
      obtain ⟨g2, h⟩ := wp_rd h
      refine Ev.iald dX6_dayGoes_35 rfl (Nat.le_of_ble_eq_true rfl) rfl g2 ?_
      refine Ev.topi (fun r3 er3 => ?_)
      replace h := h r3 er3
      obtain ⟨g4, h⟩ := wp_inb h
      refine Ev.iast dX6_dayGoes_36 rfl (Nat.le_of_ble_eq_true rfl) rfl g4 ?_
      refine Ev.topM (fun M5 eM5 => ?_)
      replace h := wp_lm h M5 eM5
      refine Ev.aload_n dX6_dayGoes_37 rfl 0 rfl ?_
      refine Ev.get dX6_dayGoes_38 fl_X6_31 rfl (Nat.le_of_ble_eq_true rfl) (v := .ref (ad E 62)) rfl ?_
      refine Ev.iload dX6_dayGoes_41 4 rfl ?_
      refine Ev.aload_n dX6_dayGoes_43 rfl 0 rfl ?_
      refine Ev.get dX6_dayGoes_44 fl_X6_7 rfl (Nat.le_of_ble_eq_true rfl) (v := .ref (ad E 55)) rfl ?_
      refine Ev.iload_n dX6_dayGoes_47 rfl 1 rfl ?_
      refine Ev.bipush (v := 8) dX6_dayGoes_48 rfl ?_
      refine Ev.iadd dX6_dayGoes_50 ?_
      refine Ev.iload dX6_dayGoes_51 4 rfl ?_
      refine Ev.iadd dX6_dayGoes_53 ?_
      obtain ⟨g6, h⟩ := wp_rd h
      refine Ev.iald dX6_dayGoes_54 rfl (Nat.le_of_ble_eq_true rfl) rfl g6 ?_
      refine Ev.topi (fun r7 er7 => ?_)
      replace h := h r7 er7
      obtain ⟨g8, h⟩ := wp_inb h
      refine Ev.iast dX6_dayGoes_55 rfl (Nat.le_of_ble_eq_true rfl) rfl g8 ?_
      refine Ev.topM (fun M9 eM9 => ?_)
      replace h := wp_lm h M9 eM9
      refine Ev.aload_n dX6_dayGoes_56 rfl 0 rfl ?_
      refine Ev.get dX6_dayGoes_57 fl_X6_34 rfl (Nat.le_of_ble_eq_true rfl) (v := .ref (ad E 63)) rfl ?_
      refine Ev.iload dX6_dayGoes_60 4 rfl ?_
      refine Ev.iconst (v := 0) dX6_dayGoes_62 rfl ?_
      obtain ⟨g10, h⟩ := wp_inb h
      refine Ev.iast dX6_dayGoes_63 rfl (Nat.le_of_ble_eq_true rfl) rfl g10 ?_
      refine Ev.topM (fun M11 eM11 => ?_)
      replace h := wp_lm h M11 eM11
      refine Ev.aload_n dX6_dayGoes_64 rfl 0 rfl ?_
      refine Ev.get dX6_dayGoes_65 fl_X6_37 rfl (Nat.le_of_ble_eq_true rfl) (v := .ref (ad E 64)) rfl ?_
      refine Ev.iload dX6_dayGoes_68 4 rfl ?_
      refine Ev.bipush (v := (-4)) dX6_dayGoes_70 rfl ?_
      obtain ⟨g12, h⟩ := wp_inb h
      refine Ev.iast dX6_dayGoes_72 rfl (Nat.le_of_ble_eq_true rfl) rfl g12 ?_
      refine Ev.topM (fun M13 eM13 => ?_)
      replace h := wp_lm h M13 eM13
      refine Ev.aload_n dX6_dayGoes_73 rfl 0 rfl ?_
      refine Ev.get dX6_dayGoes_74 fl_X6_40 rfl (Nat.le_of_ble_eq_true rfl) (v := .ref (ad E 65)) rfl ?_
      refine Ev.iload dX6_dayGoes_77 4 rfl ?_
      refine Ev.bipush (v := (-4)) dX6_dayGoes_79 rfl ?_
      obtain ⟨g14, h⟩ := wp_inb h
      refine Ev.iast dX6_dayGoes_81 rfl (Nat.le_of_ble_eq_true rfl) rfl g14 ?_
      refine Ev.topM (fun M15 eM15 => ?_)
      replace h := wp_lm h M15 eM15
      refine Ev.aload_n dX6_dayGoes_82 rfl 0 rfl ?_
      refine Ev.get dX6_dayGoes_83 fl_X6_43 rfl (Nat.le_of_ble_eq_true rfl) (v := .ref (ad E 66)) rfl ?_
      refine Ev.iload dX6_dayGoes_86 4 rfl ?_
      refine Ev.bipush (v := (-4)) dX6_dayGoes_88 rfl ?_
      obtain ⟨g16, h⟩ := wp_inb h
      refine Ev.iast dX6_dayGoes_90 rfl (Nat.le_of_ble_eq_true rfl) rfl g16 ?_
      refine Ev.topM (fun M17 eM17 => ?_)
      replace h := wp_lm h M17 eM17
      refine Ev.iinc (v := x4 + 1) dX6_dayGoes_91 4 rfl rfl (Nat.le_of_ble_eq_true rfl) rfl ?_
      show Ev E mi_X6_dayGoes 94 [(4, .int (x4 + 1)), (0, .ref (ad E 54)), (1, .int p1), (2, .int p2), (3, .int x3)] [] M17 Q
      refine Ev.goto (tgt := 13) dX6_dayGoes_94 (by decide) ?_
      refine Ev.sub [1, 2, 3, 4, 0] rfl ?_
      exact ih h
noncomputable def f_X6_dayGoes (p1 : Int32) (p2 : Int32) (M : Mem) : Option Mem := rd (M 55) 360 (p1 + 20) fun r2 => f_X6_dayGoes_13 p1 p2 FU r2 0 M
theorem o_X6_dayGoes {E : GE} {Q : Option Value → Mem → Prop} {p1 : Int32} {p2 : Int32} {M : Mem} (h : wp (f_X6_dayGoes p1 p2 M) gVM Q) : Runs E mi_X6_dayGoes [.ref (ad E 54), .int p1, .int p2] M Q := by
  refine Runs.ofEv (by decide +kernel) (Nat.le_of_ble_eq_true rfl) ?_
  show Ev E mi_X6_dayGoes 0 [(0, .ref (ad E 54)), (1, .int p1), (2, .int p2)] [] M Q
  unfold f_X6_dayGoes at h
  refine Ev.aload_n dX6_dayGoes_0 rfl 0 rfl ?_
  refine Ev.get dX6_dayGoes_1 fl_X6_7 rfl (Nat.le_of_ble_eq_true rfl) (v := .ref (ad E 55)) rfl ?_
  refine Ev.iload_n dX6_dayGoes_4 rfl 1 rfl ?_
  refine Ev.bipush (v := 20) dX6_dayGoes_5 rfl ?_
  refine Ev.iadd dX6_dayGoes_7 ?_
  obtain ⟨g1, h⟩ := wp_rd h
  refine Ev.iald dX6_dayGoes_8 rfl (Nat.le_of_ble_eq_true rfl) rfl g1 ?_
  refine Ev.topi (fun r2 er2 => ?_)
  replace h := h r2 er2
  refine Ev.istore_n dX6_dayGoes_9 rfl (Nat.le_of_ble_eq_true rfl) rfl ?_
  show Ev E mi_X6_dayGoes 10 [(3, .int r2), (0, .ref (ad E 54)), (1, .int p1), (2, .int p2)] [] M Q
  refine Ev.iconst (v := 0) dX6_dayGoes_10 rfl ?_
  refine Ev.istore dX6_dayGoes_11 (Nat.le_of_ble_eq_true rfl) rfl ?_
  show Ev E mi_X6_dayGoes 13 [(4, .int 0), (3, .int r2), (0, .ref (ad E 54)), (1, .int p1), (2, .int p2)] [] M Q
  refine Ev.sub [2, 3, 4, 1, 0] rfl ?_
  exact o_X6_dayGoes_13 FU h
