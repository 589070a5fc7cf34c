noncomputable def f_X5_feed (p1 : Int32) (M : Mem) : Option (Int32 × Mem) := (f_X5_within p1 0 127 M).bind fun r1 => if r1 = 0 then some ((-1), M) else (f_X4_add p1 M).bind fun r3 => if r3.1 = 0 then some ((-3), r3.2) else some (r3.2 2 1, r3.2)
theorem o_X5_feed {E : GE} {Q : Option Value → Mem → Prop} {p1 : Int32} {M : Mem} (h : wp (f_X5_feed p1 M) gIM Q) : Runs E mi_X5_feed [.ref (ad E 0), .int p1] M Q := by
  refine Runs.ofEv (by decide +kernel) (Nat.le_of_ble_eq_true rfl) ?_
  show Ev E mi_X5_feed 0 [(0, .ref (ad E 0)), (1, .int p1)] [] M Q
  unfold f_X5_feed at h
  refine Ev.iload_n dX5_feed_0 rfl 1 rfl ?_
  refine Ev.iconst (v := 0) dX5_feed_1 rfl ?_
  refine Ev.bipush (v := 127) dX5_feed_2 rfl ?_
  obtain ⟨r1, er1, h⟩ := wp_bind h
  refine Ev.callS (as := [.int p1, .int 0, .int 127]) (rest := []) dX5_feed_4 cl_X5_75 mos_X5_within ⟨Nat.le_of_ble_eq_true rfl, Nat.le_of_ble_eq_true rfl⟩ (Nat.le_of_ble_eq_true rfl) rfl rfl (o_X5_within ⟨r1, er1, ?_⟩)
  show Ev E mi_X5_feed 7 [(0, .ref (ad E 0)), (1, .int p1)] [.int r1] M Q
  refine Ev.if_ne (tgt := 12) dX5_feed_7 (by decide) (fun c2 => ?_) (fun c2 => ?_)
  · replace h := wp_t c2 h
    refine Ev.iconst (v := (-1)) dX5_feed_10 rfl ?_
    exact Ev.ret dX5_feed_11 rfl rfl (wp_ret h)
  · replace h := wp_f c2 h
    refine Ev.aload_n dX5_feed_12 rfl 0 rfl ?_
    refine Ev.get dX5_feed_13 fl_X5_20 rfl (Nat.le_of_ble_eq_true rfl) (v := .ref (ad E 2)) rfl ?_
    refine Ev.iload_n dX5_feed_16 rfl 1 rfl ?_
    obtain ⟨r3, er3, h⟩ := wp_bind h
    refine Ev.callN (k := 2) (as := [.int p1]) (rest := []) dX5_feed_17 cn_X5_79 mok_X4_add rfl (Nat.le_of_ble_eq_true rfl) (Nat.le_of_ble_eq_true rfl) ⟨Nat.le_of_ble_eq_true rfl, Nat.le_of_ble_eq_true rfl⟩ (Nat.le_of_ble_eq_true rfl) rfl rfl (o_X4_add ⟨r3, er3, ?_⟩)
    show Ev E mi_X5_feed 20 [(0, .ref (ad E 0)), (1, .int p1)] [.int r3.1] r3.2 Q
    refine Ev.if_eq (tgt := 33) dX5_feed_20 (by decide) (fun c4 => ?_) (fun c4 => ?_)
    · replace h := wp_t c4 h
      refine Ev.bipush (v := (-3)) dX5_feed_33 rfl ?_
      exact Ev.ret dX5_feed_35 rfl rfl (wp_ret h)
    · replace h := wp_f c4 h
      refine Ev.aload_n dX5_feed_23 rfl 0 rfl ?_
      refine Ev.get dX5_feed_24 fl_X5_20 rfl (Nat.le_of_ble_eq_true rfl) (v := .ref (ad E 2)) rfl ?_
      refine Ev.getN dX5_feed_27 nl_X5_85 rfl (Nat.le_of_ble_eq_true rfl) rfl ?_
      refine Ev.goto (tgt := 35) dX5_feed_30 (by decide) ?_
      exact Ev.ret dX5_feed_35 rfl rfl (wp_ret h)

noncomputable def f_X5_end (p1 : Int32) (M : Mem) : Option (Int32 × Mem) := (f_X5_within p1 0 (M 2 1) M).bind fun r1 => if r1 = 0 then some ((-1), M) else li (M 2 1) fun y3 => lm (up M 2 1 p1) fun M4 => some (y3, M4)
theorem o_X5_end {E : GE} {Q : Option Value → Mem → Prop} {p1 : Int32} {M : Mem} (h : wp (f_X5_end p1 M) gIM Q) : Runs E mi_X5_end [.ref (ad E 0), .int p1] M Q := by
  refine Runs.ofEv (by decide +kernel) (Nat.le_of_ble_eq_true rfl) ?_
  show Ev E mi_X5_end 0 [(0, .ref (ad E 0)), (1, .int p1)] [] M Q
  unfold f_X5_end at h
  refine Ev.iload_n dX5_end_0 rfl 1 rfl ?_
  refine Ev.iconst (v := 0) dX5_end_1 rfl ?_
  refine Ev.aload_n dX5_end_2 rfl 0 rfl ?_
  refine Ev.get dX5_end_3 fl_X5_20 rfl (Nat.le_of_ble_eq_true rfl) (v := .ref (ad E 2)) rfl ?_
  refine Ev.getN dX5_end_6 nl_X5_85 rfl (Nat.le_of_ble_eq_true rfl) rfl ?_
  obtain ⟨r1, er1, h⟩ := wp_bind h
  refine Ev.callS (as := [.int p1, .int 0, .int (M 2 1)]) (rest := []) dX5_end_9 cl_X5_75 mos_X5_within ⟨Nat.le_of_ble_eq_true rfl, Nat.le_of_ble_eq_true rfl⟩ (Nat.le_of_ble_eq_true rfl) rfl rfl (o_X5_within ⟨r1, er1, ?_⟩)
  show Ev E mi_X5_end 12 [(0, .ref (ad E 0)), (1, .int p1)] [.int r1] M Q
  refine Ev.if_ne (tgt := 17) dX5_end_12 (by decide) (fun c2 => ?_) (fun c2 => ?_)
  · replace h := wp_t c2 h
    refine Ev.iconst (v := (-1)) dX5_end_15 rfl ?_
    exact Ev.ret dX5_end_16 rfl rfl (wp_ret h)
  · replace h := wp_f c2 h
    refine Ev.aload_n dX5_end_17 rfl 0 rfl ?_
    refine Ev.get dX5_end_18 fl_X5_20 rfl (Nat.le_of_ble_eq_true rfl) (v := .ref (ad E 2)) rfl ?_
    refine Ev.getN dX5_end_21 nl_X5_85 rfl (Nat.le_of_ble_eq_true rfl) rfl ?_
    refine Ev.topi (fun y3 ey3 => ?_)
    replace h := wp_li h y3 ey3
    refine Ev.istore_n dX5_end_24 rfl (Nat.le_of_ble_eq_true rfl) rfl ?_
    show Ev E mi_X5_end 25 [(2, .int y3), (0, .ref (ad E 0)), (1, .int p1)] [] M Q
    refine Ev.aload_n dX5_end_25 rfl 1 rfl ?_
    refine Ev.get dX5_end_26 fl_X5_20 rfl (Nat.le_of_ble_eq_true rfl) (v := .ref (ad E 2)) rfl ?_
    refine Ev.iload_n dX5_end_29 rfl 2 rfl ?_
    refine Ev.putN dX5_end_30 nl_X5_85 rfl (Nat.le_of_ble_eq_true rfl) rfl rfl pf_I rfl rfl ?_
    refine Ev.topM (fun M4 eM4 => ?_)
    replace h := wp_lm h M4 eM4
    refine Ev.iload_n dX5_end_33 rfl 0 rfl ?_
    exact Ev.ret dX5_end_34 rfl rfl (wp_ret h)

noncomputable def f_X5_text_58 : Nat → Int32 → Int32 → Mem → Option (Int32 × Mem)
  | 0, _, _, _ => none
  | n + 1, x1, x2, M => if 2 ≤ x2 then some (x1, M) else inb x2 2 <| lm (up M 30 x2.toNatClampNeg (vp_nar .boolean 0)) fun M3 => (f_X5_text_58 n) x1 (x2 + 1) M3
theorem o_X5_text_58 {E : GE} {Q : Option Value → Mem → Prop} : ∀ (n : Nat) {x1 : Int32} {x2 : Int32} {M : Mem}, wp (f_X5_text_58 n x1 x2 M) gIM Q → Ev E mi_X5_text 58 [(0, .ref (ad E 0)), (1, .int x1), (2, .int x2)] [] M Q := by
  intro n
  induction n with
  | zero => intro _ _ _ h; exact absurd h wp_none
  | succ n ih =>
    intro x1 x2 M h
    unfold f_X5_text_58 at h
    refine Ev.iload_n dX5_text_58 rfl 2 rfl ?_
    refine Ev.iconst (v := 2) dX5_text_59 rfl ?_
    refine Ev.icmp_ge (tgt := 76) dX5_text_60 (by decide) (fun c1 => ?_) (fun c1 => ?_)
    · replace h := wp_t c1 h
      refine Ev.iload_n dX5_text_76 rfl 1 rfl ?_
      exact Ev.ret dX5_text_77 rfl rfl (wp_ret h)
    · replace h := wp_f c1 h
      refine Ev.aload_n dX5_text_63 rfl 0 rfl ?_
      refine Ev.get dX5_text_64 fl_X5_35 rfl (Nat.le_of_ble_eq_true rfl) (v := .ref (ad E 30)) rfl ?_
      refine Ev.iload_n dX5_text_67 rfl 2 rfl ?_
      refine Ev.iconst (v := 0) dX5_text_68 rfl ?_
      obtain ⟨g2, h⟩ := wp_inb h
      refine Ev.zast dX5_text_69 rfl (Nat.le_of_ble_eq_true rfl) rfl g2 ?_
      refine Ev.topM (fun M3 eM3 => ?_)
      replace h := wp_lm h M3 eM3
      refine Ev.iinc (v := x2 + 1) dX5_text_70 2 rfl rfl (Nat.le_of_ble_eq_true rfl) rfl ?_
      show Ev E mi_X5_text 73 [(2, .int (x2 + 1)), (0, .ref (ad E 0)), (1, .int x1)] [] M3 Q
      refine Ev.goto (tgt := 58) dX5_text_73 (by decide) ?_
      refine Ev.sub [1, 2, 0] rfl ?_
      exact ih h
noncomputable def f_X5_text (M : Mem) : Option (Int32 × Mem) := (f_X1_readAll M).bind fun r1 => lm (up r1.2 2 1 0) fun M2 => if (M2 1 2) = 0 then (f_X2_become 9 4 M2).bind fun r4 => lm (up r4 0 15 0) fun M5 => f_X5_text_58 FU r1.1 0 M5 else some ((-10) - (M2 1 3), M2)
theorem o_X5_text {E : GE} {Q : Option Value → Mem → Prop} {M : Mem} (h : wp (f_X5_text M) gIM Q) : Runs E mi_X5_text [.ref (ad E 0)] M Q := by
  refine Runs.ofEv (by decide +kernel) (Nat.le_of_ble_eq_true rfl) ?_
  show Ev E mi_X5_text 0 [(0, .ref (ad E 0))] [] M Q
  unfold f_X5_text at h
  refine Ev.aload_n dX5_text_0 rfl 0 rfl ?_
  refine Ev.get dX5_text_1 fl_X5_10 rfl (Nat.le_of_ble_eq_true rfl) (v := .ref (ad E 1)) rfl ?_
  obtain ⟨r1, er1, h⟩ := wp_bind h
  refine Ev.callN (k := 1) (as := []) (rest := []) dX5_text_4 cn_X5_89 mok_X1_readAll rfl (Nat.le_of_ble_eq_true rfl) (Nat.le_of_ble_eq_true rfl) ⟨Nat.le_of_ble_eq_true rfl, Nat.le_of_ble_eq_true rfl⟩ (Nat.le_of_ble_eq_true rfl) rfl rfl (o_X1_readAll ⟨r1, er1, ?_⟩)
  show Ev E mi_X5_text 7 [(0, .ref (ad E 0))] [.int r1.1] r1.2 Q
  refine Ev.istore_n dX5_text_7 rfl (Nat.le_of_ble_eq_true rfl) rfl ?_
  show Ev E mi_X5_text 8 [(1, .int r1.1), (0, .ref (ad E 0))] [] r1.2 Q
  refine Ev.aload_n dX5_text_8 rfl 1 rfl ?_
  refine Ev.get dX5_text_9 fl_X5_20 rfl (Nat.le_of_ble_eq_true rfl) (v := .ref (ad E 2)) rfl ?_
  refine Ev.iconst (v := 0) dX5_text_12 rfl ?_
  refine Ev.putN dX5_text_13 nl_X5_85 rfl (Nat.le_of_ble_eq_true rfl) rfl rfl pf_I rfl rfl ?_
  refine Ev.topM (fun M2 eM2 => ?_)
  replace h := wp_lm h M2 eM2
  refine Ev.aload_n dX5_text_16 rfl 1 rfl ?_
  refine Ev.get dX5_text_17 fl_X5_10 rfl (Nat.le_of_ble_eq_true rfl) (v := .ref (ad E 1)) rfl ?_
  refine Ev.getN dX5_text_20 nl_X5_93 rfl (Nat.le_of_ble_eq_true rfl) rfl ?_
  refine Ev.if_eq (tgt := 37) dX5_text_23 (by decide) (fun c3 => ?_) (fun c3 => ?_)
  · replace h := wp_t c3 h
    refine Ev.aload_n dX5_text_37 rfl 1 rfl ?_
    refine Ev.get dX5_text_38 fl_X5_24 rfl (Nat.le_of_ble_eq_true rfl) (v := .ref (ad E 9)) rfl ?_
    refine Ev.aload_n dX5_text_41 rfl 1 rfl ?_
    refine Ev.get dX5_text_42 fl_X5_10 rfl (Nat.le_of_ble_eq_true rfl) (v := .ref (ad E 1)) rfl ?_
    refine Ev.getN dX5_text_45 nl_X5_99 rfl (Nat.le_of_ble_eq_true rfl) (v := .ref (ad E 4)) rfl ?_
    obtain ⟨r4, er4, h⟩ := wp_bind h
    refine Ev.callN (k := 9) (as := [.ref (ad E 4)]) (rest := []) dX5_text_48 cn_X5_102 mok_X2_become rfl (Nat.le_of_ble_eq_true rfl) (Nat.le_of_ble_eq_true rfl) ⟨Nat.le_of_ble_eq_true rfl, Nat.le_of_ble_eq_true rfl⟩ (Nat.le_of_ble_eq_true rfl) rfl rfl (o_X2_become sea_9 sea_4 ⟨r4, er4, ?_⟩)
    show Ev E mi_X5_text 51 [(1, .int r1.1), (0, .ref (ad E 0))] [] r4 Q
    refine Ev.aload_n dX5_text_51 rfl 1 rfl ?_
    refine Ev.iconst (v := 0) dX5_text_52 rfl ?_
    refine Ev.putA dX5_text_53 fl_X5_106 rfl (Nat.le_of_ble_eq_true rfl) rfl rfl pf_I rfl rfl ?_
    refine Ev.topM (fun M5 eM5 => ?_)
    replace h := wp_lm h M5 eM5
    refine Ev.iconst (v := 0) dX5_text_56 rfl ?_
    refine Ev.istore_n dX5_text_57 rfl (Nat.le_of_ble_eq_true rfl) rfl ?_
    show Ev E mi_X5_text 58 [(2, .int 0), (1, .int r1.1), (0, .ref (ad E 0))] [] M5 Q
    refine Ev.sub [2, 1, 0] rfl ?_
    exact o_X5_text_58 FU h
  · replace h := wp_f c3 h
    refine Ev.bipush (v := (-10)) dX5_text_26 rfl ?_
    refine Ev.aload_n dX5_text_28 rfl 1 rfl ?_
    refine Ev.get dX5_text_29 fl_X5_10 rfl (Nat.le_of_ble_eq_true rfl) (v := .ref (ad E 1)) rfl ?_
    refine Ev.getN dX5_text_32 nl_X5_96 rfl (Nat.le_of_ble_eq_true rfl) rfl ?_
    refine Ev.isub dX5_text_35 ?_
    exact Ev.ret dX5_text_36 rfl rfl (wp_ret h)

noncomputable def f_X5_fault (M : Mem) : Option Int32 := some (M 1 2)
theorem o_X5_fault {E : GE} {Q : Option Value → Mem → Prop} {M : Mem} (h : wp (f_X5_fault M) (gI M) Q) : Runs E mi_X5_fault [.ref (ad E 0)] M Q := by
  refine Runs.ofEv (by decide +kernel) (Nat.le_of_ble_eq_true rfl) ?_
  show Ev E mi_X5_fault 0 [(0, .ref (ad E 0))] [] M Q
  unfold f_X5_fault at h
  refine Ev.aload_n dX5_fault_0 rfl 0 rfl ?_
  refine Ev.get dX5_fault_1 fl_X5_10 rfl (Nat.le_of_ble_eq_true rfl) (v := .ref (ad E 1)) rfl ?_
  refine Ev.getN dX5_fault_4 nl_X5_93 rfl (Nat.le_of_ble_eq_true rfl) rfl ?_
  exact Ev.ret dX5_fault_7 rfl rfl (wp_ret h)

noncomputable def f_X5_listWindyHours_35 (t4 : Int32 → Int32 → Mem → Option (Int32 × Mem)) (x1 : Int32) (x2 : Int32) (M : Mem) : Option (Int32 × Mem) := t4 x1 (x2 + 1) M
theorem o_X5_listWindyHours_35 {E : GE} {Q : Option Value → Mem → Prop} {t4 : Int32 → Int32 → Mem → Option (Int32 × Mem)} {x1 : Int32} {x2 : Int32} {M : Mem} (ht4 : ∀ (x1 : Int32) (x2 : Int32) (M : Mem), wp (t4 x1 x2 M) gIM Q → Ev E mi_X5_listWindyHours 4 [(0, .ref (ad E 0)), (1, .int x1), (2, .int x2)] [] M Q) (h : wp (f_X5_listWindyHours_35 t4 x1 x2 M) gIM Q) : Ev E mi_X5_listWindyHours 35 [(0, .ref (ad E 0)), (1, .int x1), (2, .int x2)] [] M Q := by
  unfold f_X5_listWindyHours_35 at h
  refine Ev.iinc (v := x2 + 1) dX5_listWindyHours_35 2 rfl rfl (Nat.le_of_ble_eq_true rfl) rfl ?_
  show Ev E mi_X5_listWindyHours 38 [(2, .int (x2 + 1)), (0, .ref (ad E 0)), (1, .int x1)] [] M Q
  refine Ev.goto (tgt := 4) dX5_listWindyHours_38 (by decide) ?_
  refine Ev.sub [1, 2, 0] rfl ?_
  exact ht4 _ _ _ h
noncomputable def f_X5_listWindyHours_4 : Nat → Int32 → Int32 → Mem → Option (Int32 × Mem)
  | 0, _, _, _ => none
  | n + 1, x1, x2, M => if 24 ≤ x2 then some (x1, M) else rd (M 13) 24 x2 fun r3 => if r3 = 0 then f_X5_listWindyHours_35 (f_X5_listWindyHours_4 n) x1 x2 M else inb x1 24 <| lm (up M 50 x1.toNatClampNeg x2) fun M6 => f_X5_listWindyHours_35 (f_X5_listWindyHours_4 n) (x1 + 1) x2 M6
theorem o_X5_listWindyHours_4 {E : GE} {Q : Option Value → Mem → Prop} : ∀ (n : Nat) {x1 : Int32} {x2 : Int32} {M : Mem}, wp (f_X5_listWindyHours_4 n x1 x2 M) gIM Q → Ev E mi_X5_listWindyHours 4 [(0, .ref (ad E 0)), (1, .int x1), (2, .int x2)] [] M Q := by
  intro n
  induction n with
  | zero => intro _ _ _ h; exact absurd h wp_none
  | succ n ih =>
    intro x1 x2 M h
    unfold f_X5_listWindyHours_4 at h
    refine Ev.iload_n dX5_listWindyHours_4 rfl 2 rfl ?_
    refine Ev.bipush (v := 24) dX5_listWindyHours_5 rfl ?_
    refine Ev.icmp_ge (tgt := 41) dX5_listWindyHours_7 (by decide) (fun c1 => ?_) (fun c1 => ?_)
    · replace h := wp_t c1 h
      refine Ev.iload_n dX5_listWindyHours_41 rfl 1 rfl ?_
      exact Ev.ret dX5_listWindyHours_42 rfl rfl (wp_ret h)
    · replace h := wp_f c1 h
      refine Ev.aload_n dX5_listWindyHours_10 rfl 0 rfl ?_
      refine Ev.get dX5_listWindyHours_11 fl_X5_24 rfl (Nat.le_of_ble_eq_true rfl) (v := .ref (ad E 9)) rfl ?_
      refine Ev.getN dX5_listWindyHours_14 nl_X5_143 rfl (Nat.le_of_ble_eq_true rfl) (v := .ref (ad E 13)) rfl ?_
      refine Ev.iload_n dX5_listWindyHours_17 rfl 2 rfl ?_
      obtain ⟨g2, h⟩ := wp_rd h
      refine Ev.iald dX5_listWindyHours_18 rfl (Nat.le_of_ble_eq_true rfl) rfl g2 ?_
      refine Ev.topi (fun r3 er3 => ?_)
      replace h := h r3 er3
      refine Ev.if_ne (tgt := 25) dX5_listWindyHours_19 (by decide) (fun c4 => ?_) (fun c4 => ?_)
      · replace h := wp_t c4 h
        refine Ev.goto (tgt := 35) dX5_listWindyHours_22 (by decide) ?_
        exact o_X5_listWindyHours_35 (fun _ _ _ h => ih h) h
      · replace h := wp_f c4 h
        refine Ev.aload_n dX5_listWindyHours_25 rfl 0 rfl ?_
        refine Ev.get dX5_listWindyHours_26 fl_X5_63 rfl (Nat.le_of_ble_eq_true rfl) (v := .ref (ad E 50)) rfl ?_
        refine Ev.iload_n dX5_listWindyHours_29 rfl 1 rfl ?_
        refine Ev.iload_n dX5_listWindyHours_30 rfl 2 rfl ?_
        obtain ⟨g5, h⟩ := wp_inb h
        refine Ev.iast dX5_listWindyHours_31 rfl (Nat.le_of_ble_eq_true rfl) rfl g5 ?_
        refine Ev.topM (fun M6 eM6 => ?_)
        replace h := wp_lm h M6 eM6
        refine Ev.iinc (v := x1 + 1) dX5_listWindyHours_32 1 rfl rfl (Nat.le_of_ble_eq_true rfl) rfl ?_
        show Ev E mi_X5_listWindyHours 35 [(1, .int (x1 + 1)), (0, .ref (ad E 0)), (2, .int x2)] [] M6 Q
        refine Ev.sub [1, 0, 2] rfl ?_
        exact o_X5_listWindyHours_35 (fun _ _ _ h => ih h) h
noncomputable def f_X5_listWindyHours (M : Mem) : Option (Int32 × Mem) := f_X5_listWindyHours_4 FU 0 0 M
theorem o_X5_listWindyHours {E : GE} {Q : Option Value → Mem → Prop} {M : Mem} (h : wp (f_X5_listWindyHours M) gIM Q) : Runs E mi_X5_listWindyHours [.ref (ad E 0)] M Q := by
  refine Runs.ofEv (by decide +kernel) (Nat.le_of_ble_eq_true rfl) ?_
  show Ev E mi_X5_listWindyHours 0 [(0, .ref (ad E 0))] [] M Q
  unfold f_X5_listWindyHours at h
  refine Ev.iconst (v := 0) dX5_listWindyHours_0 rfl ?_
  refine Ev.istore_n dX5_listWindyHours_1 rfl (Nat.le_of_ble_eq_true rfl) rfl ?_
  show Ev E mi_X5_listWindyHours 2 [(1, .int 0), (0, .ref (ad E 0))] [] M Q
  refine Ev.iconst (v := 0) dX5_listWindyHours_2 rfl ?_
  refine Ev.istore_n dX5_listWindyHours_3 rfl (Nat.le_of_ble_eq_true rfl) rfl ?_
  show Ev E mi_X5_listWindyHours 4 [(2, .int 0), (1, .int 0), (0, .ref (ad E 0))] [] M Q
  refine Ev.sub [2, 1, 0] rfl ?_
  exact o_X5_listWindyHours_4 FU h

noncomputable def f_X5_rule (p1 : Int32) (M : Mem) : Option (Int32 × Mem) := if p1 = 0 then some (M 9 4, M) else if p1 = 1 then some (M 9 5, M) else if p1 = 2 then some (M 9 6, M) else if p1 = 3 then (f_X2_estates 9 M).bind fun r5 => some (r5, M) else if p1 = 4 then (f_X5_listWindyHours M).bind fun r7 => some (r7.1, r7.2) else some ((-1), M)
theorem o_X5_rule {E : GE} {Q : Option Value → Mem → Prop} {p1 : Int32} {M : Mem} (h : wp (f_X5_rule p1 M) gIM Q) : Runs E mi_X5_rule [.ref (ad E 0), .int p1] M Q := by
  refine Runs.ofEv (by decide +kernel) (Nat.le_of_ble_eq_true rfl) ?_
  show Ev E mi_X5_rule 0 [(0, .ref (ad E 0)), (1, .int p1)] [] M Q
  unfold f_X5_rule at h
  refine Ev.iload_n dX5_rule_0 rfl 1 rfl ?_
  by_cases c1 : p1 = 0
  · replace h := wp_t c1 h
    refine Ev.tsIn (tgt := 36) dX5_rule_1 c1 (by decide) (by decide) rfl (by decide) ?_
    refine Ev.aload_n dX5_rule_36 rfl 0 rfl ?_
    refine Ev.get dX5_rule_37 fl_X5_24 rfl (Nat.le_of_ble_eq_true rfl) (v := .ref (ad E 9)) rfl ?_
    refine Ev.getN dX5_rule_40 nl_X5_109 rfl (Nat.le_of_ble_eq_true rfl) rfl ?_
    exact Ev.ret dX5_rule_43 rfl rfl (wp_ret h)
  · replace h := wp_f c1 h
    by_cases c2 : p1 = 1
    · replace h := wp_t c2 h
      refine Ev.tsIn (tgt := 44) dX5_rule_1 c2 (by decide) (by decide) rfl (by decide) ?_
      refine Ev.aload_n dX5_rule_44 rfl 0 rfl ?_
      refine Ev.get dX5_rule_45 fl_X5_24 rfl (Nat.le_of_ble_eq_true rfl) (v := .ref (ad E 9)) rfl ?_
      refine Ev.getN dX5_rule_48 nl_X5_112 rfl (Nat.le_of_ble_eq_true rfl) rfl ?_
      exact Ev.ret dX5_rule_51 rfl rfl (wp_ret h)
    · replace h := wp_f c2 h
      by_cases c3 : p1 = 2
      · replace h := wp_t c3 h
        refine Ev.tsIn (tgt := 52) dX5_rule_1 c3 (by decide) (by decide) rfl (by decide) ?_
        refine Ev.aload_n dX5_rule_52 rfl 0 rfl ?_
        refine Ev.get dX5_rule_53 fl_X5_24 rfl (Nat.le_of_ble_eq_true rfl) (v := .ref (ad E 9)) rfl ?_
        refine Ev.getN dX5_rule_56 nl_X5_115 rfl (Nat.le_of_ble_eq_true rfl) rfl ?_
        exact Ev.ret dX5_rule_59 rfl rfl (wp_ret h)
      · replace h := wp_f c3 h
        by_cases c4 : p1 = 3
        · replace h := wp_t c4 h
          refine Ev.tsIn (tgt := 60) dX5_rule_1 c4 (by decide) (by decide) rfl (by decide) ?_
          refine Ev.aload_n dX5_rule_60 rfl 0 rfl ?_
          refine Ev.get dX5_rule_61 fl_X5_24 rfl (Nat.le_of_ble_eq_true rfl) (v := .ref (ad E 9)) rfl ?_
          obtain ⟨r5, er5, h⟩ := wp_bind h
          refine Ev.callN (k := 9) (as := []) (rest := []) dX5_rule_64 cn_X5_118 mok_X2_estates rfl (Nat.le_of_ble_eq_true rfl) (Nat.le_of_ble_eq_true rfl) ⟨Nat.le_of_ble_eq_true rfl, Nat.le_of_ble_eq_true rfl⟩ (Nat.le_of_ble_eq_true rfl) rfl rfl (o_X2_estates sea_9 ⟨r5, er5, ?_⟩)
          show Ev E mi_X5_rule 67 [(0, .ref (ad E 0)), (1, .int p1)] [.int r5] M Q
          exact Ev.ret dX5_rule_67 rfl rfl (wp_ret h)
        · replace h := wp_f c4 h
          by_cases c6 : p1 = 4
          · replace h := wp_t c6 h
            refine Ev.tsIn (tgt := 68) dX5_rule_1 c6 (by decide) (by decide) rfl (by decide) ?_
            refine Ev.aload_n dX5_rule_68 rfl 0 rfl ?_
            obtain ⟨r7, er7, h⟩ := wp_bind h
            refine Ev.callV (k := 0) (as := []) (rest := []) dX5_rule_69 cl_X5_121 mok_X5_listWindyHours rfl (Nat.le_of_ble_eq_true rfl) (Nat.le_of_ble_eq_true rfl) ⟨Nat.le_of_ble_eq_true rfl, Nat.le_of_ble_eq_true rfl⟩ (Nat.le_of_ble_eq_true rfl) rfl rfl (o_X5_listWindyHours ⟨r7, er7, ?_⟩)
            show Ev E mi_X5_rule 72 [(0, .ref (ad E 0)), (1, .int p1)] [.int r7.1] r7.2 Q
            exact Ev.ret dX5_rule_72 rfl rfl (wp_ret h)
          · replace h := wp_f c6 h
            refine Ev.tsOut (tgt := 73) dX5_rule_1 (by have qc1 : ¬ (p1).toInt = 0 := fun q => c1 (Int32.toInt_inj.mp q); have qc2 : ¬ (p1).toInt = 1 := fun q => c2 (Int32.toInt_inj.mp q); have qc3 : ¬ (p1).toInt = 2 := fun q => c3 (Int32.toInt_inj.mp q); have qc4 : ¬ (p1).toInt = 3 := fun q => c4 (Int32.toInt_inj.mp q); have qc6 : ¬ (p1).toInt = 4 := fun q => c6 (Int32.toInt_inj.mp q); omega) (by decide) ?_
            refine Ev.iconst (v := (-1)) dX5_rule_73 rfl ?_
            exact Ev.ret dX5_rule_74 rfl rfl (wp_ret h)

noncomputable def f_X5_tub (p1 : Int32) (p2 : Int32) (M : Mem) : Option Int32 := (f_X2_isTub 9 p1 M).bind fun r1 => if r1 = 0 then some (-1) else (f_X5_within p2 0 5 M).bind fun r3 => if r3 = 0 then some (-1) else if p2 = 5 then (f_X2_ofTub 9 p1 0 M).bind fun r6 => rd (tbV 3) 4 r6 fun r8 => some r8 else (f_X2_ofTub 9 p1 p2 M).bind fun r9 => some r9
theorem o_X5_tub {E : GE} {Q : Option Value → Mem → Prop} {p1 : Int32} {p2 : Int32} {M : Mem} (h : wp (f_X5_tub p1 p2 M) (gI M) Q) : Runs E mi_X5_tub [.ref (ad E 0), .int p1, .int p2] M Q := by
  refine Runs.ofEv (by decide +kernel) (Nat.le_of_ble_eq_true rfl) ?_
  show Ev E mi_X5_tub 0 [(0, .ref (ad E 0)), (1, .int p1), (2, .int p2)] [] M Q
  unfold f_X5_tub at h
  refine Ev.aload_n dX5_tub_0 rfl 0 rfl ?_
  refine Ev.get dX5_tub_1 fl_X5_24 rfl (Nat.le_of_ble_eq_true rfl) (v := .ref (ad E 9)) rfl ?_
  refine Ev.iload_n dX5_tub_4 rfl 1 rfl ?_
  obtain ⟨r1, er1, h⟩ := wp_bind h
  refine Ev.callN (k := 9) (as := [.int p1]) (rest := []) dX5_tub_5 cn_X5_124 mok_X2_isTub rfl (Nat.le_of_ble_eq_true rfl) (Nat.le_of_ble_eq_true rfl) ⟨Nat.le_of_ble_eq_true rfl, Nat.le_of_ble_eq_true rfl⟩ (Nat.le_of_ble_eq_true rfl) rfl rfl (o_X2_isTub sea_9 ⟨r1, er1, ?_⟩)
  show Ev E mi_X5_tub 8 [(0, .ref (ad E 0)), (1, .int p1), (2, .int p2)] [.int r1] M Q
  refine Ev.if_eq (tgt := 20) dX5_tub_8 (by decide) (fun c2 => ?_) (fun c2 => ?_)
  · replace h := wp_t c2 h
    refine Ev.iconst (v := (-1)) dX5_tub_20 rfl ?_
    exact Ev.ret dX5_tub_21 rfl rfl (wp_ret h)
  · replace h := wp_f c2 h
    refine Ev.iload_n dX5_tub_11 rfl 2 rfl ?_
    refine Ev.iconst (v := 0) dX5_tub_12 rfl ?_
    refine Ev.iconst (v := 5) dX5_tub_13 rfl ?_
    obtain ⟨r3, er3, h⟩ := wp_bind h
    refine Ev.callS (as := [.int p2, .int 0, .int 5]) (rest := []) dX5_tub_14 cl_X5_75 mos_X5_within ⟨Nat.le_of_ble_eq_true rfl, Nat.le_of_ble_eq_true rfl⟩ (Nat.le_of_ble_eq_true rfl) rfl rfl (o_X5_within ⟨r3, er3, ?_⟩)
    show Ev E mi_X5_tub 17 [(0, .ref (ad E 0)), (1, .int p1), (2, .int p2)] [.int r3] M Q
    refine Ev.if_ne (tgt := 22) dX5_tub_17 (by decide) (fun c4 => ?_) (fun c4 => ?_)
    · replace h := wp_t c4 h
      refine Ev.iconst (v := (-1)) dX5_tub_20 rfl ?_
      exact Ev.ret dX5_tub_21 rfl rfl (wp_ret h)
    · replace h := wp_f c4 h
      refine Ev.iload_n dX5_tub_22 rfl 2 rfl ?_
      refine Ev.iconst (v := 5) dX5_tub_23 rfl ?_
      refine Ev.icmp_ne (tgt := 43) dX5_tub_24 (by decide) (fun c5 => ?_) (fun c5 => ?_)
      · replace h := wp_t c5 h
        refine Ev.getT dX5_tub_27 sl_X5_127 ?_
        refine Ev.aload_n dX5_tub_30 rfl 0 rfl ?_
        refine Ev.get dX5_tub_31 fl_X5_24 rfl (Nat.le_of_ble_eq_true rfl) (v := .ref (ad E 9)) rfl ?_
        refine Ev.iload_n dX5_tub_34 rfl 1 rfl ?_
        refine Ev.iconst (v := 0) dX5_tub_35 rfl ?_
        obtain ⟨r6, er6, h⟩ := wp_bind h
        refine Ev.callN (k := 9) (as := [.int p1, .int 0]) (rest := [.ref (sT E 3)]) dX5_tub_36 cn_X5_130 mok_X2_ofTub rfl (Nat.le_of_ble_eq_true rfl) (Nat.le_of_ble_eq_true rfl) ⟨Nat.le_of_ble_eq_true rfl, Nat.le_of_ble_eq_true rfl⟩ (Nat.le_of_ble_eq_true rfl) rfl rfl (o_X2_ofTub sea_9 ⟨r6, er6, ?_⟩)
        show Ev E mi_X5_tub 39 [(0, .ref (ad E 0)), (1, .int p1), (2, .int p2)] [.int r6, .ref (sT E 3)] M Q
        obtain ⟨g7, h⟩ := wp_rd h
        refine Ev.tald dX5_tub_39 (Nat.le_of_ble_eq_true rfl) rfl g7 ?_
        refine Ev.topi (fun r8 er8 => ?_)
        replace h := h r8 er8
        refine Ev.goto (tgt := 52) dX5_tub_40 (by decide) ?_
        exact Ev.ret dX5_tub_52 rfl rfl (wp_ret h)
      · replace h := wp_f c5 h
        refine Ev.aload_n dX5_tub_43 rfl 0 rfl ?_
        refine Ev.get dX5_tub_44 fl_X5_24 rfl (Nat.le_of_ble_eq_true rfl) (v := .ref (ad E 9)) rfl ?_
        refine Ev.iload_n dX5_tub_47 rfl 1 rfl ?_
        refine Ev.iload_n dX5_tub_48 rfl 2 rfl ?_
        obtain ⟨r9, er9, h⟩ := wp_bind h
        refine Ev.callN (k := 9) (as := [.int p1, .int p2]) (rest := []) dX5_tub_49 cn_X5_130 mok_X2_ofTub rfl (Nat.le_of_ble_eq_true rfl) (Nat.le_of_ble_eq_true rfl) ⟨Nat.le_of_ble_eq_true rfl, Nat.le_of_ble_eq_true rfl⟩ (Nat.le_of_ble_eq_true rfl) rfl rfl (o_X2_ofTub sea_9 ⟨r9, er9, ?_⟩)
        show Ev E mi_X5_tub 52 [(0, .ref (ad E 0)), (1, .int p1), (2, .int p2)] [.int r9] M Q
        exact Ev.ret dX5_tub_52 rfl rfl (wp_ret h)

noncomputable def f_X5_heir (p1 : Int32) (p2 : Int32) (M : Mem) : Option Int32 := (f_X2_isHeir 9 p1 M).bind fun r1 => if r1 = 0 then some (-1) else (f_X5_within p2 0 3 M).bind fun r3 => if r3 = 0 then some (-1) else (f_X2_ofHeir 9 p1 p2 M).bind fun r5 => some r5
theorem o_X5_heir {E : GE} {Q : Option Value → Mem → Prop} {p1 : Int32} {p2 : Int32} {M : Mem} (h : wp (f_X5_heir p1 p2 M) (gI M) Q) : Runs E mi_X5_heir [.ref (ad E 0), .int p1, .int p2] M Q := by
  refine Runs.ofEv (by decide +kernel) (Nat.le_of_ble_eq_true rfl) ?_
  show Ev E mi_X5_heir 0 [(0, .ref (ad E 0)), (1, .int p1), (2, .int p2)] [] M Q
  unfold f_X5_heir at h
  refine Ev.aload_n dX5_heir_0 rfl 0 rfl ?_
  refine Ev.get dX5_heir_1 fl_X5_24 rfl (Nat.le_of_ble_eq_true rfl) (v := .ref (ad E 9)) rfl ?_
  refine Ev.iload_n dX5_heir_4 rfl 1 rfl ?_
  obtain ⟨r1, er1, h⟩ := wp_bind h
  refine Ev.callN (k := 9) (as := [.int p1]) (rest := []) dX5_heir_5 cn_X5_134 mok_X2_isHeir rfl (Nat.le_of_ble_eq_true rfl) (Nat.le_of_ble_eq_true rfl) ⟨Nat.le_of_ble_eq_true rfl, Nat.le_of_ble_eq_true rfl⟩ (Nat.le_of_ble_eq_true rfl) rfl rfl (o_X2_isHeir sea_9 ⟨r1, er1, ?_⟩)
  show Ev E mi_X5_heir 8 [(0, .ref (ad E 0)), (1, .int p1), (2, .int p2)] [.int r1] M Q
  refine Ev.if_eq (tgt := 20) dX5_heir_8 (by decide) (fun c2 => ?_) (fun c2 => ?_)
  · replace h := wp_t c2 h
    refine Ev.iconst (v := (-1)) dX5_heir_20 rfl ?_
    exact Ev.ret dX5_heir_21 rfl rfl (wp_ret h)
  · replace h := wp_f c2 h
    refine Ev.iload_n dX5_heir_11 rfl 2 rfl ?_
    refine Ev.iconst (v := 0) dX5_heir_12 rfl ?_
    refine Ev.iconst (v := 3) dX5_heir_13 rfl ?_
    obtain ⟨r3, er3, h⟩ := wp_bind h
    refine Ev.callS (as := [.int p2, .int 0, .int 3]) (rest := []) dX5_heir_14 cl_X5_75 mos_X5_within ⟨Nat.le_of_ble_eq_true rfl, Nat.le_of_ble_eq_true rfl⟩ (Nat.le_of_ble_eq_true rfl) rfl rfl (o_X5_within ⟨r3, er3, ?_⟩)
    show Ev E mi_X5_heir 17 [(0, .ref (ad E 0)), (1, .int p1), (2, .int p2)] [.int r3] M Q
    refine Ev.if_ne (tgt := 22) dX5_heir_17 (by decide) (fun c4 => ?_) (fun c4 => ?_)
    · replace h := wp_t c4 h
      refine Ev.iconst (v := (-1)) dX5_heir_20 rfl ?_
      exact Ev.ret dX5_heir_21 rfl rfl (wp_ret h)
    · replace h := wp_f c4 h
      refine Ev.aload_n dX5_heir_22 rfl 0 rfl ?_
      refine Ev.get dX5_heir_23 fl_X5_24 rfl (Nat.le_of_ble_eq_true rfl) (v := .ref (ad E 9)) rfl ?_
      refine Ev.iload_n dX5_heir_26 rfl 1 rfl ?_
      refine Ev.iload_n dX5_heir_27 rfl 2 rfl ?_
      obtain ⟨r5, er5, h⟩ := wp_bind h
      refine Ev.callN (k := 9) (as := [.int p1, .int p2]) (rest := []) dX5_heir_28 cn_X5_137 mok_X2_ofHeir rfl (Nat.le_of_ble_eq_true rfl) (Nat.le_of_ble_eq_true rfl) ⟨Nat.le_of_ble_eq_true rfl, Nat.le_of_ble_eq_true rfl⟩ (Nat.le_of_ble_eq_true rfl) rfl rfl (o_X2_ofHeir sea_9 ⟨r5, er5, ?_⟩)
      show Ev E mi_X5_heir 31 [(0, .ref (ad E 0)), (1, .int p1), (2, .int p2)] [.int r5] M Q
      exact Ev.ret dX5_heir_31 rfl rfl (wp_ret h)

noncomputable def f_X5_current (p1 : Int32) (M : Mem) : Option Int32 := (f_X5_within p1 0 9 M).bind fun r1 => if r1 = 0 then some (-1) else rd (M 12) 10 p1 fun r4 => some r4
theorem o_X5_current {E : GE} {Q : Option Value → Mem → Prop} {p1 : Int32} {M : Mem} (h : wp (f_X5_current p1 M) (gI M) Q) : Runs E mi_X5_current [.ref (ad E 0), .int p1] M Q := by
  refine Runs.ofEv (by decide +kernel) (Nat.le_of_ble_eq_true rfl) ?_
  show Ev E mi_X5_current 0 [(0, .ref (ad E 0)), (1, .int p1)] [] M Q
  unfold f_X5_current at h
  refine Ev.iload_n dX5_current_0 rfl 1 rfl ?_
  refine Ev.iconst (v := 0) dX5_current_1 rfl ?_
  refine Ev.bipush (v := 9) dX5_current_2 rfl ?_
  obtain ⟨r1, er1, h⟩ := wp_bind h
  refine Ev.callS (as := [.int p1, .int 0, .int 9]) (rest := []) dX5_current_4 cl_X5_75 mos_X5_within ⟨Nat.le_of_ble_eq_true rfl, Nat.le_of_ble_eq_true rfl⟩ (Nat.le_of_ble_eq_true rfl) rfl rfl (o_X5_within ⟨r1, er1, ?_⟩)
  show Ev E mi_X5_current 7 [(0, .ref (ad E 0)), (1, .int p1)] [.int r1] M Q
  refine Ev.if_eq (tgt := 22) dX5_current_7 (by decide) (fun c2 => ?_) (fun c2 => ?_)
  · replace h := wp_t c2 h
    refine Ev.iconst (v := (-1)) dX5_current_22 rfl ?_
    exact Ev.ret dX5_current_23 rfl rfl (wp_ret h)
  · replace h := wp_f c2 h
    refine Ev.aload_n dX5_current_10 rfl 0 rfl ?_
    refine Ev.get dX5_current_11 fl_X5_24 rfl (Nat.le_of_ble_eq_true rfl) (v := .ref (ad E 9)) rfl ?_
    refine Ev.getN dX5_current_14 nl_X5_140 rfl (Nat.le_of_ble_eq_true rfl) (v := .ref (ad E 12)) rfl ?_
    refine Ev.iload_n dX5_current_17 rfl 1 rfl ?_
    obtain ⟨g3, h⟩ := wp_rd h
    refine Ev.iald dX5_current_18 rfl (Nat.le_of_ble_eq_true rfl) rfl g3 ?_
    refine Ev.topi (fun r4 er4 => ?_)
    replace h := h r4 er4
    refine Ev.goto (tgt := 23) dX5_current_19 (by decide) ?_
    exact Ev.ret dX5_current_23 rfl rfl (wp_ret h)

noncomputable def f_X5_wind (p1 : Int32) (M : Mem) : Option Int32 := (f_X5_within p1 0 23 M).bind fun r1 => if r1 = 0 then some (-1) else rd (M 13) 24 p1 fun r4 => some r4
theorem o_X5_wind {E : GE} {Q : Option Value → Mem → Prop} {p1 : Int32} {M : Mem} (h : wp (f_X5_wind p1 M) (gI M) Q) : Runs E mi_X5_wind [.ref (ad E 0), .int p1] M Q := by
  refine Runs.ofEv (by decide +kernel) (Nat.le_of_ble_eq_true rfl) ?_
  show Ev E mi_X5_wind 0 [(0, .ref (ad E 0)), (1, .int p1)] [] M Q
  unfold f_X5_wind at h
  refine Ev.iload_n dX5_wind_0 rfl 1 rfl ?_
  refine Ev.iconst (v := 0) dX5_wind_1 rfl ?_
  refine Ev.bipush (v := 23) dX5_wind_2 rfl ?_
  obtain ⟨r1, er1, h⟩ := wp_bind h
  refine Ev.callS (as := [.int p1, .int 0, .int 23]) (rest := []) dX5_wind_4 cl_X5_75 mos_X5_within ⟨Nat.le_of_ble_eq_true rfl, Nat.le_of_ble_eq_true rfl⟩ (Nat.le_of_ble_eq_true rfl) rfl rfl (o_X5_within ⟨r1, er1, ?_⟩)
  show Ev E mi_X5_wind 7 [(0, .ref (ad E 0)), (1, .int p1)] [.int r1] M Q
  refine Ev.if_eq (tgt := 22) dX5_wind_7 (by decide) (fun c2 => ?_) (fun c2 => ?_)
  · replace h := wp_t c2 h
    refine Ev.iconst (v := (-1)) dX5_wind_22 rfl ?_
    exact Ev.ret dX5_wind_23 rfl rfl (wp_ret h)
  · replace h := wp_f c2 h
    refine Ev.aload_n dX5_wind_10 rfl 0 rfl ?_
    refine Ev.get dX5_wind_11 fl_X5_24 rfl (Nat.le_of_ble_eq_true rfl) (v := .ref (ad E 9)) rfl ?_
    refine Ev.getN dX5_wind_14 nl_X5_143 rfl (Nat.le_of_ble_eq_true rfl) (v := .ref (ad E 13)) rfl ?_
    refine Ev.iload_n dX5_wind_17 rfl 1 rfl ?_
    obtain ⟨g3, h⟩ := wp_rd h
    refine Ev.iald dX5_wind_18 rfl (Nat.le_of_ble_eq_true rfl) rfl g3 ?_
    refine Ev.topi (fun r4 er4 => ?_)
    replace h := h r4 er4
    refine Ev.goto (tgt := 23) dX5_wind_19 (by decide) ?_
    exact Ev.ret dX5_wind_23 rfl rfl (wp_ret h)

noncomputable def f_X5_fitsTub (p0 : Int32) (p1 : Int32) (M : Mem) : Option Int32 := (f_X5_within p0 0 4 M).bind fun r1 => if r1 = 0 then some 0 else rd (tbV 0) 5 p0 fun r4 => rd (tbV 1) 5 p0 fun r6 => (f_X5_within p1 r4 r6 M).bind fun r7 => if r7 = 0 then some 0 else some 1
theorem o_X5_fitsTub {E : GE} {Q : Option Value → Mem → Prop} {p0 : Int32} {p1 : Int32} {M : Mem} (h : wp (f_X5_fitsTub p0 p1 M) (gI M) Q) : Runs E mi_X5_fitsTub [.int p0, .int p1] M Q := by
  refine Runs.ofEv (by decide +kernel) (Nat.le_of_ble_eq_true rfl) ?_
  show Ev E mi_X5_fitsTub 0 [(0, .int p0), (1, .int p1)] [] M Q
  unfold f_X5_fitsTub at h
  refine Ev.iload_n dX5_fitsTub_0 rfl 0 rfl ?_
  refine Ev.iconst (v := 0) dX5_fitsTub_1 rfl ?_
  refine Ev.iconst (v := 4) dX5_fitsTub_2 rfl ?_
  obtain ⟨r1, er1, h⟩ := wp_bind h
  refine Ev.callS (as := [.int p0, .int 0, .int 4]) (rest := []) dX5_fitsTub_3 cl_X5_75 mos_X5_within ⟨Nat.le_of_ble_eq_true rfl, Nat.le_of_ble_eq_true rfl⟩ (Nat.le_of_ble_eq_true rfl) rfl rfl (o_X5_within ⟨r1, er1, ?_⟩)
  show Ev E mi_X5_fitsTub 6 [(0, .int p0), (1, .int p1)] [.int r1] M Q
  refine Ev.if_eq (tgt := 30) dX5_fitsTub_6 (by decide) (fun c2 => ?_) (fun c2 => ?_)
  · replace h := wp_t c2 h
    refine Ev.iconst (v := 0) dX5_fitsTub_30 rfl ?_
    exact Ev.ret dX5_fitsTub_31 rfl rfl (wp_ret h)
  · replace h := wp_f c2 h
    refine Ev.iload_n dX5_fitsTub_9 rfl 1 rfl ?_
    refine Ev.getT dX5_fitsTub_10 sl_X5_208 ?_
    refine Ev.iload_n dX5_fitsTub_13 rfl 0 rfl ?_
    obtain ⟨g3, h⟩ := wp_rd h
    refine Ev.tald dX5_fitsTub_14 (Nat.le_of_ble_eq_true rfl) rfl g3 ?_
    refine Ev.topi (fun r4 er4 => ?_)
    replace h := h r4 er4
    refine Ev.getT dX5_fitsTub_15 sl_X5_211 ?_
    refine Ev.iload_n dX5_fitsTub_18 rfl 0 rfl ?_
    obtain ⟨g5, h⟩ := wp_rd h
    refine Ev.tald dX5_fitsTub_19 (Nat.le_of_ble_eq_true rfl) rfl g5 ?_
    refine Ev.topi (fun r6 er6 => ?_)
    replace h := h r6 er6
    obtain ⟨r7, er7, h⟩ := wp_bind h
    refine Ev.callS (as := [.int p1, .int r4, .int r6]) (rest := []) dX5_fitsTub_20 cl_X5_75 mos_X5_within ⟨Nat.le_of_ble_eq_true rfl, Nat.le_of_ble_eq_true rfl⟩ (Nat.le_of_ble_eq_true rfl) rfl rfl (o_X5_within ⟨r7, er7, ?_⟩)
    show Ev E mi_X5_fitsTub 23 [(0, .int p0), (1, .int p1)] [.int r7] M Q
    refine Ev.if_eq (tgt := 30) dX5_fitsTub_23 (by decide) (fun c8 => ?_) (fun c8 => ?_)
    · replace h := wp_t c8 h
      refine Ev.iconst (v := 0) dX5_fitsTub_30 rfl ?_
      exact Ev.ret dX5_fitsTub_31 rfl rfl (wp_ret h)
    · replace h := wp_f c8 h
      refine Ev.iconst (v := 1) dX5_fitsTub_26 rfl ?_
      refine Ev.goto (tgt := 31) dX5_fitsTub_27 (by decide) ?_
      exact Ev.ret dX5_fitsTub_31 rfl rfl (wp_ret h)

noncomputable def f_X5_alter (p1 : Int32) (p2 : Int32) (p3 : Int32) (M : Mem) : Option (Int32 × Mem) := (f_X2_isTub 9 p1 M).bind fun r1 => if r1 = 0 then some ((-1), M) else (f_X5_fitsTub p2 p3 M).bind fun r3 => if r3 = 0 then some ((-1), M) else (f_X2_ofTub 9 p1 p2 M).bind fun r5 => (f_X2_putTub 9 p1 p2 p3 M).bind fun r6 => some (r5, r6)
theorem o_X5_alter {E : GE} {Q : Option Value → Mem → Prop} {p1 : Int32} {p2 : Int32} {p3 : Int32} {M : Mem} (h : wp (f_X5_alter p1 p2 p3 M) gIM Q) : Runs E mi_X5_alter [.ref (ad E 0), .int p1, .int p2, .int p3] M Q := by
  refine Runs.ofEv (by decide +kernel) (Nat.le_of_ble_eq_true rfl) ?_
  show Ev E mi_X5_alter 0 [(0, .ref (ad E 0)), (1, .int p1), (2, .int p2), (3, .int p3)] [] M Q
  unfold f_X5_alter at h
  refine Ev.aload_n dX5_alter_0 rfl 0 rfl ?_
  refine Ev.get dX5_alter_1 fl_X5_24 rfl (Nat.le_of_ble_eq_true rfl) (v := .ref (ad E 9)) rfl ?_
  refine Ev.iload_n dX5_alter_4 rfl 1 rfl ?_
  obtain ⟨r1, er1, h⟩ := wp_bind h
  refine Ev.callN (k := 9) (as := [.int p1]) (rest := []) dX5_alter_5 cn_X5_124 mok_X2_isTub rfl (Nat.le_of_ble_eq_true rfl) (Nat.le_of_ble_eq_true rfl) ⟨Nat.le_of_ble_eq_true rfl, Nat.le_of_ble_eq_true rfl⟩ (Nat.le_of_ble_eq_true rfl) rfl rfl (o_X2_isTub sea_9 ⟨r1, er1, ?_⟩)
  show Ev E mi_X5_alter 8 [(0, .ref (ad E 0)), (1, .int p1), (2, .int p2), (3, .int p3)] [.int r1] M Q
  refine Ev.if_eq (tgt := 19) dX5_alter_8 (by decide) (fun c2 => ?_) (fun c2 => ?_)
  · replace h := wp_t c2 h
    refine Ev.iconst (v := (-1)) dX5_alter_19 rfl ?_
    exact Ev.ret dX5_alter_20 rfl rfl (wp_ret h)
  · replace h := wp_f c2 h
    refine Ev.iload_n dX5_alter_11 rfl 2 rfl ?_
    refine Ev.iload_n dX5_alter_12 rfl 3 rfl ?_
    obtain ⟨r3, er3, h⟩ := wp_bind h
    refine Ev.callS (as := [.int p2, .int p3]) (rest := []) dX5_alter_13 cl_X5_146 mos_X5_fitsTub ⟨Nat.le_of_ble_eq_true rfl, Nat.le_of_ble_eq_true rfl⟩ (Nat.le_of_ble_eq_true rfl) rfl rfl (o_X5_fitsTub ⟨r3, er3, ?_⟩)
    show Ev E mi_X5_alter 16 [(0, .ref (ad E 0)), (1, .int p1), (2, .int p2), (3, .int p3)] [.int r3] M Q
    refine Ev.if_ne (tgt := 21) dX5_alter_16 (by decide) (fun c4 => ?_) (fun c4 => ?_)
    · replace h := wp_t c4 h
      refine Ev.iconst (v := (-1)) dX5_alter_19 rfl ?_
      exact Ev.ret dX5_alter_20 rfl rfl (wp_ret h)
    · replace h := wp_f c4 h
      refine Ev.aload_n dX5_alter_21 rfl 0 rfl ?_
      refine Ev.get dX5_alter_22 fl_X5_24 rfl (Nat.le_of_ble_eq_true rfl) (v := .ref (ad E 9)) rfl ?_
      refine Ev.iload_n dX5_alter_25 rfl 1 rfl ?_
      refine Ev.iload_n dX5_alter_26 rfl 2 rfl ?_
      obtain ⟨r5, er5, h⟩ := wp_bind h
      refine Ev.callN (k := 9) (as := [.int p1, .int p2]) (rest := []) dX5_alter_27 cn_X5_130 mok_X2_ofTub rfl (Nat.le_of_ble_eq_true rfl) (Nat.le_of_ble_eq_true rfl) ⟨Nat.le_of_ble_eq_true rfl, Nat.le_of_ble_eq_true rfl⟩ (Nat.le_of_ble_eq_true rfl) rfl rfl (o_X2_ofTub sea_9 ⟨r5, er5, ?_⟩)
      show Ev E mi_X5_alter 30 [(0, .ref (ad E 0)), (1, .int p1), (2, .int p2), (3, .int p3)] [.int r5] M Q
      refine Ev.istore dX5_alter_30 (Nat.le_of_ble_eq_true rfl) rfl ?_
      show Ev E mi_X5_alter 32 [(4, .int r5), (0, .ref (ad E 0)), (1, .int p1), (2, .int p2), (3, .int p3)] [] M Q
      refine Ev.aload_n dX5_alter_32 rfl 1 rfl ?_
      refine Ev.get dX5_alter_33 fl_X5_24 rfl (Nat.le_of_ble_eq_true rfl) (v := .ref (ad E 9)) rfl ?_
      refine Ev.iload_n dX5_alter_36 rfl 2 rfl ?_
      refine Ev.iload_n dX5_alter_37 rfl 3 rfl ?_
      refine Ev.iload_n dX5_alter_38 rfl 4 rfl ?_
      obtain ⟨r6, er6, h⟩ := wp_bind h
      refine Ev.callN (k := 9) (as := [.int p1, .int p2, .int p3]) (rest := []) dX5_alter_39 cn_X5_150 mok_X2_putTub rfl (Nat.le_of_ble_eq_true rfl) (Nat.le_of_ble_eq_true rfl) ⟨Nat.le_of_ble_eq_true rfl, Nat.le_of_ble_eq_true rfl⟩ (Nat.le_of_ble_eq_true rfl) rfl rfl (o_X2_putTub sea_9 ⟨r6, er6, ?_⟩)
      show Ev E mi_X5_alter 42 [(4, .int r5), (0, .ref (ad E 0)), (1, .int p1), (2, .int p2), (3, .int p3)] [] r6 Q
      refine Ev.iload dX5_alter_42 0 rfl ?_
      exact Ev.ret dX5_alter_44 rfl rfl (wp_ret h)

noncomputable def f_X5_fitsHeir (p0 : Int32) (p1 : Int32) (M : Mem) : Option Int32 := (f_X5_within p0 0 3 M).bind fun r1 => if r1 = 0 then some 0 else rd (tbV 2) 4 p0 fun r4 => (f_X5_within p1 0 r4 M).bind fun r5 => if r5 = 0 then some 0 else some 1
theorem o_X5_fitsHeir {E : GE} {Q : Option Value → Mem → Prop} {p0 : Int32} {p1 : Int32} {M : Mem} (h : wp (f_X5_fitsHeir p0 p1 M) (gI M) Q) : Runs E mi_X5_fitsHeir [.int p0, .int p1] M Q := by
  refine Runs.ofEv (by decide +kernel) (Nat.le_of_ble_eq_true rfl) ?_
  show Ev E mi_X5_fitsHeir 0 [(0, .int p0), (1, .int p1)] [] M Q
  unfold f_X5_fitsHeir at h
  refine Ev.iload_n dX5_fitsHeir_0 rfl 0 rfl ?_
  refine Ev.iconst (v := 0) dX5_fitsHeir_1 rfl ?_
  refine Ev.iconst (v := 3) dX5_fitsHeir_2 rfl ?_
  obtain ⟨r1, er1, h⟩ := wp_bind h
  refine Ev.callS (as := [.int p0, .int 0, .int 3]) (rest := []) dX5_fitsHeir_3 cl_X5_75 mos_X5_within ⟨Nat.le_of_ble_eq_true rfl, Nat.le_of_ble_eq_true rfl⟩ (Nat.le_of_ble_eq_true rfl) rfl rfl (o_X5_within ⟨r1, er1, ?_⟩)
  show Ev E mi_X5_fitsHeir 6 [(0, .int p0), (1, .int p1)] [.int r1] M Q
  refine Ev.if_eq (tgt := 26) dX5_fitsHeir_6 (by decide) (fun c2 => ?_) (fun c2 => ?_)
  · replace h := wp_t c2 h
    refine Ev.iconst (v := 0) dX5_fitsHeir_26 rfl ?_
    exact Ev.ret dX5_fitsHeir_27 rfl rfl (wp_ret h)
  · replace h := wp_f c2 h
    refine Ev.iload_n dX5_fitsHeir_9 rfl 1 rfl ?_
    refine Ev.iconst (v := 0) dX5_fitsHeir_10 rfl ?_
    refine Ev.getT dX5_fitsHeir_11 sl_X5_223 ?_
    refine Ev.iload_n dX5_fitsHeir_14 rfl 0 rfl ?_
    obtain ⟨g3, h⟩ := wp_rd h
    refine Ev.tald dX5_fitsHeir_15 (Nat.le_of_ble_eq_true rfl) rfl g3 ?_
    refine Ev.topi (fun r4 er4 => ?_)
    replace h := h r4 er4
    obtain ⟨r5, er5, h⟩ := wp_bind h
    refine Ev.callS (as := [.int p1, .int 0, .int r4]) (rest := []) dX5_fitsHeir_16 cl_X5_75 mos_X5_within ⟨Nat.le_of_ble_eq_true rfl, Nat.le_of_ble_eq_true rfl⟩ (Nat.le_of_ble_eq_true rfl) rfl rfl (o_X5_within ⟨r5, er5, ?_⟩)
    show Ev E mi_X5_fitsHeir 19 [(0, .int p0), (1, .int p1)] [.int r5] M Q
    refine Ev.if_eq (tgt := 26) dX5_fitsHeir_19 (by decide) (fun c6 => ?_) (fun c6 => ?_)
    · replace h := wp_t c6 h
      refine Ev.iconst (v := 0) dX5_fitsHeir_26 rfl ?_
      exact Ev.ret dX5_fitsHeir_27 rfl rfl (wp_ret h)
    · replace h := wp_f c6 h
      refine Ev.iconst (v := 1) dX5_fitsHeir_22 rfl ?_
      refine Ev.goto (tgt := 27) dX5_fitsHeir_23 (by decide) ?_
      exact Ev.ret dX5_fitsHeir_27 rfl rfl (wp_ret h)

noncomputable def f_X5_stand_61 (p1 : Int32) (p2 : Int32) (p3 : Int32) (M : Mem) : Option (Int32 × Mem) := (f_X2_ofHeir 9 p1 p2 M).bind fun r1 => (f_X2_putHeir 9 p1 p2 p3 M).bind fun r2 => some (r1, r2)
theorem o_X5_stand_61 {E : GE} {Q : Option Value → Mem → Prop} {p1 : Int32} {p2 : Int32} {p3 : Int32} {M : Mem} (h : wp (f_X5_stand_61 p1 p2 p3 M) gIM Q) : Ev E mi_X5_stand 61 [(0, .ref (ad E 0)), (1, .int p1), (2, .int p2), (3, .int p3)] [] M Q := by
  unfold f_X5_stand_61 at h
  refine Ev.aload_n dX5_stand_61 rfl 0 rfl ?_
  refine Ev.get dX5_stand_62 fl_X5_24 rfl (Nat.le_of_ble_eq_true rfl) (v := .ref (ad E 9)) rfl ?_
  refine Ev.iload_n dX5_stand_65 rfl 1 rfl ?_
  refine Ev.iload_n dX5_stand_66 rfl 2 rfl ?_
  obtain ⟨r1, er1, h⟩ := wp_bind h
  refine Ev.callN (k := 9) (as := [.int p1, .int p2]) (rest := []) dX5_stand_67 cn_X5_137 mok_X2_ofHeir rfl (Nat.le_of_ble_eq_true rfl) (Nat.le_of_ble_eq_true rfl) ⟨Nat.le_of_ble_eq_true rfl, Nat.le_of_ble_eq_true rfl⟩ (Nat.le_of_ble_eq_true rfl) rfl rfl (o_X2_ofHeir sea_9 ⟨r1, er1, ?_⟩)
  show Ev E mi_X5_stand 70 [(0, .ref (ad E 0)), (1, .int p1), (2, .int p2), (3, .int p3)] [.int r1] M Q
  refine Ev.istore dX5_stand_70 (Nat.le_of_ble_eq_true rfl) rfl ?_
  show Ev E mi_X5_stand 72 [(4, .int r1), (0, .ref (ad E 0)), (1, .int p1), (2, .int p2), (3, .int p3)] [] M Q
  refine Ev.aload_n dX5_stand_72 rfl 1 rfl ?_
  refine Ev.get dX5_stand_73 fl_X5_24 rfl (Nat.le_of_ble_eq_true rfl) (v := .ref (ad E 9)) rfl ?_
  refine Ev.iload_n dX5_stand_76 rfl 2 rfl ?_
  refine Ev.iload_n dX5_stand_77 rfl 3 rfl ?_
  refine Ev.iload_n dX5_stand_78 rfl 4 rfl ?_
  obtain ⟨r2, er2, h⟩ := wp_bind h
  refine Ev.callN (k := 9) (as := [.int p1, .int p2, .int p3]) (rest := []) dX5_stand_79 cn_X5_157 mok_X2_putHeir rfl (Nat.le_of_ble_eq_true rfl) (Nat.le_of_ble_eq_true rfl) ⟨Nat.le_of_ble_eq_true rfl, Nat.le_of_ble_eq_true rfl⟩ (Nat.le_of_ble_eq_true rfl) rfl rfl (o_X2_putHeir sea_9 ⟨r2, er2, ?_⟩)
  show Ev E mi_X5_stand 82 [(4, .int r1), (0, .ref (ad E 0)), (1, .int p1), (2, .int p2), (3, .int p3)] [] r2 Q
  refine Ev.iload dX5_stand_82 0 rfl ?_
  exact Ev.ret dX5_stand_84 rfl rfl (wp_ret h)
noncomputable def f_X5_stand_41 (p1 : Int32) (p2 : Int32) (p3 : Int32) (M : Mem) : Option (Int32 × Mem) := if p2 = 2 then (f_X2_ofHeir 9 p1 1 M).bind fun r2 => if r2 ≤ p3 then f_X5_stand_61 p1 p2 p3 M else some ((-1), M) else f_X5_stand_61 p1 p2 p3 M
theorem o_X5_stand_41 {E : GE} {Q : Option Value → Mem → Prop} {p1 : Int32} {p2 : Int32} {p3 : Int32} {M : Mem} (h : wp (f_X5_stand_41 p1 p2 p3 M) gIM Q) : Ev E mi_X5_stand 41 [(0, .ref (ad E 0)), (1, .int p1), (2, .int p2), (3, .int p3)] [] M Q := by
  unfold f_X5_stand_41 at h
  refine Ev.iload_n dX5_stand_41 rfl 2 rfl ?_
  refine Ev.iconst (v := 2) dX5_stand_42 rfl ?_
  refine Ev.icmp_ne (tgt := 61) dX5_stand_43 (by decide) (fun c1 => ?_) (fun c1 => ?_)
  · replace h := wp_t c1 h
    refine Ev.iload_n dX5_stand_46 rfl 3 rfl ?_
    refine Ev.aload_n dX5_stand_47 rfl 0 rfl ?_
    refine Ev.get dX5_stand_48 fl_X5_24 rfl (Nat.le_of_ble_eq_true rfl) (v := .ref (ad E 9)) rfl ?_
    refine Ev.iload_n dX5_stand_51 rfl 1 rfl ?_
    refine Ev.iconst (v := 1) dX5_stand_52 rfl ?_
    obtain ⟨r2, er2, h⟩ := wp_bind h
    refine Ev.callN (k := 9) (as := [.int p1, .int 1]) (rest := [.int p3]) dX5_stand_53 cn_X5_137 mok_X2_ofHeir rfl (Nat.le_of_ble_eq_true rfl) (Nat.le_of_ble_eq_true rfl) ⟨Nat.le_of_ble_eq_true rfl, Nat.le_of_ble_eq_true rfl⟩ (Nat.le_of_ble_eq_true rfl) rfl rfl (o_X2_ofHeir sea_9 ⟨r2, er2, ?_⟩)
    show Ev E mi_X5_stand 56 [(0, .ref (ad E 0)), (1, .int p1), (2, .int p2), (3, .int p3)] [.int r2, .int p3] M Q
    refine Ev.icmp_ge (tgt := 61) dX5_stand_56 (by decide) (fun c3 => ?_) (fun c3 => ?_)
    · replace h := wp_t c3 h
      exact o_X5_stand_61 h
    · replace h := wp_f c3 h
      refine Ev.iconst (v := (-1)) dX5_stand_59 rfl ?_
      exact Ev.ret dX5_stand_60 rfl rfl (wp_ret h)
  · replace h := wp_f c1 h
    exact o_X5_stand_61 h
noncomputable def f_X5_stand (p1 : Int32) (p2 : Int32) (p3 : Int32) (M : Mem) : Option (Int32 × Mem) := (f_X2_isHeir 9 p1 M).bind fun r1 => if r1 = 0 then some ((-1), M) else (f_X5_fitsHeir p2 p3 M).bind fun r3 => if r3 = 0 then some ((-1), M) else if p2 = 1 then (f_X2_ofHeir 9 p1 2 M).bind fun r6 => if p3 ≤ r6 then f_X5_stand_41 p1 p2 p3 M else some ((-1), M) else f_X5_stand_41 p1 p2 p3 M
theorem o_X5_stand {E : GE} {Q : Option Value → Mem → Prop} {p1 : Int32} {p2 : Int32} {p3 : Int32} {M : Mem} (h : wp (f_X5_stand p1 p2 p3 M) gIM Q) : Runs E mi_X5_stand [.ref (ad E 0), .int p1, .int p2, .int p3] M Q := by
  refine Runs.ofEv (by decide +kernel) (Nat.le_of_ble_eq_true rfl) ?_
  show Ev E mi_X5_stand 0 [(0, .ref (ad E 0)), (1, .int p1), (2, .int p2), (3, .int p3)] [] M Q
  unfold f_X5_stand at h
  refine Ev.aload_n dX5_stand_0 rfl 0 rfl ?_
  refine Ev.get dX5_stand_1 fl_X5_24 rfl (Nat.le_of_ble_eq_true rfl) (v := .ref (ad E 9)) rfl ?_
  refine Ev.iload_n dX5_stand_4 rfl 1 rfl ?_
  obtain ⟨r1, er1, h⟩ := wp_bind h
  refine Ev.callN (k := 9) (as := [.int p1]) (rest := []) dX5_stand_5 cn_X5_134 mok_X2_isHeir rfl (Nat.le_of_ble_eq_true rfl) (Nat.le_of_ble_eq_true rfl) ⟨Nat.le_of_ble_eq_true rfl, Nat.le_of_ble_eq_true rfl⟩ (Nat.le_of_ble_eq_true rfl) rfl rfl (o_X2_isHeir sea_9 ⟨r1, er1, ?_⟩)
  show Ev E mi_X5_stand 8 [(0, .ref (ad E 0)), (1, .int p1), (2, .int p2), (3, .int p3)] [.int r1] M Q
  refine Ev.if_eq (tgt := 19) dX5_stand_8 (by decide) (fun c2 => ?_) (fun c2 => ?_)
  · replace h := wp_t c2 h
    refine Ev.iconst (v := (-1)) dX5_stand_19 rfl ?_
    exact Ev.ret dX5_stand_20 rfl rfl (wp_ret h)
  · replace h := wp_f c2 h
    refine Ev.iload_n dX5_stand_11 rfl 2 rfl ?_
    refine Ev.iload_n dX5_stand_12 rfl 3 rfl ?_
    obtain ⟨r3, er3, h⟩ := wp_bind h
    refine Ev.callS (as := [.int p2, .int p3]) (rest := []) dX5_stand_13 cl_X5_154 mos_X5_fitsHeir ⟨Nat.le_of_ble_eq_true rfl, Nat.le_of_ble_eq_true rfl⟩ (Nat.le_of_ble_eq_true rfl) rfl rfl (o_X5_fitsHeir ⟨r3, er3, ?_⟩)
    show Ev E mi_X5_stand 16 [(0, .ref (ad E 0)), (1, .int p1), (2, .int p2), (3, .int p3)] [.int r3] M Q
    refine Ev.if_ne (tgt := 21) dX5_stand_16 (by decide) (fun c4 => ?_) (fun c4 => ?_)
    · replace h := wp_t c4 h
      refine Ev.iconst (v := (-1)) dX5_stand_19 rfl ?_
      exact Ev.ret dX5_stand_20 rfl rfl (wp_ret h)
    · replace h := wp_f c4 h
      refine Ev.iload_n dX5_stand_21 rfl 2 rfl ?_
      refine Ev.iconst (v := 1) dX5_stand_22 rfl ?_
      refine Ev.icmp_ne (tgt := 41) dX5_stand_23 (by decide) (fun c5 => ?_) (fun c5 => ?_)
      · replace h := wp_t c5 h
        refine Ev.iload_n dX5_stand_26 rfl 3 rfl ?_
        refine Ev.aload_n dX5_stand_27 rfl 0 rfl ?_
        refine Ev.get dX5_stand_28 fl_X5_24 rfl (Nat.le_of_ble_eq_true rfl) (v := .ref (ad E 9)) rfl ?_
        refine Ev.iload_n dX5_stand_31 rfl 1 rfl ?_
        refine Ev.iconst (v := 2) dX5_stand_32 rfl ?_
        obtain ⟨r6, er6, h⟩ := wp_bind h
        refine Ev.callN (k := 9) (as := [.int p1, .int 2]) (rest := [.int p3]) dX5_stand_33 cn_X5_137 mok_X2_ofHeir rfl (Nat.le_of_ble_eq_true rfl) (Nat.le_of_ble_eq_true rfl) ⟨Nat.le_of_ble_eq_true rfl, Nat.le_of_ble_eq_true rfl⟩ (Nat.le_of_ble_eq_true rfl) rfl rfl (o_X2_ofHeir sea_9 ⟨r6, er6, ?_⟩)
        show Ev E mi_X5_stand 36 [(0, .ref (ad E 0)), (1, .int p1), (2, .int p2), (3, .int p3)] [.int r6, .int p3] M Q
        refine Ev.icmp_le (tgt := 41) dX5_stand_36 (by decide) (fun c7 => ?_) (fun c7 => ?_)
        · replace h := wp_t c7 h
          exact o_X5_stand_41 h
        · replace h := wp_f c7 h
          refine Ev.iconst (v := (-1)) dX5_stand_39 rfl ?_
          exact Ev.ret dX5_stand_40 rfl rfl (wp_ret h)
      · replace h := wp_f c5 h
        exact o_X5_stand_41 h

noncomputable def f_X5_set (p1 : Int32) (p2 : Int32) (M : Mem) : Option (Int32 × Mem) := (f_X5_within p1 0 9 M).bind fun r1 => if r1 = 0 then some ((-1), M) else (f_X5_within p2 0 4 M).bind fun r3 => if r3 = 0 then some ((-1), M) else rd (M 12) 10 p1 fun r6 => inb p1 10 <| lm (up M 12 p1.toNatClampNeg p2) fun M8 => some (r6, M8)
theorem o_X5_set {E : GE} {Q : Option Value → Mem → Prop} {p1 : Int32} {p2 : Int32} {M : Mem} (h : wp (f_X5_set p1 p2 M) gIM Q) : Runs E mi_X5_set [.ref (ad E 0), .int p1, .int p2] M Q := by
  refine Runs.ofEv (by decide +kernel) (Nat.le_of_ble_eq_true rfl) ?_
  show Ev E mi_X5_set 0 [(0, .ref (ad E 0)), (1, .int p1), (2, .int p2)] [] M Q
  unfold f_X5_set at h
  refine Ev.iload_n dX5_set_0 rfl 1 rfl ?_
  refine Ev.iconst (v := 0) dX5_set_1 rfl ?_
  refine Ev.bipush (v := 9) dX5_set_2 rfl ?_
  obtain ⟨r1, er1, h⟩ := wp_bind h
  refine Ev.callS (as := [.int p1, .int 0, .int 9]) (rest := []) dX5_set_4 cl_X5_75 mos_X5_within ⟨Nat.le_of_ble_eq_true rfl, Nat.le_of_ble_eq_true rfl⟩ (Nat.le_of_ble_eq_true rfl) rfl rfl (o_X5_within ⟨r1, er1, ?_⟩)
  show Ev E mi_X5_set 7 [(0, .ref (ad E 0)), (1, .int p1), (2, .int p2)] [.int r1] M Q
  refine Ev.if_eq (tgt := 19) dX5_set_7 (by decide) (fun c2 => ?_) (fun c2 => ?_)
  · replace h := wp_t c2 h
    refine Ev.iconst (v := (-1)) dX5_set_19 rfl ?_
    exact Ev.ret dX5_set_20 rfl rfl (wp_ret h)
  · replace h := wp_f c2 h
    refine Ev.iload_n dX5_set_10 rfl 2 rfl ?_
    refine Ev.iconst (v := 0) dX5_set_11 rfl ?_
    refine Ev.iconst (v := 4) dX5_set_12 rfl ?_
    obtain ⟨r3, er3, h⟩ := wp_bind h
    refine Ev.callS (as := [.int p2, .int 0, .int 4]) (rest := []) dX5_set_13 cl_X5_75 mos_X5_within ⟨Nat.le_of_ble_eq_true rfl, Nat.le_of_ble_eq_true rfl⟩ (Nat.le_of_ble_eq_true rfl) rfl rfl (o_X5_within ⟨r3, er3, ?_⟩)
    show Ev E mi_X5_set 16 [(0, .ref (ad E 0)), (1, .int p1), (2, .int p2)] [.int r3] M Q
    refine Ev.if_ne (tgt := 21) dX5_set_16 (by decide) (fun c4 => ?_) (fun c4 => ?_)
    · replace h := wp_t c4 h
      refine Ev.iconst (v := (-1)) dX5_set_19 rfl ?_
      exact Ev.ret dX5_set_20 rfl rfl (wp_ret h)
    · replace h := wp_f c4 h
      refine Ev.aload_n dX5_set_21 rfl 0 rfl ?_
      refine Ev.get dX5_set_22 fl_X5_24 rfl (Nat.le_of_ble_eq_true rfl) (v := .ref (ad E 9)) rfl ?_
      refine Ev.getN dX5_set_25 nl_X5_140 rfl (Nat.le_of_ble_eq_true rfl) (v := .ref (ad E 12)) rfl ?_
      refine Ev.iload_n dX5_set_28 rfl 1 rfl ?_
      obtain ⟨g5, h⟩ := wp_rd h
      refine Ev.iald dX5_set_29 rfl (Nat.le_of_ble_eq_true rfl) rfl g5 ?_
      refine Ev.topi (fun r6 er6 => ?_)
      replace h := h r6 er6
      refine Ev.istore_n dX5_set_30 rfl (Nat.le_of_ble_eq_true rfl) rfl ?_
      show Ev E mi_X5_set 31 [(3, .int r6), (0, .ref (ad E 0)), (1, .int p1), (2, .int p2)] [] M Q
      refine Ev.aload_n dX5_set_31 rfl 1 rfl ?_
      refine Ev.get dX5_set_32 fl_X5_24 rfl (Nat.le_of_ble_eq_true rfl) (v := .ref (ad E 9)) rfl ?_
      refine Ev.getN dX5_set_35 nl_X5_140 rfl (Nat.le_of_ble_eq_true rfl) (v := .ref (ad E 12)) rfl ?_
      refine Ev.iload_n dX5_set_38 rfl 2 rfl ?_
      refine Ev.iload_n dX5_set_39 rfl 3 rfl ?_
      obtain ⟨g7, h⟩ := wp_inb h
      refine Ev.iast dX5_set_40 rfl (Nat.le_of_ble_eq_true rfl) rfl g7 ?_
      refine Ev.topM (fun M8 eM8 => ?_)
      replace h := wp_lm h M8 eM8
      refine Ev.iload_n dX5_set_41 rfl 0 rfl ?_
      exact Ev.ret dX5_set_42 rfl rfl (wp_ret h)

noncomputable def f_X5_blow (p1 : Int32) (p2 : Int32) (M : Mem) : Option (Int32 × Mem) := (f_X5_within p1 0 23 M).bind fun r1 => if r1 = 0 then some ((-1), M) else (f_X5_within p2 0 4 M).bind fun r3 => if r3 = 0 then some ((-1), M) else rd (M 13) 24 p1 fun r6 => inb p1 24 <| lm (up M 13 p1.toNatClampNeg p2) fun M8 => some (r6, M8)
theorem o_X5_blow {E : GE} {Q : Option Value → Mem → Prop} {p1 : Int32} {p2 : Int32} {M : Mem} (h : wp (f_X5_blow p1 p2 M) gIM Q) : Runs E mi_X5_blow [.ref (ad E 0), .int p1, .int p2] M Q := by
  refine Runs.ofEv (by decide +kernel) (Nat.le_of_ble_eq_true rfl) ?_
  show Ev E mi_X5_blow 0 [(0, .ref (ad E 0)), (1, .int p1), (2, .int p2)] [] M Q
  unfold f_X5_blow at h
  refine Ev.iload_n dX5_blow_0 rfl 1 rfl ?_
  refine Ev.iconst (v := 0) dX5_blow_1 rfl ?_
  refine Ev.bipush (v := 23) dX5_blow_2 rfl ?_
  obtain ⟨r1, er1, h⟩ := wp_bind h
  refine Ev.callS (as := [.int p1, .int 0, .int 23]) (rest := []) dX5_blow_4 cl_X5_75 mos_X5_within ⟨Nat.le_of_ble_eq_true rfl, Nat.le_of_ble_eq_true rfl⟩ (Nat.le_of_ble_eq_true rfl) rfl rfl (o_X5_within ⟨r1, er1, ?_⟩)
  show Ev E mi_X5_blow 7 [(0, .ref (ad E 0)), (1, .int p1), (2, .int p2)] [.int r1] M Q
  refine Ev.if_eq (tgt := 19) dX5_blow_7 (by decide) (fun c2 => ?_) (fun c2 => ?_)
  · replace h := wp_t c2 h
    refine Ev.iconst (v := (-1)) dX5_blow_19 rfl ?_
    exact Ev.ret dX5_blow_20 rfl rfl (wp_ret h)
  · replace h := wp_f c2 h
    refine Ev.iload_n dX5_blow_10 rfl 2 rfl ?_
    refine Ev.iconst (v := 0) dX5_blow_11 rfl ?_
    refine Ev.iconst (v := 4) dX5_blow_12 rfl ?_
    obtain ⟨r3, er3, h⟩ := wp_bind h
    refine Ev.callS (as := [.int p2, .int 0, .int 4]) (rest := []) dX5_blow_13 cl_X5_75 mos_X5_within ⟨Nat.le_of_ble_eq_true rfl, Nat.le_of_ble_eq_true rfl⟩ (Nat.le_of_ble_eq_true rfl) rfl rfl (o_X5_within ⟨r3, er3, ?_⟩)
    show Ev E mi_X5_blow 16 [(0, .ref (ad E 0)), (1, .int p1), (2, .int p2)] [.int r3] M Q
    refine Ev.if_ne (tgt := 21) dX5_blow_16 (by decide) (fun c4 => ?_) (fun c4 => ?_)
    · replace h := wp_t c4 h
      refine Ev.iconst (v := (-1)) dX5_blow_19 rfl ?_
      exact Ev.ret dX5_blow_20 rfl rfl (wp_ret h)
    · replace h := wp_f c4 h
      refine Ev.aload_n dX5_blow_21 rfl 0 rfl ?_
      refine Ev.get dX5_blow_22 fl_X5_24 rfl (Nat.le_of_ble_eq_true rfl) (v := .ref (ad E 9)) rfl ?_
      refine Ev.getN dX5_blow_25 nl_X5_143 rfl (Nat.le_of_ble_eq_true rfl) (v := .ref (ad E 13)) rfl ?_
      refine Ev.iload_n dX5_blow_28 rfl 1 rfl ?_
      obtain ⟨g5, h⟩ := wp_rd h
      refine Ev.iald dX5_blow_29 rfl (Nat.le_of_ble_eq_true rfl) rfl g5 ?_
      refine Ev.topi (fun r6 er6 => ?_)
      replace h := h r6 er6
      refine Ev.istore_n dX5_blow_30 rfl (Nat.le_of_ble_eq_true rfl) rfl ?_
      show Ev E mi_X5_blow 31 [(3, .int r6), (0, .ref (ad E 0)), (1, .int p1), (2, .int p2)] [] M Q
      refine Ev.aload_n dX5_blow_31 rfl 1 rfl ?_
      refine Ev.get dX5_blow_32 fl_X5_24 rfl (Nat.le_of_ble_eq_true rfl) (v := .ref (ad E 9)) rfl ?_
      refine Ev.getN dX5_blow_35 nl_X5_143 rfl (Nat.le_of_ble_eq_true rfl) (v := .ref (ad E 13)) rfl ?_
      refine Ev.iload_n dX5_blow_38 rfl 2 rfl ?_
      refine Ev.iload_n dX5_blow_39 rfl 3 rfl ?_
      obtain ⟨g7, h⟩ := wp_inb h
      refine Ev.iast dX5_blow_40 rfl (Nat.le_of_ble_eq_true rfl) rfl g7 ?_
      refine Ev.topM (fun M8 eM8 => ?_)
      replace h := wp_lm h M8 eM8
      refine Ev.iload_n dX5_blow_41 rfl 0 rfl ?_
      exact Ev.ret dX5_blow_42 rfl rfl (wp_ret h)

noncomputable def f_X5_phase (p1 : Int32) (M : Mem) : Option (Int32 × Mem) := (f_X5_within p1 0 5 M).bind fun r1 => if r1 = 0 then some ((-1), M) else li (M 9 6) fun y3 => lm (up M 9 6 p1) fun M4 => some (y3, M4)
theorem o_X5_phase {E : GE} {Q : Option Value → Mem → Prop} {p1 : Int32} {M : Mem} (h : wp (f_X5_phase p1 M) gIM Q) : Runs E mi_X5_phase [.ref (ad E 0), .int p1] M Q := by
  refine Runs.ofEv (by decide +kernel) (Nat.le_of_ble_eq_true rfl) ?_
  show Ev E mi_X5_phase 0 [(0, .ref (ad E 0)), (1, .int p1)] [] M Q
  unfold f_X5_phase at h
  refine Ev.iload_n dX5_phase_0 rfl 1 rfl ?_
  refine Ev.iconst (v := 0) dX5_phase_1 rfl ?_
  refine Ev.iconst (v := 5) dX5_phase_2 rfl ?_
  obtain ⟨r1, er1, h⟩ := wp_bind h
  refine Ev.callS (as := [.int p1, .int 0, .int 5]) (rest := []) dX5_phase_3 cl_X5_75 mos_X5_within ⟨Nat.le_of_ble_eq_true rfl, Nat.le_of_ble_eq_true rfl⟩ (Nat.le_of_ble_eq_true rfl) rfl rfl (o_X5_within ⟨r1, er1, ?_⟩)
  show Ev E mi_X5_phase 6 [(0, .ref (ad E 0)), (1, .int p1)] [.int r1] M Q
  refine Ev.if_ne (tgt := 11) dX5_phase_6 (by decide) (fun c2 => ?_) (fun c2 => ?_)
  · replace h := wp_t c2 h
    refine Ev.iconst (v := (-1)) dX5_phase_9 rfl ?_
    exact Ev.ret dX5_phase_10 rfl rfl (wp_ret h)
  · replace h := wp_f c2 h
    refine Ev.aload_n dX5_phase_11 rfl 0 rfl ?_
    refine Ev.get dX5_phase_12 fl_X5_24 rfl (Nat.le_of_ble_eq_true rfl) (v := .ref (ad E 9)) rfl ?_
    refine Ev.getN dX5_phase_15 nl_X5_115 rfl (Nat.le_of_ble_eq_true rfl) rfl ?_
    refine Ev.topi (fun y3 ey3 => ?_)
    replace h := wp_li h y3 ey3
    refine Ev.istore_n dX5_phase_18 rfl (Nat.le_of_ble_eq_true rfl) rfl ?_
    show Ev E mi_X5_phase 19 [(2, .int y3), (0, .ref (ad E 0)), (1, .int p1)] [] M Q
    refine Ev.aload_n dX5_phase_19 rfl 1 rfl ?_
    refine Ev.get dX5_phase_20 fl_X5_24 rfl (Nat.le_of_ble_eq_true rfl) (v := .ref (ad E 9)) rfl ?_
    refine Ev.iload_n dX5_phase_23 rfl 2 rfl ?_
    refine Ev.putN dX5_phase_24 nl_X5_115 rfl (Nat.le_of_ble_eq_true rfl) rfl rfl pf_I rfl rfl ?_
    refine Ev.topM (fun M4 eM4 => ?_)
    replace h := wp_lm h M4 eM4
    refine Ev.iload_n dX5_phase_27 rfl 0 rfl ?_
    exact Ev.ret dX5_phase_28 rfl rfl (wp_ret h)

noncomputable def f_X5_putIn (p1 : Int32) (p2 : Int32) (p3 : Int32) (M : Mem) : Option (Int32 × Mem) := (f_X5_fitsTub 1 p1 M).bind fun r1 => if r1 = 0 then some ((-1), M) else (f_X5_fitsTub 2 p2 M).bind fun r3 => if r3 = 0 then some ((-1), M) else (f_X5_fitsTub 3 p3 M).bind fun r5 => if r5 = 0 then some ((-1), M) else if (M 9 4) < 4 then li (M 9 4) fun y8 => lm (up M 9 4 ((M 9 4) + 1)) fun M9 => (f_X2_putTub 9 y8 0 0 M9).bind fun r10 => (f_X2_moveTub 9 y8 p1 p2 r10).bind fun r11 => (f_X2_putTub 9 y8 3 p3 r11).bind fun r12 => (f_X2_putTub 9 y8 4 1 r12).bind fun r13 => some (r13 9 4, r13) else some ((-3), M)
theorem o_X5_putIn {E : GE} {Q : Option Value → Mem → Prop} {p1 : Int32} {p2 : Int32} {p3 : Int32} {M : Mem} (h : wp (f_X5_putIn p1 p2 p3 M) gIM Q) : Runs E mi_X5_putIn [.ref (ad E 0), .int p1, .int p2, .int p3] M Q := by
  refine Runs.ofEv (by decide +kernel) (Nat.le_of_ble_eq_true rfl) ?_
  show Ev E mi_X5_putIn 0 [(0, .ref (ad E 0)), (1, .int p1), (2, .int p2), (3, .int p3)] [] M Q
  unfold f_X5_putIn at h
  refine Ev.iconst (v := 1) dX5_putIn_0 rfl ?_
  refine Ev.iload_n dX5_putIn_1 rfl 1 rfl ?_
  obtain ⟨r1, er1, h⟩ := wp_bind h
  refine Ev.callS (as := [.int 1, .int p1]) (rest := []) dX5_putIn_2 cl_X5_146 mos_X5_fitsTub ⟨Nat.le_of_ble_eq_true rfl, Nat.le_of_ble_eq_true rfl⟩ (Nat.le_of_ble_eq_true rfl) rfl rfl (o_X5_fitsTub ⟨r1, er1, ?_⟩)
  show Ev E mi_X5_putIn 5 [(0, .ref (ad E 0)), (1, .int p1), (2, .int p2), (3, .int p3)] [.int r1] M Q
  refine Ev.if_eq (tgt := 24) dX5_putIn_5 (by decide) (fun c2 => ?_) (fun c2 => ?_)
  · replace h := wp_t c2 h
    refine Ev.iconst (v := (-1)) dX5_putIn_24 rfl ?_
    exact Ev.ret dX5_putIn_25 rfl rfl (wp_ret h)
  · replace h := wp_f c2 h
    refine Ev.iconst (v := 2) dX5_putIn_8 rfl ?_
    refine Ev.iload_n dX5_putIn_9 rfl 2 rfl ?_
    obtain ⟨r3, er3, h⟩ := wp_bind h
    refine Ev.callS (as := [.int 2, .int p2]) (rest := []) dX5_putIn_10 cl_X5_146 mos_X5_fitsTub ⟨Nat.le_of_ble_eq_true rfl, Nat.le_of_ble_eq_true rfl⟩ (Nat.le_of_ble_eq_true rfl) rfl rfl (o_X5_fitsTub ⟨r3, er3, ?_⟩)
    show Ev E mi_X5_putIn 13 [(0, .ref (ad E 0)), (1, .int p1), (2, .int p2), (3, .int p3)] [.int r3] M Q
    refine Ev.if_eq (tgt := 24) dX5_putIn_13 (by decide) (fun c4 => ?_) (fun c4 => ?_)
    · replace h := wp_t c4 h
      refine Ev.iconst (v := (-1)) dX5_putIn_24 rfl ?_
      exact Ev.ret dX5_putIn_25 rfl rfl (wp_ret h)
    · replace h := wp_f c4 h
      refine Ev.iconst (v := 3) dX5_putIn_16 rfl ?_
      refine Ev.iload_n dX5_putIn_17 rfl 3 rfl ?_
      obtain ⟨r5, er5, h⟩ := wp_bind h
      refine Ev.callS (as := [.int 3, .int p3]) (rest := []) dX5_putIn_18 cl_X5_146 mos_X5_fitsTub ⟨Nat.le_of_ble_eq_true rfl, Nat.le_of_ble_eq_true rfl⟩ (Nat.le_of_ble_eq_true rfl) rfl rfl (o_X5_fitsTub ⟨r5, er5, ?_⟩)
      show Ev E mi_X5_putIn 21 [(0, .ref (ad E 0)), (1, .int p1), (2, .int p2), (3, .int p3)] [.int r5] M Q
      refine Ev.if_ne (tgt := 26) dX5_putIn_21 (by decide) (fun c6 => ?_) (fun c6 => ?_)
      · replace h := wp_t c6 h
        refine Ev.iconst (v := (-1)) dX5_putIn_24 rfl ?_
        exact Ev.ret dX5_putIn_25 rfl rfl (wp_ret h)
      · replace h := wp_f c6 h
        refine Ev.aload_n dX5_putIn_26 rfl 0 rfl ?_
        refine Ev.get dX5_putIn_27 fl_X5_24 rfl (Nat.le_of_ble_eq_true rfl) (v := .ref (ad E 9)) rfl ?_
        refine Ev.getN dX5_putIn_30 nl_X5_109 rfl (Nat.le_of_ble_eq_true rfl) rfl ?_
        refine Ev.iconst (v := 4) dX5_putIn_33 rfl ?_
        refine Ev.icmp_lt (tgt := 40) dX5_putIn_34 (by decide) (fun c7 => ?_) (fun c7 => ?_)
        · replace h := wp_t c7 h
          refine Ev.aload_n dX5_putIn_40 rfl 0 rfl ?_
          refine Ev.get dX5_putIn_41 fl_X5_24 rfl (Nat.le_of_ble_eq_true rfl) (v := .ref (ad E 9)) rfl ?_
          refine Ev.getN dX5_putIn_44 nl_X5_109 rfl (Nat.le_of_ble_eq_true rfl) rfl ?_
          refine Ev.topi (fun y8 ey8 => ?_)
          replace h := wp_li h y8 ey8
          refine Ev.istore dX5_putIn_47 (Nat.le_of_ble_eq_true rfl) rfl ?_
          show Ev E mi_X5_putIn 49 [(4, .int y8), (0, .ref (ad E 0)), (1, .int p1), (2, .int p2), (3, .int p3)] [] M Q
          refine Ev.aload_n dX5_putIn_49 rfl 1 rfl ?_
          refine Ev.get dX5_putIn_50 fl_X5_24 rfl (Nat.le_of_ble_eq_true rfl) (v := .ref (ad E 9)) rfl ?_
          refine Ev.dup dX5_putIn_53 rfl ?_
          refine Ev.getN dX5_putIn_54 nl_X5_109 rfl (Nat.le_of_ble_eq_true rfl) rfl ?_
          refine Ev.iconst (v := 1) dX5_putIn_57 rfl ?_
          refine Ev.iadd dX5_putIn_58 ?_
          refine Ev.putN dX5_putIn_59 nl_X5_109 rfl (Nat.le_of_ble_eq_true rfl) rfl rfl pf_I rfl rfl ?_
          refine Ev.topM (fun M9 eM9 => ?_)
          replace h := wp_lm h M9 eM9
          refine Ev.aload_n dX5_putIn_62 rfl 1 rfl ?_
          refine Ev.get dX5_putIn_63 fl_X5_24 rfl (Nat.le_of_ble_eq_true rfl) (v := .ref (ad E 9)) rfl ?_
          refine Ev.iload dX5_putIn_66 0 rfl ?_
          refine Ev.iconst (v := 0) dX5_putIn_68 rfl ?_
          refine Ev.iconst (v := 0) dX5_putIn_69 rfl ?_
          obtain ⟨r10, er10, h⟩ := wp_bind h
          refine Ev.callN (k := 9) (as := [.int y8, .int 0, .int 0]) (rest := []) dX5_putIn_70 cn_X5_150 mok_X2_putTub rfl (Nat.le_of_ble_eq_true rfl) (Nat.le_of_ble_eq_true rfl) ⟨Nat.le_of_ble_eq_true rfl, Nat.le_of_ble_eq_true rfl⟩ (Nat.le_of_ble_eq_true rfl) rfl rfl (o_X2_putTub sea_9 ⟨r10, er10, ?_⟩)
          show Ev E mi_X5_putIn 73 [(4, .int y8), (0, .ref (ad E 0)), (1, .int p1), (2, .int p2), (3, .int p3)] [] r10 Q
          refine Ev.aload_n dX5_putIn_73 rfl 1 rfl ?_
          refine Ev.get dX5_putIn_74 fl_X5_24 rfl (Nat.le_of_ble_eq_true rfl) (v := .ref (ad E 9)) rfl ?_
          refine Ev.iload dX5_putIn_77 0 rfl ?_
          refine Ev.iload_n dX5_putIn_79 rfl 2 rfl ?_
          refine Ev.iload_n dX5_putIn_80 rfl 3 rfl ?_
          obtain ⟨r11, er11, h⟩ := wp_bind h
          refine Ev.callN (k := 9) (as := [.int y8, .int p1, .int p2]) (rest := []) dX5_putIn_81 cn_X5_214 mok_X2_moveTub rfl (Nat.le_of_ble_eq_true rfl) (Nat.le_of_ble_eq_true rfl) ⟨Nat.le_of_ble_eq_true rfl, Nat.le_of_ble_eq_true rfl⟩ (Nat.le_of_ble_eq_true rfl) rfl rfl (o_X2_moveTub sea_9 ⟨r11, er11, ?_⟩)
          show Ev E mi_X5_putIn 84 [(4, .int y8), (0, .ref (ad E 0)), (1, .int p1), (2, .int p2), (3, .int p3)] [] r11 Q
          refine Ev.aload_n dX5_putIn_84 rfl 1 rfl ?_
          refine Ev.get dX5_putIn_85 fl_X5_24 rfl (Nat.le_of_ble_eq_true rfl) (v := .ref (ad E 9)) rfl ?_
          refine Ev.iload dX5_putIn_88 0 rfl ?_
          refine Ev.iconst (v := 3) dX5_putIn_90 rfl ?_
          refine Ev.iload_n dX5_putIn_91 rfl 4 rfl ?_
          obtain ⟨r12, er12, h⟩ := wp_bind h
          refine Ev.callN (k := 9) (as := [.int y8, .int 3, .int p3]) (rest := []) dX5_putIn_92 cn_X5_150 mok_X2_putTub rfl (Nat.le_of_ble_eq_true rfl) (Nat.le_of_ble_eq_true rfl) ⟨Nat.le_of_ble_eq_true rfl, Nat.le_of_ble_eq_true rfl⟩ (Nat.le_of_ble_eq_true rfl) rfl rfl (o_X2_putTub sea_9 ⟨r12, er12, ?_⟩)
          show Ev E mi_X5_putIn 95 [(4, .int y8), (0, .ref (ad E 0)), (1, .int p1), (2, .int p2), (3, .int p3)] [] r12 Q
          refine Ev.aload_n dX5_putIn_95 rfl 1 rfl ?_
          refine Ev.get dX5_putIn_96 fl_X5_24 rfl (Nat.le_of_ble_eq_true rfl) (v := .ref (ad E 9)) rfl ?_
          refine Ev.iload dX5_putIn_99 0 rfl ?_
          refine Ev.iconst (v := 4) dX5_putIn_101 rfl ?_
          refine Ev.iconst (v := 1) dX5_putIn_102 rfl ?_
          obtain ⟨r13, er13, h⟩ := wp_bind h
          refine Ev.callN (k := 9) (as := [.int y8, .int 4, .int 1]) (rest := []) dX5_putIn_103 cn_X5_150 mok_X2_putTub rfl (Nat.le_of_ble_eq_true rfl) (Nat.le_of_ble_eq_true rfl) ⟨Nat.le_of_ble_eq_true rfl, Nat.le_of_ble_eq_true rfl⟩ (Nat.le_of_ble_eq_true rfl) rfl rfl (o_X2_putTub sea_9 ⟨r13, er13, ?_⟩)
          show Ev E mi_X5_putIn 106 [(4, .int y8), (0, .ref (ad E 0)), (1, .int p1), (2, .int p2), (3, .int p3)] [] r13 Q
          refine Ev.aload_n dX5_putIn_106 rfl 1 rfl ?_
          refine Ev.get dX5_putIn_107 fl_X5_24 rfl (Nat.le_of_ble_eq_true rfl) (v := .ref (ad E 9)) rfl ?_
          refine Ev.getN dX5_putIn_110 nl_X5_109 rfl (Nat.le_of_ble_eq_true rfl) rfl ?_
          exact Ev.ret dX5_putIn_113 rfl rfl (wp_ret h)
        · replace h := wp_f c7 h
          refine Ev.bipush (v := (-3)) dX5_putIn_37 rfl ?_
          exact Ev.ret dX5_putIn_39 rfl rfl (wp_ret h)

noncomputable def f_X5_cast (p1 : Int32) (p2 : Int32) (p3 : Int32) (M : Mem) : Option (Int32 × Mem) := (f_X5_putIn p1 p2 p3 M).bind fun r1 => some (r1.1, r1.2)
theorem o_X5_cast {E : GE} {Q : Option Value → Mem → Prop} {p1 : Int32} {p2 : Int32} {p3 : Int32} {M : Mem} (h : wp (f_X5_cast p1 p2 p3 M) gIM Q) : Runs E mi_X5_cast [.ref (ad E 0), .int p1, .int p2, .int p3] M Q := by
  refine Runs.ofEv (by decide +kernel) (Nat.le_of_ble_eq_true rfl) ?_
  show Ev E mi_X5_cast 0 [(0, .ref (ad E 0)), (1, .int p1), (2, .int p2), (3, .int p3)] [] M Q
  unfold f_X5_cast at h
  refine Ev.aload_n dX5_cast_0 rfl 0 rfl ?_
  refine Ev.iload_n dX5_cast_1 rfl 1 rfl ?_
  refine Ev.iload_n dX5_cast_2 rfl 2 rfl ?_
  refine Ev.iload_n dX5_cast_3 rfl 3 rfl ?_
  obtain ⟨r1, er1, h⟩ := wp_bind h
  refine Ev.callV (k := 0) (as := [.int p1, .int p2, .int p3]) (rest := []) dX5_cast_4 cl_X5_160 mok_X5_putIn rfl (Nat.le_of_ble_eq_true rfl) (Nat.le_of_ble_eq_true rfl) ⟨Nat.le_of_ble_eq_true rfl, Nat.le_of_ble_eq_true rfl⟩ (Nat.le_of_ble_eq_true rfl) rfl rfl (o_X5_putIn ⟨r1, er1, ?_⟩)
  show Ev E mi_X5_cast 7 [(0, .ref (ad E 0)), (1, .int p1), (2, .int p2), (3, .int p3)] [.int r1.1] r1.2 Q
  exact Ev.ret dX5_cast_7 rfl rfl (wp_ret h)

noncomputable def f_X5_sink (p1 : Int32) (M : Mem) : Option (Int32 × Mem) := (f_X5_within p1 0 (M 9 4) M).bind fun r1 => if r1 = 0 then some ((-1), M) else li (M 9 4) fun y3 => lm (up M 9 4 p1) fun M4 => some (y3, M4)
theorem o_X5_sink {E : GE} {Q : Option Value → Mem → Prop} {p1 : Int32} {M : Mem} (h : wp (f_X5_sink p1 M) gIM Q) : Runs E mi_X5_sink [.ref (ad E 0), .int p1] M Q := by
  refine Runs.ofEv (by decide +kernel) (Nat.le_of_ble_eq_true rfl) ?_
  show Ev E mi_X5_sink 0 [(0, .ref (ad E 0)), (1, .int p1)] [] M Q
  unfold f_X5_sink at h
  refine Ev.iload_n dX5_sink_0 rfl 1 rfl ?_
  refine Ev.iconst (v := 0) dX5_sink_1 rfl ?_
  refine Ev.aload_n dX5_sink_2 rfl 0 rfl ?_
  refine Ev.get dX5_sink_3 fl_X5_24 rfl (Nat.le_of_ble_eq_true rfl) (v := .ref (ad E 9)) rfl ?_
  refine Ev.getN dX5_sink_6 nl_X5_109 rfl (Nat.le_of_ble_eq_true rfl) rfl ?_
  obtain ⟨r1, er1, h⟩ := wp_bind h
  refine Ev.callS (as := [.int p1, .int 0, .int (M 9 4)]) (rest := []) dX5_sink_9 cl_X5_75 mos_X5_within ⟨Nat.le_of_ble_eq_true rfl, Nat.le_of_ble_eq_true rfl⟩ (Nat.le_of_ble_eq_true rfl) rfl rfl (o_X5_within ⟨r1, er1, ?_⟩)
  show Ev E mi_X5_sink 12 [(0, .ref (ad E 0)), (1, .int p1)] [.int r1] M Q
  refine Ev.if_ne (tgt := 17) dX5_sink_12 (by decide) (fun c2 => ?_) (fun c2 => ?_)
  · replace h := wp_t c2 h
    refine Ev.iconst (v := (-1)) dX5_sink_15 rfl ?_
    exact Ev.ret dX5_sink_16 rfl rfl (wp_ret h)
  · replace h := wp_f c2 h
    refine Ev.aload_n dX5_sink_17 rfl 0 rfl ?_
    refine Ev.get dX5_sink_18 fl_X5_24 rfl (Nat.le_of_ble_eq_true rfl) (v := .ref (ad E 9)) rfl ?_
    refine Ev.getN dX5_sink_21 nl_X5_109 rfl (Nat.le_of_ble_eq_true rfl) rfl ?_
    refine Ev.topi (fun y3 ey3 => ?_)
    replace h := wp_li h y3 ey3
    refine Ev.istore_n dX5_sink_24 rfl (Nat.le_of_ble_eq_true rfl) rfl ?_
    show Ev E mi_X5_sink 25 [(2, .int y3), (0, .ref (ad E 0)), (1, .int p1)] [] M Q
    refine Ev.aload_n dX5_sink_25 rfl 1 rfl ?_
    refine Ev.get dX5_sink_26 fl_X5_24 rfl (Nat.le_of_ble_eq_true rfl) (v := .ref (ad E 9)) rfl ?_
    refine Ev.iload_n dX5_sink_29 rfl 2 rfl ?_
    refine Ev.putN dX5_sink_30 nl_X5_109 rfl (Nat.le_of_ble_eq_true rfl) rfl rfl pf_I rfl rfl ?_
    refine Ev.topM (fun M4 eM4 => ?_)
    replace h := wp_lm h M4 eM4
    refine Ev.iload_n dX5_sink_33 rfl 0 rfl ?_
    exact Ev.ret dX5_sink_34 rfl rfl (wp_ret h)

noncomputable def f_X5_fate (p1 : Int32) (p2 : Int32) (M : Mem) : Option (Int32 × Mem) := (f_X2_isTub 9 p1 M).bind fun r1 => if r1 = 0 then some ((-1), M) else (f_X5_within p2 0 3 M).bind fun r3 => if r3 = 0 then some ((-1), M) else (f_X0_runTub 9 p1 24 M).bind fun r5 => if p2 = 0 then (f_X0_wayOf p1 r5).bind fun r7 => some (r7, r5) else if p2 = 1 then rd (r5 45) 4 p1 fun r10 => some (r10, r5) else if p2 = 2 then rd (r5 44) 4 p1 fun r13 => some (r13, r5) else rd (r5 46) 4 p1 fun r15 => some (r15, r5)
theorem o_X5_fate {E : GE} {Q : Option Value → Mem → Prop} {p1 : Int32} {p2 : Int32} {M : Mem} (h : wp (f_X5_fate p1 p2 M) gIM Q) : Runs E mi_X5_fate [.ref (ad E 0), .int p1, .int p2] M Q := by
  refine Runs.ofEv (by decide +kernel) (Nat.le_of_ble_eq_true rfl) ?_
  show Ev E mi_X5_fate 0 [(0, .ref (ad E 0)), (1, .int p1), (2, .int p2)] [] M Q
  unfold f_X5_fate at h
  refine Ev.aload_n dX5_fate_0 rfl 0 rfl ?_
  refine Ev.get dX5_fate_1 fl_X5_24 rfl (Nat.le_of_ble_eq_true rfl) (v := .ref (ad E 9)) rfl ?_
  refine Ev.iload_n dX5_fate_4 rfl 1 rfl ?_
  obtain ⟨r1, er1, h⟩ := wp_bind h
  refine Ev.callN (k := 9) (as := [.int p1]) (rest := []) dX5_fate_5 cn_X5_124 mok_X2_isTub rfl (Nat.le_of_ble_eq_true rfl) (Nat.le_of_ble_eq_true rfl) ⟨Nat.le_of_ble_eq_true rfl, Nat.le_of_ble_eq_true rfl⟩ (Nat.le_of_ble_eq_true rfl) rfl rfl (o_X2_isTub sea_9 ⟨r1, er1, ?_⟩)
  show Ev E mi_X5_fate 8 [(0, .ref (ad E 0)), (1, .int p1), (2, .int p2)] [.int r1] M Q
  refine Ev.if_eq (tgt := 20) dX5_fate_8 (by decide) (fun c2 => ?_) (fun c2 => ?_)
  · replace h := wp_t c2 h
    refine Ev.iconst (v := (-1)) dX5_fate_20 rfl ?_
    exact Ev.ret dX5_fate_21 rfl rfl (wp_ret h)
  · replace h := wp_f c2 h
    refine Ev.iload_n dX5_fate_11 rfl 2 rfl ?_
    refine Ev.iconst (v := 0) dX5_fate_12 rfl ?_
    refine Ev.iconst (v := 3) dX5_fate_13 rfl ?_
    obtain ⟨r3, er3, h⟩ := wp_bind h
    refine Ev.callS (as := [.int p2, .int 0, .int 3]) (rest := []) dX5_fate_14 cl_X5_75 mos_X5_within ⟨Nat.le_of_ble_eq_true rfl, Nat.le_of_ble_eq_true rfl⟩ (Nat.le_of_ble_eq_true rfl) rfl rfl (o_X5_within ⟨r3, er3, ?_⟩)
    show Ev E mi_X5_fate 17 [(0, .ref (ad E 0)), (1, .int p1), (2, .int p2)] [.int r3] M Q
    refine Ev.if_ne (tgt := 22) dX5_fate_17 (by decide) (fun c4 => ?_) (fun c4 => ?_)
    · replace h := wp_t c4 h
      refine Ev.iconst (v := (-1)) dX5_fate_20 rfl ?_
      exact Ev.ret dX5_fate_21 rfl rfl (wp_ret h)
    · replace h := wp_f c4 h
      refine Ev.aload_n dX5_fate_22 rfl 0 rfl ?_
      refine Ev.get dX5_fate_23 fl_X5_49 rfl (Nat.le_of_ble_eq_true rfl) (v := .ref (ad E 40)) rfl ?_
      refine Ev.aload_n dX5_fate_26 rfl 0 rfl ?_
      refine Ev.get dX5_fate_27 fl_X5_24 rfl (Nat.le_of_ble_eq_true rfl) (v := .ref (ad E 9)) rfl ?_
      refine Ev.iload_n dX5_fate_30 rfl 1 rfl ?_
      refine Ev.bipush (v := 24) dX5_fate_31 rfl ?_
      obtain ⟨r5, er5, h⟩ := wp_bind h
      refine Ev.callN (k := 40) (as := [.ref (ad E 9), .int p1, .int 24]) (rest := []) dX5_fate_33 cn_X5_164 mok_X0_runTub rfl (Nat.le_of_ble_eq_true rfl) (Nat.le_of_ble_eq_true rfl) ⟨Nat.le_of_ble_eq_true rfl, Nat.le_of_ble_eq_true rfl⟩ (Nat.le_of_ble_eq_true rfl) rfl rfl (o_X0_runTub sea_9 ⟨r5, er5, ?_⟩)
      show Ev E mi_X5_fate 36 [(0, .ref (ad E 0)), (1, .int p1), (2, .int p2)] [] r5 Q
      refine Ev.iload_n dX5_fate_36 rfl 2 rfl ?_
      by_cases c6 : p2 = 0
      · replace h := wp_t c6 h
        refine Ev.tsIn (tgt := 64) dX5_fate_37 c6 (by decide) (by decide) rfl (by decide) ?_
        refine Ev.aload_n dX5_fate_64 rfl 0 rfl ?_
        refine Ev.get dX5_fate_65 fl_X5_49 rfl (Nat.le_of_ble_eq_true rfl) (v := .ref (ad E 40)) rfl ?_
        refine Ev.iload_n dX5_fate_68 rfl 1 rfl ?_
        obtain ⟨r7, er7, h⟩ := wp_bind h
        refine Ev.callN (k := 40) (as := [.int p1]) (rest := []) dX5_fate_69 cn_X5_168 mok_X0_wayOf rfl (Nat.le_of_ble_eq_true rfl) (Nat.le_of_ble_eq_true rfl) ⟨Nat.le_of_ble_eq_true rfl, Nat.le_of_ble_eq_true rfl⟩ (Nat.le_of_ble_eq_true rfl) rfl rfl (o_X0_wayOf ⟨r7, er7, ?_⟩)
        show Ev E mi_X5_fate 72 [(0, .ref (ad E 0)), (1, .int p1), (2, .int p2)] [.int r7] r5 Q
        exact Ev.ret dX5_fate_72 rfl rfl (wp_ret h)
      · replace h := wp_f c6 h
        by_cases c8 : p2 = 1
        · replace h := wp_t c8 h
          refine Ev.tsIn (tgt := 73) dX5_fate_37 c8 (by decide) (by decide) rfl (by decide) ?_
          refine Ev.aload_n dX5_fate_73 rfl 0 rfl ?_
          refine Ev.get dX5_fate_74 fl_X5_49 rfl (Nat.le_of_ble_eq_true rfl) (v := .ref (ad E 40)) rfl ?_
          refine Ev.getN dX5_fate_77 nl_X5_172 rfl (Nat.le_of_ble_eq_true rfl) (v := .ref (ad E 45)) rfl ?_
          refine Ev.iload_n dX5_fate_80 rfl 1 rfl ?_
          obtain ⟨g9, h⟩ := wp_rd h
          refine Ev.iald dX5_fate_81 rfl (Nat.le_of_ble_eq_true rfl) rfl g9 ?_
          refine Ev.topi (fun r10 er10 => ?_)
          replace h := h r10 er10
          exact Ev.ret dX5_fate_82 rfl rfl (wp_ret h)
        · replace h := wp_f c8 h
          by_cases c11 : p2 = 2
          · replace h := wp_t c11 h
            refine Ev.tsIn (tgt := 83) dX5_fate_37 c11 (by decide) (by decide) rfl (by decide) ?_
            refine Ev.aload_n dX5_fate_83 rfl 0 rfl ?_
            refine Ev.get dX5_fate_84 fl_X5_49 rfl (Nat.le_of_ble_eq_true rfl) (v := .ref (ad E 40)) rfl ?_
            refine Ev.getN dX5_fate_87 nl_X5_175 rfl (Nat.le_of_ble_eq_true rfl) (v := .ref (ad E 44)) rfl ?_
            refine Ev.iload_n dX5_fate_90 rfl 1 rfl ?_
            obtain ⟨g12, h⟩ := wp_rd h
            refine Ev.iald dX5_fate_91 rfl (Nat.le_of_ble_eq_true rfl) rfl g12 ?_
            refine Ev.topi (fun r13 er13 => ?_)
            replace h := h r13 er13
            exact Ev.ret dX5_fate_92 rfl rfl (wp_ret h)
          · replace h := wp_f c11 h
            refine Ev.tsOut (tgt := 93) dX5_fate_37 (by have qc6 : ¬ (p2).toInt = 0 := fun q => c6 (Int32.toInt_inj.mp q); have qc8 : ¬ (p2).toInt = 1 := fun q => c8 (Int32.toInt_inj.mp q); have qc11 : ¬ (p2).toInt = 2 := fun q => c11 (Int32.toInt_inj.mp q); omega) (by decide) ?_
            refine Ev.aload_n dX5_fate_93 rfl 0 rfl ?_
            refine Ev.get dX5_fate_94 fl_X5_49 rfl (Nat.le_of_ble_eq_true rfl) (v := .ref (ad E 40)) rfl ?_
            refine Ev.getN dX5_fate_97 nl_X5_178 rfl (Nat.le_of_ble_eq_true rfl) (v := .ref (ad E 46)) rfl ?_
            refine Ev.iload_n dX5_fate_100 rfl 1 rfl ?_
            obtain ⟨g14, h⟩ := wp_rd h
            refine Ev.iald dX5_fate_101 rfl (Nat.le_of_ble_eq_true rfl) rfl g14 ?_
            refine Ev.topi (fun r15 er15 => ?_)
            replace h := h r15 er15
            exact Ev.ret dX5_fate_102 rfl rfl (wp_ret h)

noncomputable def f_X5_where (p1 : Int32) (p2 : Int32) (p3 : Int32) (M : Mem) : Option (Int32 × Mem) := (f_X2_isTub 9 p1 M).bind fun r1 => if r1 = 0 then some ((-1), M) else (f_X5_within p2 0 24 M).bind fun r3 => if r3 = 0 then some ((-1), M) else (f_X5_within p3 0 2 M).bind fun r5 => if r5 = 0 then some ((-1), M) else (f_X0_runTub 9 p1 p2 M).bind fun r7 => if p3 = 0 then (f_X0_eastOf p1 r7).bind fun r9 => some (r9, r7) else if p3 = 1 then rd (r7 42) 4 p1 fun r12 => some (r12, r7) else (f_X0_wayOf p1 r7).bind fun r13 => some (r13, r7)
theorem o_X5_where {E : GE} {Q : Option Value → Mem → Prop} {p1 : Int32} {p2 : Int32} {p3 : Int32} {M : Mem} (h : wp (f_X5_where p1 p2 p3 M) gIM Q) : Runs E mi_X5_where [.ref (ad E 0), .int p1, .int p2, .int p3] M Q := by
  refine Runs.ofEv (by decide +kernel) (Nat.le_of_ble_eq_true rfl) ?_
  show Ev E mi_X5_where 0 [(0, .ref (ad E 0)), (1, .int p1), (2, .int p2), (3, .int p3)] [] M Q
  unfold f_X5_where at h
  refine Ev.aload_n dX5_where_0 rfl 0 rfl ?_
  refine Ev.get dX5_where_1 fl_X5_24 rfl (Nat.le_of_ble_eq_true rfl) (v := .ref (ad E 9)) rfl ?_
  refine Ev.iload_n dX5_where_4 rfl 1 rfl ?_
  obtain ⟨r1, er1, h⟩ := wp_bind h
  refine Ev.callN (k := 9) (as := [.int p1]) (rest := []) dX5_where_5 cn_X5_124 mok_X2_isTub rfl (Nat.le_of_ble_eq_true rfl) (Nat.le_of_ble_eq_true rfl) ⟨Nat.le_of_ble_eq_true rfl, Nat.le_of_ble_eq_true rfl⟩ (Nat.le_of_ble_eq_true rfl) rfl rfl (o_X2_isTub sea_9 ⟨r1, er1, ?_⟩)
  show Ev E mi_X5_where 8 [(0, .ref (ad E 0)), (1, .int p1), (2, .int p2), (3, .int p3)] [.int r1] M Q
  refine Ev.if_eq (tgt := 30) dX5_where_8 (by decide) (fun c2 => ?_) (fun c2 => ?_)
  · replace h := wp_t c2 h
    refine Ev.iconst (v := (-1)) dX5_where_30 rfl ?_
    exact Ev.ret dX5_where_31 rfl rfl (wp_ret h)
  · replace h := wp_f c2 h
    refine Ev.iload_n dX5_where_11 rfl 2 rfl ?_
    refine Ev.iconst (v := 0) dX5_where_12 rfl ?_
    refine Ev.bipush (v := 24) dX5_where_13 rfl ?_
    obtain ⟨r3, er3, h⟩ := wp_bind h
    refine Ev.callS (as := [.int p2, .int 0, .int 24]) (rest := []) dX5_where_15 cl_X5_75 mos_X5_within ⟨Nat.le_of_ble_eq_true rfl, Nat.le_of_ble_eq_true rfl⟩ (Nat.le_of_ble_eq_true rfl) rfl rfl (o_X5_within ⟨r3, er3, ?_⟩)
    show Ev E mi_X5_where 18 [(0, .ref (ad E 0)), (1, .int p1), (2, .int p2), (3, .int p3)] [.int r3] M Q
    refine Ev.if_eq (tgt := 30) dX5_where_18 (by decide) (fun c4 => ?_) (fun c4 => ?_)
    · replace h := wp_t c4 h
      refine Ev.iconst (v := (-1)) dX5_where_30 rfl ?_
      exact Ev.ret dX5_where_31 rfl rfl (wp_ret h)
    · replace h := wp_f c4 h
      refine Ev.iload_n dX5_where_21 rfl 3 rfl ?_
      refine Ev.iconst (v := 0) dX5_where_22 rfl ?_
      refine Ev.iconst (v := 2) dX5_where_23 rfl ?_
      obtain ⟨r5, er5, h⟩ := wp_bind h
      refine Ev.callS (as := [.int p3, .int 0, .int 2]) (rest := []) dX5_where_24 cl_X5_75 mos_X5_within ⟨Nat.le_of_ble_eq_true rfl, Nat.le_of_ble_eq_true rfl⟩ (Nat.le_of_ble_eq_true rfl) rfl rfl (o_X5_within ⟨r5, er5, ?_⟩)
      show Ev E mi_X5_where 27 [(0, .ref (ad E 0)), (1, .int p1), (2, .int p2), (3, .int p3)] [.int r5] M Q
      refine Ev.if_ne (tgt := 32) dX5_where_27 (by decide) (fun c6 => ?_) (fun c6 => ?_)
      · replace h := wp_t c6 h
        refine Ev.iconst (v := (-1)) dX5_where_30 rfl ?_
        exact Ev.ret dX5_where_31 rfl rfl (wp_ret h)
      · replace h := wp_f c6 h
        refine Ev.aload_n dX5_where_32 rfl 0 rfl ?_
        refine Ev.get dX5_where_33 fl_X5_49 rfl (Nat.le_of_ble_eq_true rfl) (v := .ref (ad E 40)) rfl ?_
        refine Ev.aload_n dX5_where_36 rfl 0 rfl ?_
        refine Ev.get dX5_where_37 fl_X5_24 rfl (Nat.le_of_ble_eq_true rfl) (v := .ref (ad E 9)) rfl ?_
        refine Ev.iload_n dX5_where_40 rfl 1 rfl ?_
        refine Ev.iload_n dX5_where_41 rfl 2 rfl ?_
        obtain ⟨r7, er7, h⟩ := wp_bind h
        refine Ev.callN (k := 40) (as := [.ref (ad E 9), .int p1, .int p2]) (rest := []) dX5_where_42 cn_X5_164 mok_X0_runTub rfl (Nat.le_of_ble_eq_true rfl) (Nat.le_of_ble_eq_true rfl) ⟨Nat.le_of_ble_eq_true rfl, Nat.le_of_ble_eq_true rfl⟩ (Nat.le_of_ble_eq_true rfl) rfl rfl (o_X0_runTub sea_9 ⟨r7, er7, ?_⟩)
        show Ev E mi_X5_where 45 [(0, .ref (ad E 0)), (1, .int p1), (2, .int p2), (3, .int p3)] [] r7 Q
        refine Ev.iload_n dX5_where_45 rfl 3 rfl ?_
        by_cases c8 : p3 = 0
        · replace h := wp_t c8 h
          refine Ev.lookup (tgt := 72) dX5_where_46 (by decide) (by rw [c8] <;> rfl) (by decide) ?_
          refine Ev.aload_n dX5_where_72 rfl 0 rfl ?_
          refine Ev.get dX5_where_73 fl_X5_49 rfl (Nat.le_of_ble_eq_true rfl) (v := .ref (ad E 40)) rfl ?_
          refine Ev.iload_n dX5_where_76 rfl 1 rfl ?_
          obtain ⟨r9, er9, h⟩ := wp_bind h
          refine Ev.callN (k := 40) (as := [.int p1]) (rest := []) dX5_where_77 cn_X5_181 mok_X0_eastOf rfl (Nat.le_of_ble_eq_true rfl) (Nat.le_of_ble_eq_true rfl) ⟨Nat.le_of_ble_eq_true rfl, Nat.le_of_ble_eq_true rfl⟩ (Nat.le_of_ble_eq_true rfl) rfl rfl (o_X0_eastOf ⟨r9, er9, ?_⟩)
          show Ev E mi_X5_where 80 [(0, .ref (ad E 0)), (1, .int p1), (2, .int p2), (3, .int p3)] [.int r9] r7 Q
          exact Ev.ret dX5_where_80 rfl rfl (wp_ret h)
        · replace h := wp_f c8 h
          by_cases c10 : p3 = 1
          · replace h := wp_t c10 h
            refine Ev.lookup (tgt := 81) dX5_where_46 (by decide) (by rw [c10] <;> rfl) (by decide) ?_
            refine Ev.aload_n dX5_where_81 rfl 0 rfl ?_
            refine Ev.get dX5_where_82 fl_X5_49 rfl (Nat.le_of_ble_eq_true rfl) (v := .ref (ad E 40)) rfl ?_
            refine Ev.getN dX5_where_85 nl_X5_184 rfl (Nat.le_of_ble_eq_true rfl) (v := .ref (ad E 42)) rfl ?_
            refine Ev.iload_n dX5_where_88 rfl 1 rfl ?_
            obtain ⟨g11, h⟩ := wp_rd h
            refine Ev.iald dX5_where_89 rfl (Nat.le_of_ble_eq_true rfl) rfl g11 ?_
            refine Ev.topi (fun r12 er12 => ?_)
            replace h := h r12 er12
            exact Ev.ret dX5_where_90 rfl rfl (wp_ret h)
          · replace h := wp_f c10 h
            refine Ev.lookup (tgt := 91) (off := 45) dX5_where_46 (by decide) ((lv_osw c8 rfl).trans ((lv_osw c10 rfl).trans (rfl))) (by decide) ?_
            refine Ev.aload_n dX5_where_91 rfl 0 rfl ?_
            refine Ev.get dX5_where_92 fl_X5_49 rfl (Nat.le_of_ble_eq_true rfl) (v := .ref (ad E 40)) rfl ?_
            refine Ev.iload_n dX5_where_95 rfl 1 rfl ?_
            obtain ⟨r13, er13, h⟩ := wp_bind h
            refine Ev.callN (k := 40) (as := [.int p1]) (rest := []) dX5_where_96 cn_X5_168 mok_X0_wayOf rfl (Nat.le_of_ble_eq_true rfl) (Nat.le_of_ble_eq_true rfl) ⟨Nat.le_of_ble_eq_true rfl, Nat.le_of_ble_eq_true rfl⟩ (Nat.le_of_ble_eq_true rfl) rfl rfl (o_X0_wayOf ⟨r13, er13, ?_⟩)
            show Ev E mi_X5_where 99 [(0, .ref (ad E 0)), (1, .int p1), (2, .int p2), (3, .int p3)] [.int r13] r7 Q
            exact Ev.ret dX5_where_99 rfl rfl (wp_ret h)

noncomputable def f_X5_has (p1 : Int32) (p2 : Int32) (M : Mem) : Option (Int32 × Mem) := (f_X2_isHeir 9 p1 M).bind fun r1 => if r1 = 0 then some ((-1), M) else (f_X5_within p2 0 1 M).bind fun r3 => if r3 = 0 then some ((-1), M) else (f_X0_run 9 M).bind fun r5 => if p2 = 0 then (f_X0_estatesOf 9 p1 r5).bind fun r7 => some (r7, r5) else (f_X0_tubsOf 9 p1 r5).bind fun r8 => some (r8, r5)
theorem o_X5_has {E : GE} {Q : Option Value → Mem → Prop} {p1 : Int32} {p2 : Int32} {M : Mem} (h : wp (f_X5_has p1 p2 M) gIM Q) : Runs E mi_X5_has [.ref (ad E 0), .int p1, .int p2] M Q := by
  refine Runs.ofEv (by decide +kernel) (Nat.le_of_ble_eq_true rfl) ?_
  show Ev E mi_X5_has 0 [(0, .ref (ad E 0)), (1, .int p1), (2, .int p2)] [] M Q
  unfold f_X5_has at h
  refine Ev.aload_n dX5_has_0 rfl 0 rfl ?_
  refine Ev.get dX5_has_1 fl_X5_24 rfl (Nat.le_of_ble_eq_true rfl) (v := .ref (ad E 9)) rfl ?_
  refine Ev.iload_n dX5_has_4 rfl 1 rfl ?_
  obtain ⟨r1, er1, h⟩ := wp_bind h
  refine Ev.callN (k := 9) (as := [.int p1]) (rest := []) dX5_has_5 cn_X5_134 mok_X2_isHeir rfl (Nat.le_of_ble_eq_true rfl) (Nat.le_of_ble_eq_true rfl) ⟨Nat.le_of_ble_eq_true rfl, Nat.le_of_ble_eq_true rfl⟩ (Nat.le_of_ble_eq_true rfl) rfl rfl (o_X2_isHeir sea_9 ⟨r1, er1, ?_⟩)
  show Ev E mi_X5_has 8 [(0, .ref (ad E 0)), (1, .int p1), (2, .int p2)] [.int r1] M Q
  refine Ev.if_eq (tgt := 20) dX5_has_8 (by decide) (fun c2 => ?_) (fun c2 => ?_)
  · replace h := wp_t c2 h
    refine Ev.iconst (v := (-1)) dX5_has_20 rfl ?_
    exact Ev.ret dX5_has_21 rfl rfl (wp_ret h)
  · replace h := wp_f c2 h
    refine Ev.iload_n dX5_has_11 rfl 2 rfl ?_
    refine Ev.iconst (v := 0) dX5_has_12 rfl ?_
    refine Ev.iconst (v := 1) dX5_has_13 rfl ?_
    obtain ⟨r3, er3, h⟩ := wp_bind h
    refine Ev.callS (as := [.int p2, .int 0, .int 1]) (rest := []) dX5_has_14 cl_X5_75 mos_X5_within ⟨Nat.le_of_ble_eq_true rfl, Nat.le_of_ble_eq_true rfl⟩ (Nat.le_of_ble_eq_true rfl) rfl rfl (o_X5_within ⟨r3, er3, ?_⟩)
    show Ev E mi_X5_has 17 [(0, .ref (ad E 0)), (1, .int p1), (2, .int p2)] [.int r3] M Q
    refine Ev.if_ne (tgt := 22) dX5_has_17 (by decide) (fun c4 => ?_) (fun c4 => ?_)
    · replace h := wp_t c4 h
      refine Ev.iconst (v := (-1)) dX5_has_20 rfl ?_
      exact Ev.ret dX5_has_21 rfl rfl (wp_ret h)
    · replace h := wp_f c4 h
      refine Ev.aload_n dX5_has_22 rfl 0 rfl ?_
      refine Ev.get dX5_has_23 fl_X5_49 rfl (Nat.le_of_ble_eq_true rfl) (v := .ref (ad E 40)) rfl ?_
      refine Ev.aload_n dX5_has_26 rfl 0 rfl ?_
      refine Ev.get dX5_has_27 fl_X5_24 rfl (Nat.le_of_ble_eq_true rfl) (v := .ref (ad E 9)) rfl ?_
      obtain ⟨r5, er5, h⟩ := wp_bind h
      refine Ev.callN (k := 40) (as := [.ref (ad E 9)]) (rest := []) dX5_has_30 cn_X5_187 mok_X0_run rfl (Nat.le_of_ble_eq_true rfl) (Nat.le_of_ble_eq_true rfl) ⟨Nat.le_of_ble_eq_true rfl, Nat.le_of_ble_eq_true rfl⟩ (Nat.le_of_ble_eq_true rfl) rfl rfl (o_X0_run sea_9 ⟨r5, er5, ?_⟩)
      show Ev E mi_X5_has 33 [(0, .ref (ad E 0)), (1, .int p1), (2, .int p2)] [] r5 Q
      refine Ev.iload_n dX5_has_33 rfl 2 rfl ?_
      refine Ev.if_ne (tgt := 52) dX5_has_34 (by decide) (fun c6 => ?_) (fun c6 => ?_)
      · replace h := wp_t c6 h
        refine Ev.aload_n dX5_has_37 rfl 0 rfl ?_
        refine Ev.get dX5_has_38 fl_X5_49 rfl (Nat.le_of_ble_eq_true rfl) (v := .ref (ad E 40)) rfl ?_
        refine Ev.aload_n dX5_has_41 rfl 0 rfl ?_
        refine Ev.get dX5_has_42 fl_X5_24 rfl (Nat.le_of_ble_eq_true rfl) (v := .ref (ad E 9)) rfl ?_
        refine Ev.iload_n dX5_has_45 rfl 1 rfl ?_
        obtain ⟨r7, er7, h⟩ := wp_bind h
        refine Ev.callN (k := 40) (as := [.ref (ad E 9), .int p1]) (rest := []) dX5_has_46 cn_X5_190 mok_X0_estatesOf rfl (Nat.le_of_ble_eq_true rfl) (Nat.le_of_ble_eq_true rfl) ⟨Nat.le_of_ble_eq_true rfl, Nat.le_of_ble_eq_true rfl⟩ (Nat.le_of_ble_eq_true rfl) rfl rfl (o_X0_estatesOf sea_9 ⟨r7, er7, ?_⟩)
        show Ev E mi_X5_has 49 [(0, .ref (ad E 0)), (1, .int p1), (2, .int p2)] [.int r7] r5 Q
        refine Ev.goto (tgt := 64) dX5_has_49 (by decide) ?_
        exact Ev.ret dX5_has_64 rfl rfl (wp_ret h)
      · replace h := wp_f c6 h
        refine Ev.aload_n dX5_has_52 rfl 0 rfl ?_
        refine Ev.get dX5_has_53 fl_X5_49 rfl (Nat.le_of_ble_eq_true rfl) (v := .ref (ad E 40)) rfl ?_
        refine Ev.aload_n dX5_has_56 rfl 0 rfl ?_
        refine Ev.get dX5_has_57 fl_X5_24 rfl (Nat.le_of_ble_eq_true rfl) (v := .ref (ad E 9)) rfl ?_
        refine Ev.iload_n dX5_has_60 rfl 1 rfl ?_
        obtain ⟨r8, er8, h⟩ := wp_bind h
        refine Ev.callN (k := 40) (as := [.ref (ad E 9), .int p1]) (rest := []) dX5_has_61 cn_X5_194 mok_X0_tubsOf rfl (Nat.le_of_ble_eq_true rfl) (Nat.le_of_ble_eq_true rfl) ⟨Nat.le_of_ble_eq_true rfl, Nat.le_of_ble_eq_true rfl⟩ (Nat.le_of_ble_eq_true rfl) rfl rfl (o_X0_tubsOf sea_9 ⟨r8, er8, ?_⟩)
        show Ev E mi_X5_has 64 [(0, .ref (ad E 0)), (1, .int p1), (2, .int p2)] [.int r8] r5 Q
        exact Ev.ret dX5_has_64 rfl rfl (wp_ret h)

noncomputable def f_X5_all (p1 : Int32) (M : Mem) : Option (Int32 × Mem) := (f_X5_within p1 0 4 M).bind fun r1 => if r1 = 0 then some ((-1), M) else (f_X0_run 9 M).bind fun r3 => if p1 = 4 then (f_X0_estatesHooked 9 r3).bind fun r5 => some (r5, r3) else (f_X0_tubsOfWay 9 p1 r3).bind fun r6 => some (r6, r3)
theorem o_X5_all {E : GE} {Q : Option Value → Mem → Prop} {p1 : Int32} {M : Mem} (h : wp (f_X5_all p1 M) gIM Q) : Runs E mi_X5_all [.ref (ad E 0), .int p1] M Q := by
  refine Runs.ofEv (by decide +kernel) (Nat.le_of_ble_eq_true rfl) ?_
  show Ev E mi_X5_all 0 [(0, .ref (ad E 0)), (1, .int p1)] [] M Q
  unfold f_X5_all at h
  refine Ev.iload_n dX5_all_0 rfl 1 rfl ?_
  refine Ev.iconst (v := 0) dX5_all_1 rfl ?_
  refine Ev.iconst (v := 4) dX5_all_2 rfl ?_
  obtain ⟨r1, er1, h⟩ := wp_bind h
  refine Ev.callS (as := [.int p1, .int 0, .int 4]) (rest := []) dX5_all_3 cl_X5_75 mos_X5_within ⟨Nat.le_of_ble_eq_true rfl, Nat.le_of_ble_eq_true rfl⟩ (Nat.le_of_ble_eq_true rfl) rfl rfl (o_X5_within ⟨r1, er1, ?_⟩)
  show Ev E mi_X5_all 6 [(0, .ref (ad E 0)), (1, .int p1)] [.int r1] M Q
  refine Ev.if_ne (tgt := 11) dX5_all_6 (by decide) (fun c2 => ?_) (fun c2 => ?_)
  · replace h := wp_t c2 h
    refine Ev.iconst (v := (-1)) dX5_all_9 rfl ?_
    exact Ev.ret dX5_all_10 rfl rfl (wp_ret h)
  · replace h := wp_f c2 h
    refine Ev.aload_n dX5_all_11 rfl 0 rfl ?_
    refine Ev.get dX5_all_12 fl_X5_49 rfl (Nat.le_of_ble_eq_true rfl) (v := .ref (ad E 40)) rfl ?_
    refine Ev.aload_n dX5_all_15 rfl 0 rfl ?_
    refine Ev.get dX5_all_16 fl_X5_24 rfl (Nat.le_of_ble_eq_true rfl) (v := .ref (ad E 9)) rfl ?_
    obtain ⟨r3, er3, h⟩ := wp_bind h
    refine Ev.callN (k := 40) (as := [.ref (ad E 9)]) (rest := []) dX5_all_19 cn_X5_187 mok_X0_run rfl (Nat.le_of_ble_eq_true rfl) (Nat.le_of_ble_eq_true rfl) ⟨Nat.le_of_ble_eq_true rfl, Nat.le_of_ble_eq_true rfl⟩ (Nat.le_of_ble_eq_true rfl) rfl rfl (o_X0_run sea_9 ⟨r3, er3, ?_⟩)
    show Ev E mi_X5_all 22 [(0, .ref (ad E 0)), (1, .int p1)] [] r3 Q
    refine Ev.iload_n dX5_all_22 rfl 1 rfl ?_
    refine Ev.iconst (v := 4) dX5_all_23 rfl ?_
    refine Ev.icmp_ne (tgt := 41) dX5_all_24 (by decide) (fun c4 => ?_) (fun c4 => ?_)
    · replace h := wp_t c4 h
      refine Ev.aload_n dX5_all_27 rfl 0 rfl ?_
      refine Ev.get dX5_all_28 fl_X5_49 rfl (Nat.le_of_ble_eq_true rfl) (v := .ref (ad E 40)) rfl ?_
      refine Ev.aload_n dX5_all_31 rfl 0 rfl ?_
      refine Ev.get dX5_all_32 fl_X5_24 rfl (Nat.le_of_ble_eq_true rfl) (v := .ref (ad E 9)) rfl ?_
      obtain ⟨r5, er5, h⟩ := wp_bind h
      refine Ev.callN (k := 40) (as := [.ref (ad E 9)]) (rest := []) dX5_all_35 cn_X5_197 mok_X0_estatesHooked rfl (Nat.le_of_ble_eq_true rfl) (Nat.le_of_ble_eq_true rfl) ⟨Nat.le_of_ble_eq_true rfl, Nat.le_of_ble_eq_true rfl⟩ (Nat.le_of_ble_eq_true rfl) rfl rfl (o_X0_estatesHooked sea_9 ⟨r5, er5, ?_⟩)
      show Ev E mi_X5_all 38 [(0, .ref (ad E 0)), (1, .int p1)] [.int r5] r3 Q
      refine Ev.goto (tgt := 53) dX5_all_38 (by decide) ?_
      exact Ev.ret dX5_all_53 rfl rfl (wp_ret h)
    · replace h := wp_f c4 h
      refine Ev.aload_n dX5_all_41 rfl 0 rfl ?_
      refine Ev.get dX5_all_42 fl_X5_49 rfl (Nat.le_of_ble_eq_true rfl) (v := .ref (ad E 40)) rfl ?_
      refine Ev.aload_n dX5_all_45 rfl 0 rfl ?_
      refine Ev.get dX5_all_46 fl_X5_24 rfl (Nat.le_of_ble_eq_true rfl) (v := .ref (ad E 9)) rfl ?_
      refine Ev.iload_n dX5_all_49 rfl 1 rfl ?_
      obtain ⟨r6, er6, h⟩ := wp_bind h
      refine Ev.callN (k := 40) (as := [.ref (ad E 9), .int p1]) (rest := []) dX5_all_50 cn_X5_201 mok_X0_tubsOfWay rfl (Nat.le_of_ble_eq_true rfl) (Nat.le_of_ble_eq_true rfl) ⟨Nat.le_of_ble_eq_true rfl, Nat.le_of_ble_eq_true rfl⟩ (Nat.le_of_ble_eq_true rfl) rfl rfl (o_X0_tubsOfWay sea_9 ⟨r6, er6, ?_⟩)
      show Ev E mi_X5_all 53 [(0, .ref (ad E 0)), (1, .int p1)] [.int r6] r3 Q
      exact Ev.ret dX5_all_53 rfl rfl (wp_ret h)

noncomputable def f_X5_when_37 (p1 : Int32) (p2 : Int32) : Nat → Int32 → Mem → Option (Int32 × Mem)
  | 0, _, _ => none
  | n + 1, x3, M => if 24 ≤ x3 then some ((-4), M) else (f_X2_putTub 14 p1 3 x3 M).bind fun r2 => (f_X0_gives 14 p1 p2 r2).bind fun r3 => if r3.1 = 0 then (f_X5_when_37 p1 p2 n) (x3 + 1) r3.2 else some (x3, r3.2)
theorem o_X5_when_37 {E : GE} {Q : Option Value → Mem → Prop} {p1 : Int32} {p2 : Int32} : ∀ (n : Nat) {x3 : Int32} {M : Mem}, wp (f_X5_when_37 p1 p2 n x3 M) gIM Q → Ev E mi_X5_when 37 [(0, .ref (ad E 0)), (1, .int p1), (2, .int p2), (3, .int x3)] [] M Q := by
  intro n
  induction n with
  | zero => intro _ _ h; exact absurd h wp_none
  | succ n ih =>
    intro x3 M h
    unfold f_X5_when_37 at h
    refine Ev.iload_n dX5_when_37 rfl 3 rfl ?_
    refine Ev.bipush (v := 24) dX5_when_38 rfl ?_
    refine Ev.icmp_ge (tgt := 77) dX5_when_40 (by decide) (fun c1 => ?_) (fun c1 => ?_)
    · replace h := wp_t c1 h
      refine Ev.bipush (v := (-4)) dX5_when_77 rfl ?_
      exact Ev.ret dX5_when_79 rfl rfl (wp_ret h)
    · replace h := wp_f c1 h
      refine Ev.aload_n dX5_when_43 rfl 0 rfl ?_
      refine Ev.get dX5_when_44 fl_X5_28 rfl (Nat.le_of_ble_eq_true rfl) (v := .ref (ad E 14)) rfl ?_
      refine Ev.iload_n dX5_when_47 rfl 1 rfl ?_
      refine Ev.iconst (v := 3) dX5_when_48 rfl ?_
      refine Ev.iload_n dX5_when_49 rfl 3 rfl ?_
      obtain ⟨r2, er2, h⟩ := wp_bind h
      refine Ev.callN (k := 14) (as := [.int p1, .int 3, .int x3]) (rest := []) dX5_when_50 cn_X5_150 mok_X2_putTub rfl (Nat.le_of_ble_eq_true rfl) (Nat.le_of_ble_eq_true rfl) ⟨Nat.le_of_ble_eq_true rfl, Nat.le_of_ble_eq_true rfl⟩ (Nat.le_of_ble_eq_true rfl) rfl rfl (o_X2_putTub sea_14 ⟨r2, er2, ?_⟩)
      show Ev E mi_X5_when 53 [(0, .ref (ad E 0)), (1, .int p1), (2, .int p2), (3, .int x3)] [] r2 Q
      refine Ev.aload_n dX5_when_53 rfl 0 rfl ?_
      refine Ev.get dX5_when_54 fl_X5_49 rfl (Nat.le_of_ble_eq_true rfl) (v := .ref (ad E 40)) rfl ?_
      refine Ev.aload_n dX5_when_57 rfl 0 rfl ?_
      refine Ev.get dX5_when_58 fl_X5_28 rfl (Nat.le_of_ble_eq_true rfl) (v := .ref (ad E 14)) rfl ?_
      refine Ev.iload_n dX5_when_61 rfl 1 rfl ?_
      refine Ev.iload_n dX5_when_62 rfl 2 rfl ?_
      obtain ⟨r3, er3, h⟩ := wp_bind h
      refine Ev.callN (k := 40) (as := [.ref (ad E 14), .int p1, .int p2]) (rest := []) dX5_when_63 cn_X5_204 mok_X0_gives rfl (Nat.le_of_ble_eq_true rfl) (Nat.le_of_ble_eq_true rfl) ⟨Nat.le_of_ble_eq_true rfl, Nat.le_of_ble_eq_true rfl⟩ (Nat.le_of_ble_eq_true rfl) rfl rfl (o_X0_gives sea_14 ⟨r3, er3, ?_⟩)
      show Ev E mi_X5_when 66 [(0, .ref (ad E 0)), (1, .int p1), (2, .int p2), (3, .int x3)] [.int r3.1] r3.2 Q
      refine Ev.if_eq (tgt := 71) dX5_when_66 (by decide) (fun c4 => ?_) (fun c4 => ?_)
      · replace h := wp_t c4 h
        refine Ev.iinc (v := x3 + 1) dX5_when_71 3 rfl rfl (Nat.le_of_ble_eq_true rfl) rfl ?_
        show Ev E mi_X5_when 74 [(3, .int (x3 + 1)), (0, .ref (ad E 0)), (1, .int p1), (2, .int p2)] [] r3.2 Q
        refine Ev.goto (tgt := 37) dX5_when_74 (by decide) ?_
        refine Ev.sub [1, 2, 3, 0] rfl ?_
        exact ih h
      · replace h := wp_f c4 h
        refine Ev.iload_n dX5_when_69 rfl 3 rfl ?_
        exact Ev.ret dX5_when_70 rfl rfl (wp_ret h)
noncomputable def f_X5_when (p1 : Int32) (p2 : Int32) (M : Mem) : Option (Int32 × Mem) := (f_X2_isTub 9 p1 M).bind fun r1 => if r1 = 0 then some ((-1), M) else (f_X2_isHeir 9 p2 M).bind fun r3 => if r3 = 0 then some ((-1), M) else (f_X2_become 14 9 M).bind fun r5 => f_X5_when_37 p1 p2 FU 0 r5
theorem o_X5_when {E : GE} {Q : Option Value → Mem → Prop} {p1 : Int32} {p2 : Int32} {M : Mem} (h : wp (f_X5_when p1 p2 M) gIM Q) : Runs E mi_X5_when [.ref (ad E 0), .int p1, .int p2] M Q := by
  refine Runs.ofEv (by decide +kernel) (Nat.le_of_ble_eq_true rfl) ?_
  show Ev E mi_X5_when 0 [(0, .ref (ad E 0)), (1, .int p1), (2, .int p2)] [] M Q
  unfold f_X5_when at h
  refine Ev.aload_n dX5_when_0 rfl 0 rfl ?_
  refine Ev.get dX5_when_1 fl_X5_24 rfl (Nat.le_of_ble_eq_true rfl) (v := .ref (ad E 9)) rfl ?_
  refine Ev.iload_n dX5_when_4 rfl 1 rfl ?_
  obtain ⟨r1, er1, h⟩ := wp_bind h
  refine Ev.callN (k := 9) (as := [.int p1]) (rest := []) dX5_when_5 cn_X5_124 mok_X2_isTub rfl (Nat.le_of_ble_eq_true rfl) (Nat.le_of_ble_eq_true rfl) ⟨Nat.le_of_ble_eq_true rfl, Nat.le_of_ble_eq_true rfl⟩ (Nat.le_of_ble_eq_true rfl) rfl rfl (o_X2_isTub sea_9 ⟨r1, er1, ?_⟩)
  show Ev E mi_X5_when 8 [(0, .ref (ad E 0)), (1, .int p1), (2, .int p2)] [.int r1] M Q
  refine Ev.if_eq (tgt := 22) dX5_when_8 (by decide) (fun c2 => ?_) (fun c2 => ?_)
  · replace h := wp_t c2 h
    refine Ev.iconst (v := (-1)) dX5_when_22 rfl ?_
    exact Ev.ret dX5_when_23 rfl rfl (wp_ret h)
  · replace h := wp_f c2 h
    refine Ev.aload_n dX5_when_11 rfl 0 rfl ?_
    refine Ev.get dX5_when_12 fl_X5_24 rfl (Nat.le_of_ble_eq_true rfl) (v := .ref (ad E 9)) rfl ?_
    refine Ev.iload_n dX5_when_15 rfl 2 rfl ?_
    obtain ⟨r3, er3, h⟩ := wp_bind h
    refine Ev.callN (k := 9) (as := [.int p2]) (rest := []) dX5_when_16 cn_X5_134 mok_X2_isHeir rfl (Nat.le_of_ble_eq_true rfl) (Nat.le_of_ble_eq_true rfl) ⟨Nat.le_of_ble_eq_true rfl, Nat.le_of_ble_eq_true rfl⟩ (Nat.le_of_ble_eq_true rfl) rfl rfl (o_X2_isHeir sea_9 ⟨r3, er3, ?_⟩)
    show Ev E mi_X5_when 19 [(0, .ref (ad E 0)), (1, .int p1), (2, .int p2)] [.int r3] M Q
    refine Ev.if_ne (tgt := 24) dX5_when_19 (by decide) (fun c4 => ?_) (fun c4 => ?_)
    · replace h := wp_t c4 h
      refine Ev.iconst (v := (-1)) dX5_when_22 rfl ?_
      exact Ev.ret dX5_when_23 rfl rfl (wp_ret h)
    · replace h := wp_f c4 h
      refine Ev.aload_n dX5_when_24 rfl 0 rfl ?_
      refine Ev.get dX5_when_25 fl_X5_28 rfl (Nat.le_of_ble_eq_true rfl) (v := .ref (ad E 14)) rfl ?_
      refine Ev.aload_n dX5_when_28 rfl 0 rfl ?_
      refine Ev.get dX5_when_29 fl_X5_24 rfl (Nat.le_of_ble_eq_true rfl) (v := .ref (ad E 9)) rfl ?_
      obtain ⟨r5, er5, h⟩ := wp_bind h
      refine Ev.callN (k := 14) (as := [.ref (ad E 9)]) (rest := []) dX5_when_32 cn_X5_102 mok_X2_become rfl (Nat.le_of_ble_eq_true rfl) (Nat.le_of_ble_eq_true rfl) ⟨Nat.le_of_ble_eq_true rfl, Nat.le_of_ble_eq_true rfl⟩ (Nat.le_of_ble_eq_true rfl) rfl rfl (o_X2_become sea_14 sea_9 ⟨r5, er5, ?_⟩)
      show Ev E mi_X5_when 35 [(0, .ref (ad E 0)), (1, .int p1), (2, .int p2)] [] r5 Q
      refine Ev.iconst (v := 0) dX5_when_35 rfl ?_
      refine Ev.istore_n dX5_when_36 rfl (Nat.le_of_ble_eq_true rfl) rfl ?_
      show Ev E mi_X5_when 37 [(3, .int 0), (0, .ref (ad E 0)), (1, .int p1), (2, .int p2)] [] r5 Q
      refine Ev.sub [1, 2, 3, 0] rfl ?_
      exact o_X5_when_37 FU h

noncomputable def f_X5_aim_94 (p1 : Int32) (p2 : Int32) (x3 : Int32) (x4 : Int32) (M : Mem) : Option (Int32 × Mem) := some ((10 * x3) + x4, M)
theorem o_X5_aim_94 {E : GE} {Q : Option Value → Mem → Prop} {p1 : Int32} {p2 : Int32} {x3 : Int32} {x4 : Int32} {M : Mem} (h : wp (f_X5_aim_94 p1 p2 x3 x4 M) gIM Q) : Ev E mi_X5_aim 94 [(3, .int x3), (4, .int x4)] [] M Q := by
  unfold f_X5_aim_94 at h
  refine Ev.bipush (v := 10) dX5_aim_94 rfl ?_
  refine Ev.iload_n dX5_aim_96 rfl 0 rfl ?_
  refine Ev.imul dX5_aim_97 ?_
  refine Ev.iload dX5_aim_98 1 rfl ?_
  refine Ev.iadd dX5_aim_100 ?_
  exact Ev.ret dX5_aim_101 rfl rfl (wp_ret h)
noncomputable def f_X5_aim_108 (p1 : Int32) (p2 : Int32) (t41 : Int32 → Mem → Option (Int32 × Mem)) (x3 : Int32) (M : Mem) : Option (Int32 × Mem) := t41 (x3 + 1) M
theorem o_X5_aim_108 {E : GE} {Q : Option Value → Mem → Prop} {p1 : Int32} {p2 : Int32} {t41 : Int32 → Mem → Option (Int32 × Mem)} {x3 : Int32} {M : Mem} (ht41 : ∀ (x3 : Int32) (M : Mem), wp (t41 x3 M) gIM Q → Ev E mi_X5_aim 41 [(0, .ref (ad E 0)), (1, .int p1), (2, .int p2), (3, .int x3)] [] M Q) (h : wp (f_X5_aim_108 p1 p2 t41 x3 M) gIM Q) : Ev E mi_X5_aim 108 [(0, .ref (ad E 0)), (1, .int p1), (2, .int p2), (3, .int x3)] [] M Q := by
  unfold f_X5_aim_108 at h
  refine Ev.iinc (v := x3 + 1) dX5_aim_108 3 rfl rfl (Nat.le_of_ble_eq_true rfl) rfl ?_
  show Ev E mi_X5_aim 111 [(3, .int (x3 + 1)), (0, .ref (ad E 0)), (1, .int p1), (2, .int p2)] [] M Q
  refine Ev.goto (tgt := 41) dX5_aim_111 (by decide) ?_
  refine Ev.sub [1, 2, 3, 0] rfl ?_
  exact ht41 _ _ h
noncomputable def f_X5_aim_57 (p1 : Int32) (p2 : Int32) (t41 : Int32 → Mem → Option (Int32 × Mem)) : Nat → Int32 → Int32 → Mem → Option (Int32 × Mem)
  | 0, _, _, _ => none
  | n + 1, x3, x4, M => rd (tbV 1) 5 2 fun r2 => if r2 < x4 then f_X5_aim_108 p1 p2 t41 x3 M else (f_X2_moveTub 14 p1 x3 x4 M).bind fun r4 => (f_X0_gives 14 p1 p2 r4).bind fun r5 => if r5.1 = 0 then (f_X5_aim_57 p1 p2 t41 n) x3 (x4 + 1) r5.2 else f_X5_aim_94 p1 p2 x3 x4 r5.2
theorem o_X5_aim_57 {E : GE} {Q : Option Value → Mem → Prop} {p1 : Int32} {p2 : Int32} {t41 : Int32 → Mem → Option (Int32 × Mem)} (ht41 : ∀ (x3 : Int32) (M : Mem), wp (t41 x3 M) gIM Q → Ev E mi_X5_aim 41 [(0, .ref (ad E 0)), (1, .int p1), (2, .int p2), (3, .int x3)] [] M Q) : ∀ (n : Nat) {x3 : Int32} {x4 : Int32} {M : Mem}, wp (f_X5_aim_57 p1 p2 t41 n x3 x4 M) gIM Q → Ev E mi_X5_aim 57 [(0, .ref (ad E 0)), (1, .int p1), (2, .int p2), (3, .int x3), (4, .int x4)] [] M Q := by
  intro n
  induction n with
  | zero => intro _ _ _ h; exact absurd h wp_none
  | succ n ih =>
    intro x3 x4 M h
    unfold f_X5_aim_57 at h
    refine Ev.iload dX5_aim_57 4 rfl ?_
    refine Ev.getT dX5_aim_59 sl_X5_211 ?_
    refine Ev.iconst (v := 2) dX5_aim_62 rfl ?_
    obtain ⟨g1, h⟩ := wp_rd h
    refine Ev.tald dX5_aim_63 (Nat.le_of_ble_eq_true rfl) rfl g1 ?_
    refine Ev.topi (fun r2 er2 => ?_)
    replace h := h r2 er2
    refine Ev.icmp_gt (tgt := 108) dX5_aim_64 (by decide) (fun c3 => ?_) (fun c3 => ?_)
    · replace h := wp_t c3 h
      refine Ev.sub [0, 1, 2, 3] rfl ?_
      exact o_X5_aim_108 ht41 h
    · replace h := wp_f c3 h
      refine Ev.aload_n dX5_aim_67 rfl 0 rfl ?_
      refine Ev.get dX5_aim_68 fl_X5_28 rfl (Nat.le_of_ble_eq_true rfl) (v := .ref (ad E 14)) rfl ?_
      refine Ev.iload_n dX5_aim_71 rfl 1 rfl ?_
      refine Ev.iload_n dX5_aim_72 rfl 3 rfl ?_
      refine Ev.iload dX5_aim_73 4 rfl ?_
      obtain ⟨r4, er4, h⟩ := wp_bind h
      refine Ev.callN (k := 14) (as := [.int p1, .int x3, .int x4]) (rest := []) dX5_aim_75 cn_X5_214 mok_X2_moveTub rfl (Nat.le_of_ble_eq_true rfl) (Nat.le_of_ble_eq_true rfl) ⟨Nat.le_of_ble_eq_true rfl, Nat.le_of_ble_eq_true rfl⟩ (Nat.le_of_ble_eq_true rfl) rfl rfl (o_X2_moveTub sea_14 ⟨r4, er4, ?_⟩)
      show Ev E mi_X5_aim 78 [(0, .ref (ad E 0)), (1, .int p1), (2, .int p2), (3, .int x3), (4, .int x4)] [] r4 Q
      refine Ev.aload_n dX5_aim_78 rfl 0 rfl ?_
      refine Ev.get dX5_aim_79 fl_X5_49 rfl (Nat.le_of_ble_eq_true rfl) (v := .ref (ad E 40)) rfl ?_
      refine Ev.aload_n dX5_aim_82 rfl 0 rfl ?_
      refine Ev.get dX5_aim_83 fl_X5_28 rfl (Nat.le_of_ble_eq_true rfl) (v := .ref (ad E 14)) rfl ?_
      refine Ev.iload_n dX5_aim_86 rfl 1 rfl ?_
      refine Ev.iload_n dX5_aim_87 rfl 2 rfl ?_
      obtain ⟨r5, er5, h⟩ := wp_bind h
      refine Ev.callN (k := 40) (as := [.ref (ad E 14), .int p1, .int p2]) (rest := []) dX5_aim_88 cn_X5_204 mok_X0_gives rfl (Nat.le_of_ble_eq_true rfl) (Nat.le_of_ble_eq_true rfl) ⟨Nat.le_of_ble_eq_true rfl, Nat.le_of_ble_eq_true rfl⟩ (Nat.le_of_ble_eq_true rfl) rfl rfl (o_X0_gives sea_14 ⟨r5, er5, ?_⟩)
      show Ev E mi_X5_aim 91 [(0, .ref (ad E 0)), (1, .int p1), (2, .int p2), (3, .int x3), (4, .int x4)] [.int r5.1] r5.2 Q
      refine Ev.if_eq (tgt := 102) dX5_aim_91 (by decide) (fun c6 => ?_) (fun c6 => ?_)
      · replace h := wp_t c6 h
        refine Ev.iinc (v := x4 + 1) dX5_aim_102 4 rfl rfl (Nat.le_of_ble_eq_true rfl) rfl ?_
        show Ev E mi_X5_aim 105 [(4, .int (x4 + 1)), (0, .ref (ad E 0)), (1, .int p1), (2, .int p2), (3, .int x3)] [] r5.2 Q
        refine Ev.goto (tgt := 57) dX5_aim_105 (by decide) ?_
        refine Ev.sub [1, 2, 3, 4, 0] rfl ?_
        exact ih h
      · replace h := wp_f c6 h
        refine Ev.sub [3, 4] rfl ?_
        exact o_X5_aim_94 h
noncomputable def f_X5_aim_41 (p1 : Int32) (p2 : Int32) : Nat → Int32 → Mem → Option (Int32 × Mem)
  | 0, _, _ => none
  | n + 1, x3, M => rd (tbV 1) 5 1 fun r2 => if r2 < x3 then some ((-4), M) else rd (tbV 0) 5 2 fun r5 => f_X5_aim_57 p1 p2 (f_X5_aim_41 p1 p2 n) FU x3 r5 M
theorem o_X5_aim_41 {E : GE} {Q : Option Value → Mem → Prop} {p1 : Int32} {p2 : Int32} : ∀ (n : Nat) {x3 : Int32} {M : Mem}, wp (f_X5_aim_41 p1 p2 n x3 M) gIM Q → Ev E mi_X5_aim 41 [(0, .ref (ad E 0)), (1, .int p1), (2, .int p2), (3, .int x3)] [] M Q := by
  intro n
  induction n with
  | zero => intro _ _ h; exact absurd h wp_none
  | succ n ih =>
    intro x3 M h
    unfold f_X5_aim_41 at h
    refine Ev.iload_n dX5_aim_41 rfl 3 rfl ?_
    refine Ev.getT dX5_aim_42 sl_X5_211 ?_
    refine Ev.iconst (v := 1) dX5_aim_45 rfl ?_
    obtain ⟨g1, h⟩ := wp_rd h
    refine Ev.tald dX5_aim_46 (Nat.le_of_ble_eq_true rfl) rfl g1 ?_
    refine Ev.topi (fun r2 er2 => ?_)
    replace h := h r2 er2
    refine Ev.icmp_gt (tgt := 114) dX5_aim_47 (by decide) (fun c3 => ?_) (fun c3 => ?_)
    · replace h := wp_t c3 h
      refine Ev.bipush (v := (-4)) dX5_aim_114 rfl ?_
      exact Ev.ret dX5_aim_116 rfl rfl (wp_ret h)
    · replace h := wp_f c3 h
      refine Ev.getT dX5_aim_50 sl_X5_208 ?_
      refine Ev.iconst (v := 2) dX5_aim_53 rfl ?_
      obtain ⟨g4, h⟩ := wp_rd h
      refine Ev.tald dX5_aim_54 (Nat.le_of_ble_eq_true rfl) rfl g4 ?_
      refine Ev.topi (fun r5 er5 => ?_)
      replace h := h r5 er5
      refine Ev.istore dX5_aim_55 (Nat.le_of_ble_eq_true rfl) rfl ?_
      show Ev E mi_X5_aim 57 [(4, .int r5), (0, .ref (ad E 0)), (1, .int p1), (2, .int p2), (3, .int x3)] [] M Q
      refine Ev.sub [1, 2, 3, 4, 0] rfl ?_
      exact o_X5_aim_57 (fun _ _ h => ih h) FU h
noncomputable def f_X5_aim (p1 : Int32) (p2 : Int32) (M : Mem) : Option (Int32 × Mem) := (f_X2_isTub 9 p1 M).bind fun r1 => if r1 = 0 then some ((-1), M) else (f_X2_isHeir 9 p2 M).bind fun r3 => if r3 = 0 then some ((-1), M) else (f_X2_become 14 9 M).bind fun r5 => rd (tbV 0) 5 1 fun r7 => f_X5_aim_41 p1 p2 FU r7 r5
theorem o_X5_aim {E : GE} {Q : Option Value → Mem → Prop} {p1 : Int32} {p2 : Int32} {M : Mem} (h : wp (f_X5_aim p1 p2 M) gIM Q) : Runs E mi_X5_aim [.ref (ad E 0), .int p1, .int p2] M Q := by
  refine Runs.ofEv (by decide +kernel) (Nat.le_of_ble_eq_true rfl) ?_
  show Ev E mi_X5_aim 0 [(0, .ref (ad E 0)), (1, .int p1), (2, .int p2)] [] M Q
  unfold f_X5_aim at h
  refine Ev.aload_n dX5_aim_0 rfl 0 rfl ?_
  refine Ev.get dX5_aim_1 fl_X5_24 rfl (Nat.le_of_ble_eq_true rfl) (v := .ref (ad E 9)) rfl ?_
  refine Ev.iload_n dX5_aim_4 rfl 1 rfl ?_
  obtain ⟨r1, er1, h⟩ := wp_bind h
  refine Ev.callN (k := 9) (as := [.int p1]) (rest := []) dX5_aim_5 cn_X5_124 mok_X2_isTub rfl (Nat.le_of_ble_eq_true rfl) (Nat.le_of_ble_eq_true rfl) ⟨Nat.le_of_ble_eq_true rfl, Nat.le_of_ble_eq_true rfl⟩ (Nat.le_of_ble_eq_true rfl) rfl rfl (o_X2_isTub sea_9 ⟨r1, er1, ?_⟩)
  show Ev E mi_X5_aim 8 [(0, .ref (ad E 0)), (1, .int p1), (2, .int p2)] [.int r1] M Q
  refine Ev.if_eq (tgt := 22) dX5_aim_8 (by decide) (fun c2 => ?_) (fun c2 => ?_)
  · replace h := wp_t c2 h
    refine Ev.iconst (v := (-1)) dX5_aim_22 rfl ?_
    exact Ev.ret dX5_aim_23 rfl rfl (wp_ret h)
  · replace h := wp_f c2 h
    refine Ev.aload_n dX5_aim_11 rfl 0 rfl ?_
    refine Ev.get dX5_aim_12 fl_X5_24 rfl (Nat.le_of_ble_eq_true rfl) (v := .ref (ad E 9)) rfl ?_
    refine Ev.iload_n dX5_aim_15 rfl 2 rfl ?_
    obtain ⟨r3, er3, h⟩ := wp_bind h
    refine Ev.callN (k := 9) (as := [.int p2]) (rest := []) dX5_aim_16 cn_X5_134 mok_X2_isHeir rfl (Nat.le_of_ble_eq_true rfl) (Nat.le_of_ble_eq_true rfl) ⟨Nat.le_of_ble_eq_true rfl, Nat.le_of_ble_eq_true rfl⟩ (Nat.le_of_ble_eq_true rfl) rfl rfl (o_X2_isHeir sea_9 ⟨r3, er3, ?_⟩)
    show Ev E mi_X5_aim 19 [(0, .ref (ad E 0)), (1, .int p1), (2, .int p2)] [.int r3] M Q
    refine Ev.if_ne (tgt := 24) dX5_aim_19 (by decide) (fun c4 => ?_) (fun c4 => ?_)
    · replace h := wp_t c4 h
      refine Ev.iconst (v := (-1)) dX5_aim_22 rfl ?_
      exact Ev.ret dX5_aim_23 rfl rfl (wp_ret h)
    · replace h := wp_f c4 h
      refine Ev.aload_n dX5_aim_24 rfl 0 rfl ?_
      refine Ev.get dX5_aim_25 fl_X5_28 rfl (Nat.le_of_ble_eq_true rfl) (v := .ref (ad E 14)) rfl ?_
      refine Ev.aload_n dX5_aim_28 rfl 0 rfl ?_
      refine Ev.get dX5_aim_29 fl_X5_24 rfl (Nat.le_of_ble_eq_true rfl) (v := .ref (ad E 9)) rfl ?_
      obtain ⟨r5, er5, h⟩ := wp_bind h
      refine Ev.callN (k := 14) (as := [.ref (ad E 9)]) (rest := []) dX5_aim_32 cn_X5_102 mok_X2_become rfl (Nat.le_of_ble_eq_true rfl) (Nat.le_of_ble_eq_true rfl) ⟨Nat.le_of_ble_eq_true rfl, Nat.le_of_ble_eq_true rfl⟩ (Nat.le_of_ble_eq_true rfl) rfl rfl (o_X2_become sea_14 sea_9 ⟨r5, er5, ?_⟩)
      show Ev E mi_X5_aim 35 [(0, .ref (ad E 0)), (1, .int p1), (2, .int p2)] [] r5 Q
      refine Ev.getT dX5_aim_35 sl_X5_208 ?_
      refine Ev.iconst (v := 1) dX5_aim_38 rfl ?_
      obtain ⟨g6, h⟩ := wp_rd h
      refine Ev.tald dX5_aim_39 (Nat.le_of_ble_eq_true rfl) rfl g6 ?_
      refine Ev.topi (fun r7 er7 => ?_)
      replace h := h r7 er7
      refine Ev.istore_n dX5_aim_40 rfl (Nat.le_of_ble_eq_true rfl) rfl ?_
      show Ev E mi_X5_aim 41 [(3, .int r7), (0, .ref (ad E 0)), (1, .int p1), (2, .int p2)] [] r5 Q
      refine Ev.sub [1, 2, 3, 0] rfl ?_
      exact o_X5_aim_41 FU h

noncomputable def f_X5_ways_110 (p1 : Int32) (p2 : Int32) (t59 : Int32 → Int32 → Int32 → Mem → Option (Int32 × Mem)) (x3 : Int32) (x4 : Int32) (x5 : Int32) (M : Mem) : Option (Int32 × Mem) := t59 x3 x4 (x5 + 1) M
theorem o_X5_ways_110 {E : GE} {Q : Option Value → Mem → Prop} {p1 : Int32} {p2 : Int32} {t59 : Int32 → Int32 → Int32 → Mem → Option (Int32 × Mem)} {x3 : Int32} {x4 : Int32} {x5 : Int32} {M : Mem} (ht59 : ∀ (x3 : Int32) (x4 : Int32) (x5 : Int32) (M : Mem), wp (t59 x3 x4 x5 M) gIM Q → Ev E mi_X5_ways 59 [(0, .ref (ad E 0)), (1, .int p1), (2, .int p2), (3, .int x3), (4, .int x4), (5, .int x5)] [] M Q) (h : wp (f_X5_ways_110 p1 p2 t59 x3 x4 x5 M) gIM Q) : Ev E mi_X5_ways 110 [(0, .ref (ad E 0)), (1, .int p1), (2, .int p2), (3, .int x3), (4, .int x4), (5, .int x5)] [] M Q := by
  unfold f_X5_ways_110 at h
  refine Ev.iinc (v := x5 + 1) dX5_ways_110 5 rfl rfl (Nat.le_of_ble_eq_true rfl) rfl ?_
  show Ev E mi_X5_ways 113 [(5, .int (x5 + 1)), (0, .ref (ad E 0)), (1, .int p1), (2, .int p2), (3, .int x3), (4, .int x4)] [] M Q
  refine Ev.goto (tgt := 59) dX5_ways_113 (by decide) ?_
  refine Ev.sub [1, 2, 3, 4, 5, 0] rfl ?_
  exact ht59 _ _ _ _ h
noncomputable def f_X5_ways_116 (p1 : Int32) (p2 : Int32) (t42 : Int32 → Int32 → Mem → Option (Int32 × Mem)) (x3 : Int32) (x4 : Int32) (M : Mem) : Option (Int32 × Mem) := t42 x3 (x4 + 1) M
theorem o_X5_ways_116 {E : GE} {Q : Option Value → Mem → Prop} {p1 : Int32} {p2 : Int32} {t42 : Int32 → Int32 → Mem → Option (Int32 × Mem)} {x3 : Int32} {x4 : Int32} {M : Mem} (ht42 : ∀ (x3 : Int32) (x4 : Int32) (M : Mem), wp (t42 x3 x4 M) gIM Q → Ev E mi_X5_ways 42 [(0, .ref (ad E 0)), (1, .int p1), (2, .int p2), (3, .int x3), (4, .int x4)] [] M Q) (h : wp (f_X5_ways_116 p1 p2 t42 x3 x4 M) gIM Q) : Ev E mi_X5_ways 116 [(0, .ref (ad E 0)), (1, .int p1), (2, .int p2), (3, .int x3), (4, .int x4)] [] M Q := by
  unfold f_X5_ways_116 at h
  refine Ev.iinc (v := x4 + 1) dX5_ways_116 4 rfl rfl (Nat.le_of_ble_eq_true rfl) rfl ?_
  show Ev E mi_X5_ways 119 [(4, .int (x4 + 1)), (0, .ref (ad E 0)), (1, .int p1), (2, .int p2), (3, .int x3)] [] M Q
  refine Ev.goto (tgt := 42) dX5_ways_119 (by decide) ?_
  refine Ev.sub [1, 2, 3, 4, 0] rfl ?_
  exact ht42 _ _ _ h
noncomputable def f_X5_ways_59 (p1 : Int32) (p2 : Int32) (t42 : Int32 → Int32 → Mem → Option (Int32 × Mem)) : Nat → Int32 → Int32 → Int32 → Mem → Option (Int32 × Mem)
  | 0, _, _, _, _ => none
  | n + 1, x3, x4, x5, M => rd (tbV 1) 5 2 fun r2 => if r2 < x5 then f_X5_ways_116 p1 p2 t42 x3 x4 M else (f_X2_moveTub 14 p1 x4 x5 M).bind fun r4 => (f_X0_runTub 14 p1 24 r4).bind fun r5 => (f_X0_wayOf p1 r5).bind fun r6 => if r6 = p2 then f_X5_ways_110 p1 p2 (f_X5_ways_59 p1 p2 t42 n) (x3 + 1) x4 x5 r5 else f_X5_ways_110 p1 p2 (f_X5_ways_59 p1 p2 t42 n) x3 x4 x5 r5
theorem o_X5_ways_59 {E : GE} {Q : Option Value → Mem → Prop} {p1 : Int32} {p2 : Int32} {t42 : Int32 → Int32 → Mem → Option (Int32 × Mem)} (ht42 : ∀ (x3 : Int32) (x4 : Int32) (M : Mem), wp (t42 x3 x4 M) gIM Q → Ev E mi_X5_ways 42 [(0, .ref (ad E 0)), (1, .int p1), (2, .int p2), (3, .int x3), (4, .int x4)] [] M Q) : ∀ (n : Nat) {x3 : Int32} {x4 : Int32} {x5 : Int32} {M : Mem}, wp (f_X5_ways_59 p1 p2 t42 n x3 x4 x5 M) gIM Q → Ev E mi_X5_ways 59 [(0, .ref (ad E 0)), (1, .int p1), (2, .int p2), (3, .int x3), (4, .int x4), (5, .int x5)] [] M Q := by
  intro n
  induction n with
  | zero => intro _ _ _ _ h; exact absurd h wp_none
  | succ n ih =>
    intro x3 x4 x5 M h
    unfold f_X5_ways_59 at h
    refine Ev.iload dX5_ways_59 5 rfl ?_
    refine Ev.getT dX5_ways_61 sl_X5_211 ?_
    refine Ev.iconst (v := 2) dX5_ways_64 rfl ?_
    obtain ⟨g1, h⟩ := wp_rd h
    refine Ev.tald dX5_ways_65 (Nat.le_of_ble_eq_true rfl) rfl g1 ?_
    refine Ev.topi (fun r2 er2 => ?_)
    replace h := h r2 er2
    refine Ev.icmp_gt (tgt := 116) dX5_ways_66 (by decide) (fun c3 => ?_) (fun c3 => ?_)
    · replace h := wp_t c3 h
      refine Ev.sub [0, 1, 2, 3, 4] rfl ?_
      exact o_X5_ways_116 ht42 h
    · replace h := wp_f c3 h
      refine Ev.aload_n dX5_ways_69 rfl 0 rfl ?_
      refine Ev.get dX5_ways_70 fl_X5_28 rfl (Nat.le_of_ble_eq_true rfl) (v := .ref (ad E 14)) rfl ?_
      refine Ev.iload_n dX5_ways_73 rfl 1 rfl ?_
      refine Ev.iload dX5_ways_74 4 rfl ?_
      refine Ev.iload dX5_ways_76 5 rfl ?_
      obtain ⟨r4, er4, h⟩ := wp_bind h
      refine Ev.callN (k := 14) (as := [.int p1, .int x4, .int x5]) (rest := []) dX5_ways_78 cn_X5_214 mok_X2_moveTub rfl (Nat.le_of_ble_eq_true rfl) (Nat.le_of_ble_eq_true rfl) ⟨Nat.le_of_ble_eq_true rfl, Nat.le_of_ble_eq_true rfl⟩ (Nat.le_of_ble_eq_true rfl) rfl rfl (o_X2_moveTub sea_14 ⟨r4, er4, ?_⟩)
      show Ev E mi_X5_ways 81 [(0, .ref (ad E 0)), (1, .int p1), (2, .int p2), (3, .int x3), (4, .int x4), (5, .int x5)] [] r4 Q
      refine Ev.aload_n dX5_ways_81 rfl 0 rfl ?_
      refine Ev.get dX5_ways_82 fl_X5_49 rfl (Nat.le_of_ble_eq_true rfl) (v := .ref (ad E 40)) rfl ?_
      refine Ev.aload_n dX5_ways_85 rfl 0 rfl ?_
      refine Ev.get dX5_ways_86 fl_X5_28 rfl (Nat.le_of_ble_eq_true rfl) (v := .ref (ad E 14)) rfl ?_
      refine Ev.iload_n dX5_ways_89 rfl 1 rfl ?_
      refine Ev.bipush (v := 24) dX5_ways_90 rfl ?_
      obtain ⟨r5, er5, h⟩ := wp_bind h
      refine Ev.callN (k := 40) (as := [.ref (ad E 14), .int p1, .int 24]) (rest := []) dX5_ways_92 cn_X5_164 mok_X0_runTub rfl (Nat.le_of_ble_eq_true rfl) (Nat.le_of_ble_eq_true rfl) ⟨Nat.le_of_ble_eq_true rfl, Nat.le_of_ble_eq_true rfl⟩ (Nat.le_of_ble_eq_true rfl) rfl rfl (o_X0_runTub sea_14 ⟨r5, er5, ?_⟩)
      show Ev E mi_X5_ways 95 [(0, .ref (ad E 0)), (1, .int p1), (2, .int p2), (3, .int x3), (4, .int x4), (5, .int x5)] [] r5 Q
      refine Ev.aload_n dX5_ways_95 rfl 0 rfl ?_
      refine Ev.get dX5_ways_96 fl_X5_49 rfl (Nat.le_of_ble_eq_true rfl) (v := .ref (ad E 40)) rfl ?_
      refine Ev.iload_n dX5_ways_99 rfl 1 rfl ?_
      obtain ⟨r6, er6, h⟩ := wp_bind h
      refine Ev.callN (k := 40) (as := [.int p1]) (rest := []) dX5_ways_100 cn_X5_168 mok_X0_wayOf rfl (Nat.le_of_ble_eq_true rfl) (Nat.le_of_ble_eq_true rfl) ⟨Nat.le_of_ble_eq_true rfl, Nat.le_of_ble_eq_true rfl⟩ (Nat.le_of_ble_eq_true rfl) rfl rfl (o_X0_wayOf ⟨r6, er6, ?_⟩)
      show Ev E mi_X5_ways 103 [(0, .ref (ad E 0)), (1, .int p1), (2, .int p2), (3, .int x3), (4, .int x4), (5, .int x5)] [.int r6] r5 Q
      refine Ev.iload_n dX5_ways_103 rfl 2 rfl ?_
      refine Ev.icmp_ne (tgt := 110) dX5_ways_104 (by decide) (fun c7 => ?_) (fun c7 => ?_)
      · replace h := wp_t c7 h
        refine Ev.iinc (v := x3 + 1) dX5_ways_107 3 rfl rfl (Nat.le_of_ble_eq_true rfl) rfl ?_
        show Ev E mi_X5_ways 110 [(3, .int (x3 + 1)), (0, .ref (ad E 0)), (1, .int p1), (2, .int p2), (4, .int x4), (5, .int x5)] [] r5 Q
        refine Ev.sub [1, 2, 3, 0, 4, 5] rfl ?_
        exact o_X5_ways_110 (fun _ _ _ _ h => ih h) h
      · replace h := wp_f c7 h
        exact o_X5_ways_110 (fun _ _ _ _ h => ih h) h
noncomputable def f_X5_ways_42 (p1 : Int32) (p2 : Int32) : Nat → Int32 → Int32 → Mem → Option (Int32 × Mem)
  | 0, _, _, _ => none
  | n + 1, x3, x4, M => rd (tbV 1) 5 1 fun r2 => if r2 < x4 then some (x3, M) else rd (tbV 0) 5 2 fun r5 => f_X5_ways_59 p1 p2 (f_X5_ways_42 p1 p2 n) FU x3 x4 r5 M
theorem o_X5_ways_42 {E : GE} {Q : Option Value → Mem → Prop} {p1 : Int32} {p2 : Int32} : ∀ (n : Nat) {x3 : Int32} {x4 : Int32} {M : Mem}, wp (f_X5_ways_42 p1 p2 n x3 x4 M) gIM Q → Ev E mi_X5_ways 42 [(0, .ref (ad E 0)), (1, .int p1), (2, .int p2), (3, .int x3), (4, .int x4)] [] M Q := by
  intro n
  induction n with
  | zero => intro _ _ _ h; exact absurd h wp_none
  | succ n ih =>
    intro x3 x4 M h
    unfold f_X5_ways_42 at h
    refine Ev.iload dX5_ways_42 4 rfl ?_
    refine Ev.getT dX5_ways_44 sl_X5_211 ?_
    refine Ev.iconst (v := 1) dX5_ways_47 rfl ?_
    obtain ⟨g1, h⟩ := wp_rd h
    refine Ev.tald dX5_ways_48 (Nat.le_of_ble_eq_true rfl) rfl g1 ?_
    refine Ev.topi (fun r2 er2 => ?_)
    replace h := h r2 er2
    refine Ev.icmp_gt (tgt := 122) dX5_ways_49 (by decide) (fun c3 => ?_) (fun c3 => ?_)
    · replace h := wp_t c3 h
      refine Ev.iload_n dX5_ways_122 rfl 3 rfl ?_
      exact Ev.ret dX5_ways_123 rfl rfl (wp_ret h)
    · replace h := wp_f c3 h
      refine Ev.getT dX5_ways_52 sl_X5_208 ?_
      refine Ev.iconst (v := 2) dX5_ways_55 rfl ?_
      obtain ⟨g4, h⟩ := wp_rd h
      refine Ev.tald dX5_ways_56 (Nat.le_of_ble_eq_true rfl) rfl g4 ?_
      refine Ev.topi (fun r5 er5 => ?_)
      replace h := h r5 er5
      refine Ev.istore dX5_ways_57 (Nat.le_of_ble_eq_true rfl) rfl ?_
      show Ev E mi_X5_ways 59 [(5, .int r5), (0, .ref (ad E 0)), (1, .int p1), (2, .int p2), (3, .int x3), (4, .int x4)] [] M Q
      refine Ev.sub [1, 2, 3, 4, 5, 0] rfl ?_
      exact o_X5_ways_59 (fun _ _ _ h => ih h) FU h
noncomputable def f_X5_ways (p1 : Int32) (p2 : Int32) (M : Mem) : Option (Int32 × Mem) := (f_X2_isTub 9 p1 M).bind fun r1 => if r1 = 0 then some ((-1), M) else (f_X5_within p2 0 3 M).bind fun r3 => if r3 = 0 then some ((-1), M) else (f_X2_become 14 9 M).bind fun r5 => rd (tbV 0) 5 1 fun r7 => f_X5_ways_42 p1 p2 FU 0 r7 r5
theorem o_X5_ways {E : GE} {Q : Option Value → Mem → Prop} {p1 : Int32} {p2 : Int32} {M : Mem} (h : wp (f_X5_ways p1 p2 M) gIM Q) : Runs E mi_X5_ways [.ref (ad E 0), .int p1, .int p2] M Q := by
  refine Runs.ofEv (by decide +kernel) (Nat.le_of_ble_eq_true rfl) ?_
  show Ev E mi_X5_ways 0 [(0, .ref (ad E 0)), (1, .int p1), (2, .int p2)] [] M Q
  unfold f_X5_ways at h
  refine Ev.aload_n dX5_ways_0 rfl 0 rfl ?_
  refine Ev.get dX5_ways_1 fl_X5_24 rfl (Nat.le_of_ble_eq_true rfl) (v := .ref (ad E 9)) rfl ?_
  refine Ev.iload_n dX5_ways_4 rfl 1 rfl ?_
  obtain ⟨r1, er1, h⟩ := wp_bind h
  refine Ev.callN (k := 9) (as := [.int p1]) (rest := []) dX5_ways_5 cn_X5_124 mok_X2_isTub rfl (Nat.le_of_ble_eq_true rfl) (Nat.le_of_ble_eq_true rfl) ⟨Nat.le_of_ble_eq_true rfl, Nat.le_of_ble_eq_true rfl⟩ (Nat.le_of_ble_eq_true rfl) rfl rfl (o_X2_isTub sea_9 ⟨r1, er1, ?_⟩)
  show Ev E mi_X5_ways 8 [(0, .ref (ad E 0)), (1, .int p1), (2, .int p2)] [.int r1] M Q
  refine Ev.if_eq (tgt := 20) dX5_ways_8 (by decide) (fun c2 => ?_) (fun c2 => ?_)
  · replace h := wp_t c2 h
    refine Ev.iconst (v := (-1)) dX5_ways_20 rfl ?_
    exact Ev.ret dX5_ways_21 rfl rfl (wp_ret h)
  · replace h := wp_f c2 h
    refine Ev.iload_n dX5_ways_11 rfl 2 rfl ?_
    refine Ev.iconst (v := 0) dX5_ways_12 rfl ?_
    refine Ev.iconst (v := 3) dX5_ways_13 rfl ?_
    obtain ⟨r3, er3, h⟩ := wp_bind h
    refine Ev.callS (as := [.int p2, .int 0, .int 3]) (rest := []) dX5_ways_14 cl_X5_75 mos_X5_within ⟨Nat.le_of_ble_eq_true rfl, Nat.le_of_ble_eq_true rfl⟩ (Nat.le_of_ble_eq_true rfl) rfl rfl (o_X5_within ⟨r3, er3, ?_⟩)
    show Ev E mi_X5_ways 17 [(0, .ref (ad E 0)), (1, .int p1), (2, .int p2)] [.int r3] M Q
    refine Ev.if_ne (tgt := 22) dX5_ways_17 (by decide) (fun c4 => ?_) (fun c4 => ?_)
    · replace h := wp_t c4 h
      refine Ev.iconst (v := (-1)) dX5_ways_20 rfl ?_
      exact Ev.ret dX5_ways_21 rfl rfl (wp_ret h)
    · replace h := wp_f c4 h
      refine Ev.aload_n dX5_ways_22 rfl 0 rfl ?_
      refine Ev.get dX5_ways_23 fl_X5_28 rfl (Nat.le_of_ble_eq_true rfl) (v := .ref (ad E 14)) rfl ?_
      refine Ev.aload_n dX5_ways_26 rfl 0 rfl ?_
      refine Ev.get dX5_ways_27 fl_X5_24 rfl (Nat.le_of_ble_eq_true rfl) (v := .ref (ad E 9)) rfl ?_
      obtain ⟨r5, er5, h⟩ := wp_bind h
      refine Ev.callN (k := 14) (as := [.ref (ad E 9)]) (rest := []) dX5_ways_30 cn_X5_102 mok_X2_become rfl (Nat.le_of_ble_eq_true rfl) (Nat.le_of_ble_eq_true rfl) ⟨Nat.le_of_ble_eq_true rfl, Nat.le_of_ble_eq_true rfl⟩ (Nat.le_of_ble_eq_true rfl) rfl rfl (o_X2_become sea_14 sea_9 ⟨r5, er5, ?_⟩)
      show Ev E mi_X5_ways 33 [(0, .ref (ad E 0)), (1, .int p1), (2, .int p2)] [] r5 Q
      refine Ev.iconst (v := 0) dX5_ways_33 rfl ?_
      refine Ev.istore_n dX5_ways_34 rfl (Nat.le_of_ble_eq_true rfl) rfl ?_
      show Ev E mi_X5_ways 35 [(3, .int 0), (0, .ref (ad E 0)), (1, .int p1), (2, .int p2)] [] r5 Q
      refine Ev.getT dX5_ways_35 sl_X5_208 ?_
      refine Ev.iconst (v := 1) dX5_ways_38 rfl ?_
      obtain ⟨g6, h⟩ := wp_rd h
      refine Ev.tald dX5_ways_39 (Nat.le_of_ble_eq_true rfl) rfl g6 ?_
      refine Ev.topi (fun r7 er7 => ?_)
      replace h := h r7 er7
      refine Ev.istore dX5_ways_40 (Nat.le_of_ble_eq_true rfl) rfl ?_
      show Ev E mi_X5_ways 42 [(4, .int r7), (3, .int 0), (0, .ref (ad E 0)), (1, .int p1), (2, .int p2)] [] r5 Q
      refine Ev.sub [2, 3, 4, 1, 0] rfl ?_
      exact o_X5_ways_42 FU h

noncomputable def f_X5_place_109 (p1 : Int32) (p2 : Int32) (t52 : Int32 → Int32 → Int32 → Mem → Option (Int32 × Mem)) (x3 : Int32) (x4 : Int32) (x5 : Int32) (M : Mem) : Option (Int32 × Mem) := t52 x3 x4 (x5 + 1) M
theorem o_X5_place_109 {E : GE} {Q : Option Value → Mem → Prop} {p1 : Int32} {p2 : Int32} {t52 : Int32 → Int32 → Int32 → Mem → Option (Int32 × Mem)} {x3 : Int32} {x4 : Int32} {x5 : Int32} {M : Mem} (ht52 : ∀ (x3 : Int32) (x4 : Int32) (x5 : Int32) (M : Mem), wp (t52 x3 x4 x5 M) gIM Q → Ev E mi_X5_place 52 [(0, .ref (ad E 0)), (1, .int p1), (2, .int p2), (3, .int x3), (4, .int x4), (5, .int x5)] [] M Q) (h : wp (f_X5_place_109 p1 p2 t52 x3 x4 x5 M) gIM Q) : Ev E mi_X5_place 109 [(0, .ref (ad E 0)), (1, .int p1), (2, .int p2), (3, .int x3), (4, .int x4), (5, .int x5)] [] M Q := by
  unfold f_X5_place_109 at h
  refine Ev.iinc (v := x5 + 1) dX5_place_109 5 rfl rfl (Nat.le_of_ble_eq_true rfl) rfl ?_
  show Ev E mi_X5_place 112 [(5, .int (x5 + 1)), (0, .ref (ad E 0)), (1, .int p1), (2, .int p2), (3, .int x3), (4, .int x4)] [] M Q
  refine Ev.goto (tgt := 52) dX5_place_112 (by decide) ?_
  refine Ev.sub [1, 2, 3, 4, 5, 0] rfl ?_
  exact ht52 _ _ _ _ h
noncomputable def f_X5_place_115 (p1 : Int32) (p2 : Int32) (x3 : Int32) (x4 : Int32) (M : Mem) : Option (Int32 × Mem) := if p2 = 0 then some (x3, M) else some (x4, M)
theorem o_X5_place_115 {E : GE} {Q : Option Value → Mem → Prop} {p1 : Int32} {p2 : Int32} {x3 : Int32} {x4 : Int32} {M : Mem} (h : wp (f_X5_place_115 p1 p2 x3 x4 M) gIM Q) : Ev E mi_X5_place 115 [(2, .int p2), (3, .int x3), (4, .int x4)] [] M Q := by
  unfold f_X5_place_115 at h
  refine Ev.iload_n dX5_place_115 rfl 0 rfl ?_
  refine Ev.if_ne (tgt := 123) dX5_place_116 (by decide) (fun c1 => ?_) (fun c1 => ?_)
  · replace h := wp_t c1 h
    refine Ev.iload_n dX5_place_119 rfl 1 rfl ?_
    refine Ev.goto (tgt := 125) dX5_place_120 (by decide) ?_
    exact Ev.ret dX5_place_125 rfl rfl (wp_ret h)
  · replace h := wp_f c1 h
    refine Ev.iload dX5_place_123 2 rfl ?_
    exact Ev.ret dX5_place_125 rfl rfl (wp_ret h)
noncomputable def f_X5_place_52 (p1 : Int32) (p2 : Int32) : Nat → Int32 → Int32 → Int32 → Mem → Option (Int32 × Mem)
  | 0, _, _, _, _ => none
  | n + 1, x3, x4, x5, M => if 10 ≤ x5 then f_X5_place_115 p1 p2 x3 x4 M else (f_X2_putHeir 14 p1 0 x5 M).bind fun r2 => (f_X0_meet 14 r2).bind fun r3 => (f_X0_estatesOf 14 p1 r3).bind fun r4 => if r4 ≤ x4 then f_X5_place_109 p1 p2 (f_X5_place_52 p1 p2 n) x3 x4 x5 r3 else f_X5_place_109 p1 p2 (f_X5_place_52 p1 p2 n) x5 r4 x5 r3
theorem o_X5_place_52 {E : GE} {Q : Option Value → Mem → Prop} {p1 : Int32} {p2 : Int32} : ∀ (n : Nat) {x3 : Int32} {x4 : Int32} {x5 : Int32} {M : Mem}, wp (f_X5_place_52 p1 p2 n x3 x4 x5 M) gIM Q → Ev E mi_X5_place 52 [(0, .ref (ad E 0)), (1, .int p1), (2, .int p2), (3, .int x3), (4, .int x4), (5, .int x5)] [] M Q := by
  intro n
  induction n with
  | zero => intro _ _ _ _ h; exact absurd h wp_none
  | succ n ih =>
    intro x3 x4 x5 M h
    unfold f_X5_place_52 at h
    refine Ev.iload dX5_place_52 5 rfl ?_
    refine Ev.bipush (v := 10) dX5_place_54 rfl ?_
    refine Ev.icmp_ge (tgt := 115) dX5_place_56 (by decide) (fun c1 => ?_) (fun c1 => ?_)
    · replace h := wp_t c1 h
      refine Ev.sub [2, 3, 4] rfl ?_
      exact o_X5_place_115 h
    · replace h := wp_f c1 h
      refine Ev.aload_n dX5_place_59 rfl 0 rfl ?_
      refine Ev.get dX5_place_60 fl_X5_28 rfl (Nat.le_of_ble_eq_true rfl) (v := .ref (ad E 14)) rfl ?_
      refine Ev.iload_n dX5_place_63 rfl 1 rfl ?_
      refine Ev.iconst (v := 0) dX5_place_64 rfl ?_
      refine Ev.iload dX5_place_65 5 rfl ?_
      obtain ⟨r2, er2, h⟩ := wp_bind h
      refine Ev.callN (k := 14) (as := [.int p1, .int 0, .int x5]) (rest := []) dX5_place_67 cn_X5_157 mok_X2_putHeir rfl (Nat.le_of_ble_eq_true rfl) (Nat.le_of_ble_eq_true rfl) ⟨Nat.le_of_ble_eq_true rfl, Nat.le_of_ble_eq_true rfl⟩ (Nat.le_of_ble_eq_true rfl) rfl rfl (o_X2_putHeir sea_14 ⟨r2, er2, ?_⟩)
      show Ev E mi_X5_place 70 [(0, .ref (ad E 0)), (1, .int p1), (2, .int p2), (3, .int x3), (4, .int x4), (5, .int x5)] [] r2 Q
      refine Ev.aload_n dX5_place_70 rfl 0 rfl ?_
      refine Ev.get dX5_place_71 fl_X5_49 rfl (Nat.le_of_ble_eq_true rfl) (v := .ref (ad E 40)) rfl ?_
      refine Ev.aload_n dX5_place_74 rfl 0 rfl ?_
      refine Ev.get dX5_place_75 fl_X5_28 rfl (Nat.le_of_ble_eq_true rfl) (v := .ref (ad E 14)) rfl ?_
      obtain ⟨r3, er3, h⟩ := wp_bind h
      refine Ev.callN (k := 40) (as := [.ref (ad E 14)]) (rest := []) dX5_place_78 cn_X5_220 mok_X0_meet rfl (Nat.le_of_ble_eq_true rfl) (Nat.le_of_ble_eq_true rfl) ⟨Nat.le_of_ble_eq_true rfl, Nat.le_of_ble_eq_true rfl⟩ (Nat.le_of_ble_eq_true rfl) rfl rfl (o_X0_meet sea_14 ⟨r3, er3, ?_⟩)
      show Ev E mi_X5_place 81 [(0, .ref (ad E 0)), (1, .int p1), (2, .int p2), (3, .int x3), (4, .int x4), (5, .int x5)] [] r3 Q
      refine Ev.aload_n dX5_place_81 rfl 0 rfl ?_
      refine Ev.get dX5_place_82 fl_X5_49 rfl (Nat.le_of_ble_eq_true rfl) (v := .ref (ad E 40)) rfl ?_
      refine Ev.aload_n dX5_place_85 rfl 0 rfl ?_
      refine Ev.get dX5_place_86 fl_X5_28 rfl (Nat.le_of_ble_eq_true rfl) (v := .ref (ad E 14)) rfl ?_
      refine Ev.iload_n dX5_place_89 rfl 1 rfl ?_
      obtain ⟨r4, er4, h⟩ := wp_bind h
      refine Ev.callN (k := 40) (as := [.ref (ad E 14), .int p1]) (rest := []) dX5_place_90 cn_X5_190 mok_X0_estatesOf rfl (Nat.le_of_ble_eq_true rfl) (Nat.le_of_ble_eq_true rfl) ⟨Nat.le_of_ble_eq_true rfl, Nat.le_of_ble_eq_true rfl⟩ (Nat.le_of_ble_eq_true rfl) rfl rfl (o_X0_estatesOf sea_14 ⟨r4, er4, ?_⟩)
      show Ev E mi_X5_place 93 [(0, .ref (ad E 0)), (1, .int p1), (2, .int p2), (3, .int x3), (4, .int x4), (5, .int x5)] [.int r4] r3 Q
      refine Ev.istore dX5_place_93 (Nat.le_of_ble_eq_true rfl) rfl ?_
      show Ev E mi_X5_place 95 [(6, .int r4), (0, .ref (ad E 0)), (1, .int p1), (2, .int p2), (3, .int x3), (4, .int x4), (5, .int x5)] [] r3 Q
      refine Ev.iload dX5_place_95 0 rfl ?_
      refine Ev.iload dX5_place_97 5 rfl ?_
      refine Ev.icmp_le (tgt := 109) dX5_place_99 (by decide) (fun c5 => ?_) (fun c5 => ?_)
      · replace h := wp_t c5 h
        refine Ev.sub [1, 2, 3, 4, 5, 6] rfl ?_
        exact o_X5_place_109 (fun _ _ _ _ h => ih h) h
      · replace h := wp_f c5 h
        refine Ev.iload dX5_place_102 0 rfl ?_
        refine Ev.istore dX5_place_104 (Nat.le_of_ble_eq_true rfl) rfl ?_
        show Ev E mi_X5_place 106 [(4, .int r4), (6, .int r4), (0, .ref (ad E 0)), (1, .int p1), (2, .int p2), (3, .int x3), (5, .int x5)] [] r3 Q
        refine Ev.iload dX5_place_106 6 rfl ?_
        refine Ev.istore_n dX5_place_108 rfl (Nat.le_of_ble_eq_true rfl) rfl ?_
        show Ev E mi_X5_place 109 [(3, .int x5), (4, .int r4), (6, .int r4), (0, .ref (ad E 0)), (1, .int p1), (2, .int p2), (5, .int x5)] [] r3 Q
        refine Ev.sub [3, 4, 5, 0, 1, 6] rfl ?_
        exact o_X5_place_109 (fun _ _ _ _ h => ih h) h
noncomputable def f_X5_place (p1 : Int32) (p2 : Int32) (M : Mem) : Option (Int32 × Mem) := (f_X2_isHeir 9 p1 M).bind fun r1 => if r1 = 0 then some ((-1), M) else (f_X5_within p2 0 1 M).bind fun r3 => if r3 = 0 then some ((-1), M) else (f_X2_become 14 9 M).bind fun r5 => (f_X0_sail 14 r5).bind fun r6 => f_X5_place_52 p1 p2 FU 0 (-1) 0 r6
theorem o_X5_place {E : GE} {Q : Option Value → Mem → Prop} {p1 : Int32} {p2 : Int32} {M : Mem} (h : wp (f_X5_place p1 p2 M) gIM Q) : Runs E mi_X5_place [.ref (ad E 0), .int p1, .int p2] M Q := by
  refine Runs.ofEv (by decide +kernel) (Nat.le_of_ble_eq_true rfl) ?_
  show Ev E mi_X5_place 0 [(0, .ref (ad E 0)), (1, .int p1), (2, .int p2)] [] M Q
  unfold f_X5_place at h
  refine Ev.aload_n dX5_place_0 rfl 0 rfl ?_
  refine Ev.get dX5_place_1 fl_X5_24 rfl (Nat.le_of_ble_eq_true rfl) (v := .ref (ad E 9)) rfl ?_
  refine Ev.iload_n dX5_place_4 rfl 1 rfl ?_
  obtain ⟨r1, er1, h⟩ := wp_bind h
  refine Ev.callN (k := 9) (as := [.int p1]) (rest := []) dX5_place_5 cn_X5_134 mok_X2_isHeir rfl (Nat.le_of_ble_eq_true rfl) (Nat.le_of_ble_eq_true rfl) ⟨Nat.le_of_ble_eq_true rfl, Nat.le_of_ble_eq_true rfl⟩ (Nat.le_of_ble_eq_true rfl) rfl rfl (o_X2_isHeir sea_9 ⟨r1, er1, ?_⟩)
  show Ev E mi_X5_place 8 [(0, .ref (ad E 0)), (1, .int p1), (2, .int p2)] [.int r1] M Q
  refine Ev.if_eq (tgt := 20) dX5_place_8 (by decide) (fun c2 => ?_) (fun c2 => ?_)
  · replace h := wp_t c2 h
    refine Ev.iconst (v := (-1)) dX5_place_20 rfl ?_
    exact Ev.ret dX5_place_21 rfl rfl (wp_ret h)
  · replace h := wp_f c2 h
    refine Ev.iload_n dX5_place_11 rfl 2 rfl ?_
    refine Ev.iconst (v := 0) dX5_place_12 rfl ?_
    refine Ev.iconst (v := 1) dX5_place_13 rfl ?_
    obtain ⟨r3, er3, h⟩ := wp_bind h
    refine Ev.callS (as := [.int p2, .int 0, .int 1]) (rest := []) dX5_place_14 cl_X5_75 mos_X5_within ⟨Nat.le_of_ble_eq_true rfl, Nat.le_of_ble_eq_true rfl⟩ (Nat.le_of_ble_eq_true rfl) rfl rfl (o_X5_within ⟨r3, er3, ?_⟩)
    show Ev E mi_X5_place 17 [(0, .ref (ad E 0)), (1, .int p1), (2, .int p2)] [.int r3] M Q
    refine Ev.if_ne (tgt := 22) dX5_place_17 (by decide) (fun c4 => ?_) (fun c4 => ?_)
    · replace h := wp_t c4 h
      refine Ev.iconst (v := (-1)) dX5_place_20 rfl ?_
      exact Ev.ret dX5_place_21 rfl rfl (wp_ret h)
    · replace h := wp_f c4 h
      refine Ev.aload_n dX5_place_22 rfl 0 rfl ?_
      refine Ev.get dX5_place_23 fl_X5_28 rfl (Nat.le_of_ble_eq_true rfl) (v := .ref (ad E 14)) rfl ?_
      refine Ev.aload_n dX5_place_26 rfl 0 rfl ?_
      refine Ev.get dX5_place_27 fl_X5_24 rfl (Nat.le_of_ble_eq_true rfl) (v := .ref (ad E 9)) rfl ?_
      obtain ⟨r5, er5, h⟩ := wp_bind h
      refine Ev.callN (k := 14) (as := [.ref (ad E 9)]) (rest := []) dX5_place_30 cn_X5_102 mok_X2_become rfl (Nat.le_of_ble_eq_true rfl) (Nat.le_of_ble_eq_true rfl) ⟨Nat.le_of_ble_eq_true rfl, Nat.le_of_ble_eq_true rfl⟩ (Nat.le_of_ble_eq_true rfl) rfl rfl (o_X2_become sea_14 sea_9 ⟨r5, er5, ?_⟩)
      show Ev E mi_X5_place 33 [(0, .ref (ad E 0)), (1, .int p1), (2, .int p2)] [] r5 Q
      refine Ev.aload_n dX5_place_33 rfl 0 rfl ?_
      refine Ev.get dX5_place_34 fl_X5_49 rfl (Nat.le_of_ble_eq_true rfl) (v := .ref (ad E 40)) rfl ?_
      refine Ev.aload_n dX5_place_37 rfl 0 rfl ?_
      refine Ev.get dX5_place_38 fl_X5_28 rfl (Nat.le_of_ble_eq_true rfl) (v := .ref (ad E 14)) rfl ?_
      obtain ⟨r6, er6, h⟩ := wp_bind h
      refine Ev.callN (k := 40) (as := [.ref (ad E 14)]) (rest := []) dX5_place_41 cn_X5_217 mok_X0_sail rfl (Nat.le_of_ble_eq_true rfl) (Nat.le_of_ble_eq_true rfl) ⟨Nat.le_of_ble_eq_true rfl, Nat.le_of_ble_eq_true rfl⟩ (Nat.le_of_ble_eq_true rfl) rfl rfl (o_X0_sail sea_14 ⟨r6, er6, ?_⟩)
      show Ev E mi_X5_place 44 [(0, .ref (ad E 0)), (1, .int p1), (2, .int p2)] [] r6 Q
      refine Ev.iconst (v := 0) dX5_place_44 rfl ?_
      refine Ev.istore_n dX5_place_45 rfl (Nat.le_of_ble_eq_true rfl) rfl ?_
      show Ev E mi_X5_place 46 [(3, .int 0), (0, .ref (ad E 0)), (1, .int p1), (2, .int p2)] [] r6 Q
      refine Ev.iconst (v := (-1)) dX5_place_46 rfl ?_
      refine Ev.istore dX5_place_47 (Nat.le_of_ble_eq_true rfl) rfl ?_
      show Ev E mi_X5_place 49 [(4, .int (-1)), (3, .int 0), (0, .ref (ad E 0)), (1, .int p1), (2, .int p2)] [] r6 Q
      refine Ev.iconst (v := 0) dX5_place_49 rfl ?_
      refine Ev.istore dX5_place_50 (Nat.le_of_ble_eq_true rfl) rfl ?_
      show Ev E mi_X5_place 52 [(5, .int 0), (4, .int (-1)), (3, .int 0), (0, .ref (ad E 0)), (1, .int p1), (2, .int p2)] [] r6 Q
      refine Ev.sub [3, 4, 5, 2, 1, 0] rfl ?_
      exact o_X5_place_52 FU h

noncomputable def f_X5_hook_48 (p1 : Int32) (p2 : Int32) : Nat → Int32 → Mem → Option (Int32 × Mem)
  | 0, _, _ => none
  | n + 1, x3, M => rd (tbV 2) 4 3 fun r2 => if r2 < x3 then some ((-4), M) else (f_X2_putHeir 14 p1 3 x3 M).bind fun r4 => (f_X0_meet 14 r4).bind fun r5 => (f_X0_estatesOf 14 p1 r5).bind fun r6 => if r6 < p2 then (f_X5_hook_48 p1 p2 n) (x3 + 1) r5 else some (x3, r5)
theorem o_X5_hook_48 {E : GE} {Q : Option Value → Mem → Prop} {p1 : Int32} {p2 : Int32} : ∀ (n : Nat) {x3 : Int32} {M : Mem}, wp (f_X5_hook_48 p1 p2 n x3 M) gIM Q → Ev E mi_X5_hook 48 [(0, .ref (ad E 0)), (1, .int p1), (2, .int p2), (3, .int x3)] [] M Q := by
  intro n
  induction n with
  | zero => intro _ _ h; exact absurd h wp_none
  | succ n ih =>
    intro x3 M h
    unfold f_X5_hook_48 at h
    refine Ev.iload_n dX5_hook_48 rfl 3 rfl ?_
    refine Ev.getT dX5_hook_49 sl_X5_223 ?_
    refine Ev.iconst (v := 3) dX5_hook_52 rfl ?_
    obtain ⟨g1, h⟩ := wp_rd h
    refine Ev.tald dX5_hook_53 (Nat.le_of_ble_eq_true rfl) rfl g1 ?_
    refine Ev.topi (fun r2 er2 => ?_)
    replace h := h r2 er2
    refine Ev.icmp_gt (tgt := 102) dX5_hook_54 (by decide) (fun c3 => ?_) (fun c3 => ?_)
    · replace h := wp_t c3 h
      refine Ev.bipush (v := (-4)) dX5_hook_102 rfl ?_
      exact Ev.ret dX5_hook_104 rfl rfl (wp_ret h)
    · replace h := wp_f c3 h
      refine Ev.aload_n dX5_hook_57 rfl 0 rfl ?_
      refine Ev.get dX5_hook_58 fl_X5_28 rfl (Nat.le_of_ble_eq_true rfl) (v := .ref (ad E 14)) rfl ?_
      refine Ev.iload_n dX5_hook_61 rfl 1 rfl ?_
      refine Ev.iconst (v := 3) dX5_hook_62 rfl ?_
      refine Ev.iload_n dX5_hook_63 rfl 3 rfl ?_
      obtain ⟨r4, er4, h⟩ := wp_bind h
      refine Ev.callN (k := 14) (as := [.int p1, .int 3, .int x3]) (rest := []) dX5_hook_64 cn_X5_157 mok_X2_putHeir rfl (Nat.le_of_ble_eq_true rfl) (Nat.le_of_ble_eq_true rfl) ⟨Nat.le_of_ble_eq_true rfl, Nat.le_of_ble_eq_true rfl⟩ (Nat.le_of_ble_eq_true rfl) rfl rfl (o_X2_putHeir sea_14 ⟨r4, er4, ?_⟩)
      show Ev E mi_X5_hook 67 [(0, .ref (ad E 0)), (1, .int p1), (2, .int p2), (3, .int x3)] [] r4 Q
      refine Ev.aload_n dX5_hook_67 rfl 0 rfl ?_
      refine Ev.get dX5_hook_68 fl_X5_49 rfl (Nat.le_of_ble_eq_true rfl) (v := .ref (ad E 40)) rfl ?_
      refine Ev.aload_n dX5_hook_71 rfl 0 rfl ?_
      refine Ev.get dX5_hook_72 fl_X5_28 rfl (Nat.le_of_ble_eq_true rfl) (v := .ref (ad E 14)) rfl ?_
      obtain ⟨r5, er5, h⟩ := wp_bind h
      refine Ev.callN (k := 40) (as := [.ref (ad E 14)]) (rest := []) dX5_hook_75 cn_X5_220 mok_X0_meet rfl (Nat.le_of_ble_eq_true rfl) (Nat.le_of_ble_eq_true rfl) ⟨Nat.le_of_ble_eq_true rfl, Nat.le_of_ble_eq_true rfl⟩ (Nat.le_of_ble_eq_true rfl) rfl rfl (o_X0_meet sea_14 ⟨r5, er5, ?_⟩)
      show Ev E mi_X5_hook 78 [(0, .ref (ad E 0)), (1, .int p1), (2, .int p2), (3, .int x3)] [] r5 Q
      refine Ev.aload_n dX5_hook_78 rfl 0 rfl ?_
      refine Ev.get dX5_hook_79 fl_X5_49 rfl (Nat.le_of_ble_eq_true rfl) (v := .ref (ad E 40)) rfl ?_
      refine Ev.aload_n dX5_hook_82 rfl 0 rfl ?_
      refine Ev.get dX5_hook_83 fl_X5_28 rfl (Nat.le_of_ble_eq_true rfl) (v := .ref (ad E 14)) rfl ?_
      refine Ev.iload_n dX5_hook_86 rfl 1 rfl ?_
      obtain ⟨r6, er6, h⟩ := wp_bind h
      refine Ev.callN (k := 40) (as := [.ref (ad E 14), .int p1]) (rest := []) dX5_hook_87 cn_X5_190 mok_X0_estatesOf rfl (Nat.le_of_ble_eq_true rfl) (Nat.le_of_ble_eq_true rfl) ⟨Nat.le_of_ble_eq_true rfl, Nat.le_of_ble_eq_true rfl⟩ (Nat.le_of_ble_eq_true rfl) rfl rfl (o_X0_estatesOf sea_14 ⟨r6, er6, ?_⟩)
      show Ev E mi_X5_hook 90 [(0, .ref (ad E 0)), (1, .int p1), (2, .int p2), (3, .int x3)] [.int r6] r5 Q
      refine Ev.iload_n dX5_hook_90 rfl 2 rfl ?_
      refine Ev.icmp_lt (tgt := 96) dX5_hook_91 (by decide) (fun c7 => ?_) (fun c7 => ?_)
      · replace h := wp_t c7 h
        refine Ev.iinc (v := x3 + 1) dX5_hook_96 3 rfl rfl (Nat.le_of_ble_eq_true rfl) rfl ?_
        show Ev E mi_X5_hook 99 [(3, .int (x3 + 1)), (0, .ref (ad E 0)), (1, .int p1), (2, .int p2)] [] r5 Q
        refine Ev.goto (tgt := 48) dX5_hook_99 (by decide) ?_
        refine Ev.sub [1, 2, 3, 0] rfl ?_
        exact ih h
      · replace h := wp_f c7 h
        refine Ev.iload_n dX5_hook_94 rfl 3 rfl ?_
        exact Ev.ret dX5_hook_95 rfl rfl (wp_ret h)
noncomputable def f_X5_hook (p1 : Int32) (p2 : Int32) (M : Mem) : Option (Int32 × Mem) := (f_X2_isHeir 9 p1 M).bind fun r1 => if r1 = 0 then some ((-1), M) else (f_X5_within p2 1 400 M).bind fun r3 => if r3 = 0 then some ((-1), M) else (f_X2_become 14 9 M).bind fun r5 => (f_X0_sail 14 r5).bind fun r6 => f_X5_hook_48 p1 p2 FU 0 r6
theorem o_X5_hook {E : GE} {Q : Option Value → Mem → Prop} {p1 : Int32} {p2 : Int32} {M : Mem} (h : wp (f_X5_hook p1 p2 M) gIM Q) : Runs E mi_X5_hook [.ref (ad E 0), .int p1, .int p2] M Q := by
  refine Runs.ofEv (by decide +kernel) (Nat.le_of_ble_eq_true rfl) ?_
  show Ev E mi_X5_hook 0 [(0, .ref (ad E 0)), (1, .int p1), (2, .int p2)] [] M Q
  unfold f_X5_hook at h
  refine Ev.aload_n dX5_hook_0 rfl 0 rfl ?_
  refine Ev.get dX5_hook_1 fl_X5_24 rfl (Nat.le_of_ble_eq_true rfl) (v := .ref (ad E 9)) rfl ?_
  refine Ev.iload_n dX5_hook_4 rfl 1 rfl ?_
  obtain ⟨r1, er1, h⟩ := wp_bind h
  refine Ev.callN (k := 9) (as := [.int p1]) (rest := []) dX5_hook_5 cn_X5_134 mok_X2_isHeir rfl (Nat.le_of_ble_eq_true rfl) (Nat.le_of_ble_eq_true rfl) ⟨Nat.le_of_ble_eq_true rfl, Nat.le_of_ble_eq_true rfl⟩ (Nat.le_of_ble_eq_true rfl) rfl rfl (o_X2_isHeir sea_9 ⟨r1, er1, ?_⟩)
  show Ev E mi_X5_hook 8 [(0, .ref (ad E 0)), (1, .int p1), (2, .int p2)] [.int r1] M Q
  refine Ev.if_eq (tgt := 22) dX5_hook_8 (by decide) (fun c2 => ?_) (fun c2 => ?_)
  · replace h := wp_t c2 h
    refine Ev.iconst (v := (-1)) dX5_hook_22 rfl ?_
    exact Ev.ret dX5_hook_23 rfl rfl (wp_ret h)
  · replace h := wp_f c2 h
    refine Ev.iload_n dX5_hook_11 rfl 2 rfl ?_
    refine Ev.iconst (v := 1) dX5_hook_12 rfl ?_
    refine Ev.sipush (v := 400) dX5_hook_13 rfl ?_
    obtain ⟨r3, er3, h⟩ := wp_bind h
    refine Ev.callS (as := [.int p2, .int 1, .int 400]) (rest := []) dX5_hook_16 cl_X5_75 mos_X5_within ⟨Nat.le_of_ble_eq_true rfl, Nat.le_of_ble_eq_true rfl⟩ (Nat.le_of_ble_eq_true rfl) rfl rfl (o_X5_within ⟨r3, er3, ?_⟩)
    show Ev E mi_X5_hook 19 [(0, .ref (ad E 0)), (1, .int p1), (2, .int p2)] [.int r3] M Q
    refine Ev.if_ne (tgt := 24) dX5_hook_19 (by decide) (fun c4 => ?_) (fun c4 => ?_)
    · replace h := wp_t c4 h
      refine Ev.iconst (v := (-1)) dX5_hook_22 rfl ?_
      exact Ev.ret dX5_hook_23 rfl rfl (wp_ret h)
    · replace h := wp_f c4 h
      refine Ev.aload_n dX5_hook_24 rfl 0 rfl ?_
      refine Ev.get dX5_hook_25 fl_X5_28 rfl (Nat.le_of_ble_eq_true rfl) (v := .ref (ad E 14)) rfl ?_
      refine Ev.aload_n dX5_hook_28 rfl 0 rfl ?_
      refine Ev.get dX5_hook_29 fl_X5_24 rfl (Nat.le_of_ble_eq_true rfl) (v := .ref (ad E 9)) rfl ?_
      obtain ⟨r5, er5, h⟩ := wp_bind h
      refine Ev.callN (k := 14) (as := [.ref (ad E 9)]) (rest := []) dX5_hook_32 cn_X5_102 mok_X2_become rfl (Nat.le_of_ble_eq_true rfl) (Nat.le_of_ble_eq_true rfl) ⟨Nat.le_of_ble_eq_true rfl, Nat.le_of_ble_eq_true rfl⟩ (Nat.le_of_ble_eq_true rfl) rfl rfl (o_X2_become sea_14 sea_9 ⟨r5, er5, ?_⟩)
      show Ev E mi_X5_hook 35 [(0, .ref (ad E 0)), (1, .int p1), (2, .int p2)] [] r5 Q
      refine Ev.aload_n dX5_hook_35 rfl 0 rfl ?_
      refine Ev.get dX5_hook_36 fl_X5_49 rfl (Nat.le_of_ble_eq_true rfl) (v := .ref (ad E 40)) rfl ?_
      refine Ev.aload_n dX5_hook_39 rfl 0 rfl ?_
      refine Ev.get dX5_hook_40 fl_X5_28 rfl (Nat.le_of_ble_eq_true rfl) (v := .ref (ad E 14)) rfl ?_
      obtain ⟨r6, er6, h⟩ := wp_bind h
      refine Ev.callN (k := 40) (as := [.ref (ad E 14)]) (rest := []) dX5_hook_43 cn_X5_217 mok_X0_sail rfl (Nat.le_of_ble_eq_true rfl) (Nat.le_of_ble_eq_true rfl) ⟨Nat.le_of_ble_eq_true rfl, Nat.le_of_ble_eq_true rfl⟩ (Nat.le_of_ble_eq_true rfl) rfl rfl (o_X0_sail sea_14 ⟨r6, er6, ?_⟩)
      show Ev E mi_X5_hook 46 [(0, .ref (ad E 0)), (1, .int p1), (2, .int p2)] [] r6 Q
      refine Ev.iconst (v := 0) dX5_hook_46 rfl ?_
      refine Ev.istore_n dX5_hook_47 rfl (Nat.le_of_ble_eq_true rfl) rfl ?_
      show Ev E mi_X5_hook 48 [(3, .int 0), (0, .ref (ad E 0)), (1, .int p1), (2, .int p2)] [] r6 Q
      refine Ev.sub [1, 2, 3, 0] rfl ?_
      exact o_X5_hook_48 FU h

noncomputable def f_X5_fire_137 (p1 : Int32) (p2 : Int32) (t74 : Int32 → Int32 → Int32 → Int32 → Mem → Option (Int32 × Mem)) (x3 : Int32) (x4 : Int32) (x5 : Int32) (x6 : Int32) (M : Mem) : Option (Int32 × Mem) := t74 x3 x4 x5 (x6 + 1) M
theorem o_X5_fire_137 {E : GE} {Q : Option Value → Mem → Prop} {p1 : Int32} {p2 : Int32} {t74 : Int32 → Int32 → Int32 → Int32 → Mem → Option (Int32 × Mem)} {x3 : Int32} {x4 : Int32} {x5 : Int32} {x6 : Int32} {M : Mem} (ht74 : ∀ (x3 : Int32) (x4 : Int32) (x5 : Int32) (x6 : Int32) (M : Mem), wp (t74 x3 x4 x5 x6 M) gIM Q → Ev E mi_X5_fire 74 [(0, .ref (ad E 0)), (1, .int p1), (2, .int p2), (3, .int x3), (4, .int x4), (5, .int x5), (6, .int x6)] [] M Q) (h : wp (f_X5_fire_137 p1 p2 t74 x3 x4 x5 x6 M) gIM Q) : Ev E mi_X5_fire 137 [(0, .ref (ad E 0)), (1, .int p1), (2, .int p2), (3, .int x3), (4, .int x4), (5, .int x5), (6, .int x6)] [] M Q := by
  unfold f_X5_fire_137 at h
  refine Ev.iinc (v := x6 + 1) dX5_fire_137 6 rfl rfl (Nat.le_of_ble_eq_true rfl) rfl ?_
  show Ev E mi_X5_fire 140 [(6, .int (x6 + 1)), (0, .ref (ad E 0)), (1, .int p1), (2, .int p2), (3, .int x3), (4, .int x4), (5, .int x5)] [] M Q
  refine Ev.goto (tgt := 74) dX5_fire_140 (by decide) ?_
  refine Ev.sub [1, 2, 3, 4, 5, 6, 0] rfl ?_
  exact ht74 _ _ _ _ _ h
noncomputable def f_X5_fire_143 (p1 : Int32) (p2 : Int32) (t64 : Int32 → Int32 → Int32 → Mem → Option (Int32 × Mem)) (x3 : Int32) (x4 : Int32) (x5 : Int32) (M : Mem) : Option (Int32 × Mem) := rd (M 13) 24 x5 fun r2 => inb x5 24 <| lm (up M 18 x5.toNatClampNeg r2) fun M4 => t64 x3 x4 (x5 + 1) M4
theorem o_X5_fire_143 {E : GE} {Q : Option Value → Mem → Prop} {p1 : Int32} {p2 : Int32} {t64 : Int32 → Int32 → Int32 → Mem → Option (Int32 × Mem)} {x3 : Int32} {x4 : Int32} {x5 : Int32} {M : Mem} (ht64 : ∀ (x3 : Int32) (x4 : Int32) (x5 : Int32) (M : Mem), wp (t64 x3 x4 x5 M) gIM Q → Ev E mi_X5_fire 64 [(0, .ref (ad E 0)), (1, .int p1), (2, .int p2), (3, .int x3), (4, .int x4), (5, .int x5)] [] M Q) (h : wp (f_X5_fire_143 p1 p2 t64 x3 x4 x5 M) gIM Q) : Ev E mi_X5_fire 143 [(0, .ref (ad E 0)), (1, .int p1), (2, .int p2), (3, .int x3), (4, .int x4), (5, .int x5)] [] M Q := by
  unfold f_X5_fire_143 at h
  refine Ev.aload_n dX5_fire_143 rfl 0 rfl ?_
  refine Ev.get dX5_fire_144 fl_X5_28 rfl (Nat.le_of_ble_eq_true rfl) (v := .ref (ad E 14)) rfl ?_
  refine Ev.getN dX5_fire_147 nl_X5_143 rfl (Nat.le_of_ble_eq_true rfl) (v := .ref (ad E 18)) rfl ?_
  refine Ev.iload dX5_fire_150 5 rfl ?_
  refine Ev.aload_n dX5_fire_152 rfl 0 rfl ?_
  refine Ev.get dX5_fire_153 fl_X5_24 rfl (Nat.le_of_ble_eq_true rfl) (v := .ref (ad E 9)) rfl ?_
  refine Ev.getN dX5_fire_156 nl_X5_143 rfl (Nat.le_of_ble_eq_true rfl) (v := .ref (ad E 13)) rfl ?_
  refine Ev.iload dX5_fire_159 5 rfl ?_
  obtain ⟨g1, h⟩ := wp_rd h
  refine Ev.iald dX5_fire_161 rfl (Nat.le_of_ble_eq_true rfl) rfl g1 ?_
  refine Ev.topi (fun r2 er2 => ?_)
  replace h := h r2 er2
  obtain ⟨g3, h⟩ := wp_inb h
  refine Ev.iast dX5_fire_162 rfl (Nat.le_of_ble_eq_true rfl) rfl g3 ?_
  refine Ev.topM (fun M4 eM4 => ?_)
  replace h := wp_lm h M4 eM4
  refine Ev.iinc (v := x5 + 1) dX5_fire_163 5 rfl rfl (Nat.le_of_ble_eq_true rfl) rfl ?_
  show Ev E mi_X5_fire 166 [(5, .int (x5 + 1)), (0, .ref (ad E 0)), (1, .int p1), (2, .int p2), (3, .int x3), (4, .int x4)] [] M4 Q
  refine Ev.goto (tgt := 64) dX5_fire_166 (by decide) ?_
  refine Ev.sub [1, 2, 3, 4, 5, 0] rfl ?_
  exact ht64 _ _ _ _ h
noncomputable def f_X5_fire_74 (p1 : Int32) (p2 : Int32) (t64 : Int32 → Int32 → Int32 → Mem → Option (Int32 × Mem)) : Nat → Int32 → Int32 → Int32 → Int32 → Mem → Option (Int32 × Mem)
  | 0, _, _, _, _, _ => none
  | n + 1, x3, x4, x5, x6, M => if 5 ≤ x6 then f_X5_fire_143 p1 p2 t64 x3 x4 x5 M else inb x5 24 <| lm (up M 18 x5.toNatClampNeg x6) fun M3 => (f_X0_run 14 M3).bind fun r4 => (f_X0_estatesOf 14 p1 r4).bind fun r5 => if r5 ≤ x4 then f_X5_fire_137 p1 p2 (f_X5_fire_74 p1 p2 t64 n) x3 x4 x5 x6 r4 else li ((10 * x5) + x6) fun y7 => f_X5_fire_137 p1 p2 (f_X5_fire_74 p1 p2 t64 n) y7 r5 x5 x6 r4
theorem o_X5_fire_74 {E : GE} {Q : Option Value → Mem → Prop} {p1 : Int32} {p2 : Int32} {t64 : Int32 → Int32 → Int32 → Mem → Option (Int32 × Mem)} (ht64 : ∀ (x3 : Int32) (x4 : Int32) (x5 : Int32) (M : Mem), wp (t64 x3 x4 x5 M) gIM Q → Ev E mi_X5_fire 64 [(0, .ref (ad E 0)), (1, .int p1), (2, .int p2), (3, .int x3), (4, .int x4), (5, .int x5)] [] M Q) : ∀ (n : Nat) {x3 : Int32} {x4 : Int32} {x5 : Int32} {x6 : Int32} {M : Mem}, wp (f_X5_fire_74 p1 p2 t64 n x3 x4 x5 x6 M) gIM Q → Ev E mi_X5_fire 74 [(0, .ref (ad E 0)), (1, .int p1), (2, .int p2), (3, .int x3), (4, .int x4), (5, .int x5), (6, .int x6)] [] M Q := by
  intro n
  induction n with
  | zero => intro _ _ _ _ _ h; exact absurd h wp_none
  | succ n ih =>
    intro x3 x4 x5 x6 M h
    unfold f_X5_fire_74 at h
    refine Ev.iload dX5_fire_74 6 rfl ?_
    refine Ev.iconst (v := 5) dX5_fire_76 rfl ?_
    refine Ev.icmp_ge (tgt := 143) dX5_fire_77 (by decide) (fun c1 => ?_) (fun c1 => ?_)
    · replace h := wp_t c1 h
      refine Ev.sub [0, 1, 2, 3, 4, 5] rfl ?_
      exact o_X5_fire_143 ht64 h
    · replace h := wp_f c1 h
      refine Ev.aload_n dX5_fire_80 rfl 0 rfl ?_
      refine Ev.get dX5_fire_81 fl_X5_28 rfl (Nat.le_of_ble_eq_true rfl) (v := .ref (ad E 14)) rfl ?_
      refine Ev.getN dX5_fire_84 nl_X5_143 rfl (Nat.le_of_ble_eq_true rfl) (v := .ref (ad E 18)) rfl ?_
      refine Ev.iload dX5_fire_87 5 rfl ?_
      refine Ev.iload dX5_fire_89 6 rfl ?_
      obtain ⟨g2, h⟩ := wp_inb h
      refine Ev.iast dX5_fire_91 rfl (Nat.le_of_ble_eq_true rfl) rfl g2 ?_
      refine Ev.topM (fun M3 eM3 => ?_)
      replace h := wp_lm h M3 eM3
      refine Ev.aload_n dX5_fire_92 rfl 0 rfl ?_
      refine Ev.get dX5_fire_93 fl_X5_49 rfl (Nat.le_of_ble_eq_true rfl) (v := .ref (ad E 40)) rfl ?_
      refine Ev.aload_n dX5_fire_96 rfl 0 rfl ?_
      refine Ev.get dX5_fire_97 fl_X5_28 rfl (Nat.le_of_ble_eq_true rfl) (v := .ref (ad E 14)) rfl ?_
      obtain ⟨r4, er4, h⟩ := wp_bind h
      refine Ev.callN (k := 40) (as := [.ref (ad E 14)]) (rest := []) dX5_fire_100 cn_X5_187 mok_X0_run rfl (Nat.le_of_ble_eq_true rfl) (Nat.le_of_ble_eq_true rfl) ⟨Nat.le_of_ble_eq_true rfl, Nat.le_of_ble_eq_true rfl⟩ (Nat.le_of_ble_eq_true rfl) rfl rfl (o_X0_run sea_14 ⟨r4, er4, ?_⟩)
      show Ev E mi_X5_fire 103 [(0, .ref (ad E 0)), (1, .int p1), (2, .int p2), (3, .int x3), (4, .int x4), (5, .int x5), (6, .int x6)] [] r4 Q
      refine Ev.aload_n dX5_fire_103 rfl 0 rfl ?_
      refine Ev.get dX5_fire_104 fl_X5_49 rfl (Nat.le_of_ble_eq_true rfl) (v := .ref (ad E 40)) rfl ?_
      refine Ev.aload_n dX5_fire_107 rfl 0 rfl ?_
      refine Ev.get dX5_fire_108 fl_X5_28 rfl (Nat.le_of_ble_eq_true rfl) (v := .ref (ad E 14)) rfl ?_
      refine Ev.iload_n dX5_fire_111 rfl 1 rfl ?_
      obtain ⟨r5, er5, h⟩ := wp_bind h
      refine Ev.callN (k := 40) (as := [.ref (ad E 14), .int p1]) (rest := []) dX5_fire_112 cn_X5_190 mok_X0_estatesOf rfl (Nat.le_of_ble_eq_true rfl) (Nat.le_of_ble_eq_true rfl) ⟨Nat.le_of_ble_eq_true rfl, Nat.le_of_ble_eq_true rfl⟩ (Nat.le_of_ble_eq_true rfl) rfl rfl (o_X0_estatesOf sea_14 ⟨r5, er5, ?_⟩)
      show Ev E mi_X5_fire 115 [(0, .ref (ad E 0)), (1, .int p1), (2, .int p2), (3, .int x3), (4, .int x4), (5, .int x5), (6, .int x6)] [.int r5] r4 Q
      refine Ev.istore dX5_fire_115 (Nat.le_of_ble_eq_true rfl) rfl ?_
      show Ev E mi_X5_fire 117 [(7, .int r5), (0, .ref (ad E 0)), (1, .int p1), (2, .int p2), (3, .int x3), (4, .int x4), (5, .int x5), (6, .int x6)] [] r4 Q
      refine Ev.iload dX5_fire_117 0 rfl ?_
      refine Ev.iload dX5_fire_119 5 rfl ?_
      refine Ev.icmp_le (tgt := 137) dX5_fire_121 (by decide) (fun c6 => ?_) (fun c6 => ?_)
      · replace h := wp_t c6 h
        refine Ev.sub [1, 2, 3, 4, 5, 6, 7] rfl ?_
        exact o_X5_fire_137 (fun _ _ _ _ _ h => ih h) h
      · replace h := wp_f c6 h
        refine Ev.iload dX5_fire_124 0 rfl ?_
        refine Ev.istore dX5_fire_126 (Nat.le_of_ble_eq_true rfl) rfl ?_
        show Ev E mi_X5_fire 128 [(4, .int r5), (7, .int r5), (0, .ref (ad E 0)), (1, .int p1), (2, .int p2), (3, .int x3), (5, .int x5), (6, .int x6)] [] r4 Q
        refine Ev.bipush (v := 10) dX5_fire_128 rfl ?_
        refine Ev.iload dX5_fire_130 6 rfl ?_
        refine Ev.imul dX5_fire_132 ?_
        refine Ev.iload dX5_fire_133 7 rfl ?_
        refine Ev.iadd dX5_fire_135 ?_
        refine Ev.topi (fun y7 ey7 => ?_)
        replace h := wp_li h y7 ey7
        refine Ev.istore_n dX5_fire_136 rfl (Nat.le_of_ble_eq_true rfl) rfl ?_
        show Ev E mi_X5_fire 137 [(3, .int y7), (4, .int r5), (7, .int r5), (0, .ref (ad E 0)), (1, .int p1), (2, .int p2), (5, .int x5), (6, .int x6)] [] r4 Q
        refine Ev.sub [3, 4, 5, 0, 1, 6, 7] rfl ?_
        exact o_X5_fire_137 (fun _ _ _ _ _ h => ih h) h
noncomputable def f_X5_fire_169 (p1 : Int32) (p2 : Int32) (x3 : Int32) (x4 : Int32) (M : Mem) : Option (Int32 × Mem) := if x3 = (-4) then some ((-4), M) else if p2 = 0 then some (x3, M) else some (x4, M)
theorem o_X5_fire_169 {E : GE} {Q : Option Value → Mem → Prop} {p1 : Int32} {p2 : Int32} {x3 : Int32} {x4 : Int32} {M : Mem} (h : wp (f_X5_fire_169 p1 p2 x3 x4 M) gIM Q) : Ev E mi_X5_fire 169 [(2, .int p2), (3, .int x3), (4, .int x4)] [] M Q := by
  unfold f_X5_fire_169 at h
  refine Ev.iload_n dX5_fire_169 rfl 1 rfl ?_
  refine Ev.bipush (v := (-4)) dX5_fire_170 rfl ?_
  refine Ev.icmp_ne (tgt := 178) dX5_fire_172 (by decide) (fun c1 => ?_) (fun c1 => ?_)
  · replace h := wp_t c1 h
    refine Ev.bipush (v := (-4)) dX5_fire_175 rfl ?_
    exact Ev.ret dX5_fire_177 rfl rfl (wp_ret h)
  · replace h := wp_f c1 h
    refine Ev.iload_n dX5_fire_178 rfl 0 rfl ?_
    refine Ev.if_ne (tgt := 186) dX5_fire_179 (by decide) (fun c2 => ?_) (fun c2 => ?_)
    · replace h := wp_t c2 h
      refine Ev.iload_n dX5_fire_182 rfl 1 rfl ?_
      refine Ev.goto (tgt := 188) dX5_fire_183 (by decide) ?_
      exact Ev.ret dX5_fire_188 rfl rfl (wp_ret h)
    · replace h := wp_f c2 h
      refine Ev.iload dX5_fire_186 2 rfl ?_
      exact Ev.ret dX5_fire_188 rfl rfl (wp_ret h)
noncomputable def f_X5_fire_64 (p1 : Int32) (p2 : Int32) : Nat → Int32 → Int32 → Int32 → Mem → Option (Int32 × Mem)
  | 0, _, _, _, _ => none
  | n + 1, x3, x4, x5, M => if 24 ≤ x5 then f_X5_fire_169 p1 p2 x3 x4 M else f_X5_fire_74 p1 p2 (f_X5_fire_64 p1 p2 n) FU x3 x4 x5 1 M
theorem o_X5_fire_64 {E : GE} {Q : Option Value → Mem → Prop} {p1 : Int32} {p2 : Int32} : ∀ (n : Nat) {x3 : Int32} {x4 : Int32} {x5 : Int32} {M : Mem}, wp (f_X5_fire_64 p1 p2 n x3 x4 x5 M) gIM Q → Ev E mi_X5_fire 64 [(0, .ref (ad E 0)), (1, .int p1), (2, .int p2), (3, .int x3), (4, .int x4), (5, .int x5)] [] M Q := by
  intro n
  induction n with
  | zero => intro _ _ _ _ h; exact absurd h wp_none
  | succ n ih =>
    intro x3 x4 x5 M h
    unfold f_X5_fire_64 at h
    refine Ev.iload dX5_fire_64 5 rfl ?_
    refine Ev.bipush (v := 24) dX5_fire_66 rfl ?_
    refine Ev.icmp_ge (tgt := 169) dX5_fire_68 (by decide) (fun c1 => ?_) (fun c1 => ?_)
    · replace h := wp_t c1 h
      refine Ev.sub [2, 3, 4] rfl ?_
      exact o_X5_fire_169 h
    · replace h := wp_f c1 h
      refine Ev.iconst (v := 1) dX5_fire_71 rfl ?_
      refine Ev.istore dX5_fire_72 (Nat.le_of_ble_eq_true rfl) rfl ?_
      show Ev E mi_X5_fire 74 [(6, .int 1), (0, .ref (ad E 0)), (1, .int p1), (2, .int p2), (3, .int x3), (4, .int x4), (5, .int x5)] [] M Q
      refine Ev.sub [1, 2, 3, 4, 5, 6, 0] rfl ?_
      exact o_X5_fire_74 (fun _ _ _ _ h => ih h) FU h
noncomputable def f_X5_fire (p1 : Int32) (p2 : Int32) (M : Mem) : Option (Int32 × Mem) := (f_X2_isHeir 9 p1 M).bind fun r1 => if r1 = 0 then some ((-1), M) else (f_X5_within p2 0 1 M).bind fun r3 => if r3 = 0 then some ((-1), M) else (f_X2_become 14 9 M).bind fun r5 => (f_X0_run 14 r5).bind fun r6 => (f_X0_estatesOf 14 p1 r6).bind fun r7 => f_X5_fire_64 p1 p2 FU (-4) r7 0 r6
theorem o_X5_fire {E : GE} {Q : Option Value → Mem → Prop} {p1 : Int32} {p2 : Int32} {M : Mem} (h : wp (f_X5_fire p1 p2 M) gIM Q) : Runs E mi_X5_fire [.ref (ad E 0), .int p1, .int p2] M Q := by
  refine Runs.ofEv (by decide +kernel) (Nat.le_of_ble_eq_true rfl) ?_
  show Ev E mi_X5_fire 0 [(0, .ref (ad E 0)), (1, .int p1), (2, .int p2)] [] M Q
  unfold f_X5_fire at h
  refine Ev.aload_n dX5_fire_0 rfl 0 rfl ?_
  refine Ev.get dX5_fire_1 fl_X5_24 rfl (Nat.le_of_ble_eq_true rfl) (v := .ref (ad E 9)) rfl ?_
  refine Ev.iload_n dX5_fire_4 rfl 1 rfl ?_
  obtain ⟨r1, er1, h⟩ := wp_bind h
  refine Ev.callN (k := 9) (as := [.int p1]) (rest := []) dX5_fire_5 cn_X5_134 mok_X2_isHeir rfl (Nat.le_of_ble_eq_true rfl) (Nat.le_of_ble_eq_true rfl) ⟨Nat.le_of_ble_eq_true rfl, Nat.le_of_ble_eq_true rfl⟩ (Nat.le_of_ble_eq_true rfl) rfl rfl (o_X2_isHeir sea_9 ⟨r1, er1, ?_⟩)
  show Ev E mi_X5_fire 8 [(0, .ref (ad E 0)), (1, .int p1), (2, .int p2)] [.int r1] M Q
  refine Ev.if_eq (tgt := 20) dX5_fire_8 (by decide) (fun c2 => ?_) (fun c2 => ?_)
  · replace h := wp_t c2 h
    refine Ev.iconst (v := (-1)) dX5_fire_20 rfl ?_
    exact Ev.ret dX5_fire_21 rfl rfl (wp_ret h)
  · replace h := wp_f c2 h
    refine Ev.iload_n dX5_fire_11 rfl 2 rfl ?_
    refine Ev.iconst (v := 0) dX5_fire_12 rfl ?_
    refine Ev.iconst (v := 1) dX5_fire_13 rfl ?_
    obtain ⟨r3, er3, h⟩ := wp_bind h
    refine Ev.callS (as := [.int p2, .int 0, .int 1]) (rest := []) dX5_fire_14 cl_X5_75 mos_X5_within ⟨Nat.le_of_ble_eq_true rfl, Nat.le_of_ble_eq_true rfl⟩ (Nat.le_of_ble_eq_true rfl) rfl rfl (o_X5_within ⟨r3, er3, ?_⟩)
    show Ev E mi_X5_fire 17 [(0, .ref (ad E 0)), (1, .int p1), (2, .int p2)] [.int r3] M Q
    refine Ev.if_ne (tgt := 22) dX5_fire_17 (by decide) (fun c4 => ?_) (fun c4 => ?_)
    · replace h := wp_t c4 h
      refine Ev.iconst (v := (-1)) dX5_fire_20 rfl ?_
      exact Ev.ret dX5_fire_21 rfl rfl (wp_ret h)
    · replace h := wp_f c4 h
      refine Ev.aload_n dX5_fire_22 rfl 0 rfl ?_
      refine Ev.get dX5_fire_23 fl_X5_28 rfl (Nat.le_of_ble_eq_true rfl) (v := .ref (ad E 14)) rfl ?_
      refine Ev.aload_n dX5_fire_26 rfl 0 rfl ?_
      refine Ev.get dX5_fire_27 fl_X5_24 rfl (Nat.le_of_ble_eq_true rfl) (v := .ref (ad E 9)) rfl ?_
      obtain ⟨r5, er5, h⟩ := wp_bind h
      refine Ev.callN (k := 14) (as := [.ref (ad E 9)]) (rest := []) dX5_fire_30 cn_X5_102 mok_X2_become rfl (Nat.le_of_ble_eq_true rfl) (Nat.le_of_ble_eq_true rfl) ⟨Nat.le_of_ble_eq_true rfl, Nat.le_of_ble_eq_true rfl⟩ (Nat.le_of_ble_eq_true rfl) rfl rfl (o_X2_become sea_14 sea_9 ⟨r5, er5, ?_⟩)
      show Ev E mi_X5_fire 33 [(0, .ref (ad E 0)), (1, .int p1), (2, .int p2)] [] r5 Q
      refine Ev.aload_n dX5_fire_33 rfl 0 rfl ?_
      refine Ev.get dX5_fire_34 fl_X5_49 rfl (Nat.le_of_ble_eq_true rfl) (v := .ref (ad E 40)) rfl ?_
      refine Ev.aload_n dX5_fire_37 rfl 0 rfl ?_
      refine Ev.get dX5_fire_38 fl_X5_28 rfl (Nat.le_of_ble_eq_true rfl) (v := .ref (ad E 14)) rfl ?_
      obtain ⟨r6, er6, h⟩ := wp_bind h
      refine Ev.callN (k := 40) (as := [.ref (ad E 14)]) (rest := []) dX5_fire_41 cn_X5_187 mok_X0_run rfl (Nat.le_of_ble_eq_true rfl) (Nat.le_of_ble_eq_true rfl) ⟨Nat.le_of_ble_eq_true rfl, Nat.le_of_ble_eq_true rfl⟩ (Nat.le_of_ble_eq_true rfl) rfl rfl (o_X0_run sea_14 ⟨r6, er6, ?_⟩)
      show Ev E mi_X5_fire 44 [(0, .ref (ad E 0)), (1, .int p1), (2, .int p2)] [] r6 Q
      refine Ev.bipush (v := (-4)) dX5_fire_44 rfl ?_
      refine Ev.istore_n dX5_fire_46 rfl (Nat.le_of_ble_eq_true rfl) rfl ?_
      show Ev E mi_X5_fire 47 [(3, .int (-4)), (0, .ref (ad E 0)), (1, .int p1), (2, .int p2)] [] r6 Q
      refine Ev.aload_n dX5_fire_47 rfl 1 rfl ?_
      refine Ev.get dX5_fire_48 fl_X5_49 rfl (Nat.le_of_ble_eq_true rfl) (v := .ref (ad E 40)) rfl ?_
      refine Ev.aload_n dX5_fire_51 rfl 1 rfl ?_
      refine Ev.get dX5_fire_52 fl_X5_28 rfl (Nat.le_of_ble_eq_true rfl) (v := .ref (ad E 14)) rfl ?_
      refine Ev.iload_n dX5_fire_55 rfl 2 rfl ?_
      obtain ⟨r7, er7, h⟩ := wp_bind h
      refine Ev.callN (k := 40) (as := [.ref (ad E 14), .int p1]) (rest := []) dX5_fire_56 cn_X5_190 mok_X0_estatesOf rfl (Nat.le_of_ble_eq_true rfl) (Nat.le_of_ble_eq_true rfl) ⟨Nat.le_of_ble_eq_true rfl, Nat.le_of_ble_eq_true rfl⟩ (Nat.le_of_ble_eq_true rfl) rfl rfl (o_X0_estatesOf sea_14 ⟨r7, er7, ?_⟩)
      show Ev E mi_X5_fire 59 [(3, .int (-4)), (0, .ref (ad E 0)), (1, .int p1), (2, .int p2)] [.int r7] r6 Q
      refine Ev.istore dX5_fire_59 (Nat.le_of_ble_eq_true rfl) rfl ?_
      show Ev E mi_X5_fire 61 [(4, .int r7), (3, .int (-4)), (0, .ref (ad E 0)), (1, .int p1), (2, .int p2)] [] r6 Q
      refine Ev.iconst (v := 0) dX5_fire_61 rfl ?_
      refine Ev.istore dX5_fire_62 (Nat.le_of_ble_eq_true rfl) rfl ?_
      show Ev E mi_X5_fire 64 [(5, .int 0), (4, .int r7), (3, .int (-4)), (0, .ref (ad E 0)), (1, .int p1), (2, .int p2)] [] r6 Q
      refine Ev.sub [3, 4, 5, 2, 1, 0] rfl ?_
      exact o_X5_fire_64 FU h

noncomputable def f_X5_moon_81 (p1 : Int32) (t29 : Int32 → Int32 → Int32 → Mem → Option (Int32 × Mem)) (x2 : Int32) (x3 : Int32) (x4 : Int32) (M : Mem) : Option (Int32 × Mem) := t29 x2 x3 (x4 + 1) M
theorem o_X5_moon_81 {E : GE} {Q : Option Value → Mem → Prop} {p1 : Int32} {t29 : Int32 → Int32 → Int32 → Mem → Option (Int32 × Mem)} {x2 : Int32} {x3 : Int32} {x4 : Int32} {M : Mem} (ht29 : ∀ (x2 : Int32) (x3 : Int32) (x4 : Int32) (M : Mem), wp (t29 x2 x3 x4 M) gIM Q → Ev E mi_X5_moon 29 [(0, .ref (ad E 0)), (1, .int p1), (2, .int x2), (3, .int x3), (4, .int x4)] [] M Q) (h : wp (f_X5_moon_81 p1 t29 x2 x3 x4 M) gIM Q) : Ev E mi_X5_moon 81 [(0, .ref (ad E 0)), (1, .int p1), (2, .int x2), (3, .int x3), (4, .int x4)] [] M Q := by
  unfold f_X5_moon_81 at h
  refine Ev.iinc (v := x4 + 1) dX5_moon_81 4 rfl rfl (Nat.le_of_ble_eq_true rfl) rfl ?_
  show Ev E mi_X5_moon 84 [(4, .int (x4 + 1)), (0, .ref (ad E 0)), (1, .int p1), (2, .int x2), (3, .int x3)] [] M Q
  refine Ev.goto (tgt := 29) dX5_moon_84 (by decide) ?_
  refine Ev.sub [1, 2, 3, 4, 0] rfl ?_
  exact ht29 _ _ _ _ h
noncomputable def f_X5_moon_87 (p1 : Int32) (x2 : Int32) (x3 : Int32) (M : Mem) : Option (Int32 × Mem) := if p1 = 0 then some (x2, M) else some (x3, M)
theorem o_X5_moon_87 {E : GE} {Q : Option Value → Mem → Prop} {p1 : Int32} {x2 : Int32} {x3 : Int32} {M : Mem} (h : wp (f_X5_moon_87 p1 x2 x3 M) gIM Q) : Ev E mi_X5_moon 87 [(1, .int p1), (2, .int x2), (3, .int x3)] [] M Q := by
  unfold f_X5_moon_87 at h
  refine Ev.iload_n dX5_moon_87 rfl 0 rfl ?_
  refine Ev.if_ne (tgt := 95) dX5_moon_88 (by decide) (fun c1 => ?_) (fun c1 => ?_)
  · replace h := wp_t c1 h
    refine Ev.iload_n dX5_moon_91 rfl 1 rfl ?_
    refine Ev.goto (tgt := 96) dX5_moon_92 (by decide) ?_
    exact Ev.ret dX5_moon_96 rfl rfl (wp_ret h)
  · replace h := wp_f c1 h
    refine Ev.iload_n dX5_moon_95 rfl 2 rfl ?_
    exact Ev.ret dX5_moon_96 rfl rfl (wp_ret h)
noncomputable def f_X5_moon_29 (p1 : Int32) : Nat → Int32 → Int32 → Int32 → Mem → Option (Int32 × Mem)
  | 0, _, _, _, _ => none
  | n + 1, x2, x3, x4, M => if 6 ≤ x4 then f_X5_moon_87 p1 x2 x3 M else lm (up M 14 6 x4) fun M2 => (f_X0_run 14 M2).bind fun r3 => (f_X0_estatesHooked 14 r3).bind fun r4 => if r4 ≤ x3 then f_X5_moon_81 p1 (f_X5_moon_29 p1 n) x2 x3 x4 r3 else f_X5_moon_81 p1 (f_X5_moon_29 p1 n) x4 r4 x4 r3
theorem o_X5_moon_29 {E : GE} {Q : Option Value → Mem → Prop} {p1 : Int32} : ∀ (n : Nat) {x2 : Int32} {x3 : Int32} {x4 : Int32} {M : Mem}, wp (f_X5_moon_29 p1 n x2 x3 x4 M) gIM Q → Ev E mi_X5_moon 29 [(0, .ref (ad E 0)), (1, .int p1), (2, .int x2), (3, .int x3), (4, .int x4)] [] M Q := by
  intro n
  induction n with
  | zero => intro _ _ _ _ h; exact absurd h wp_none
  | succ n ih =>
    intro x2 x3 x4 M h
    unfold f_X5_moon_29 at h
    refine Ev.iload dX5_moon_29 4 rfl ?_
    refine Ev.bipush (v := 6) dX5_moon_31 rfl ?_
    refine Ev.icmp_ge (tgt := 87) dX5_moon_33 (by decide) (fun c1 => ?_) (fun c1 => ?_)
    · replace h := wp_t c1 h
      refine Ev.sub [1, 2, 3] rfl ?_
      exact o_X5_moon_87 h
    · replace h := wp_f c1 h
      refine Ev.aload_n dX5_moon_36 rfl 0 rfl ?_
      refine Ev.get dX5_moon_37 fl_X5_28 rfl (Nat.le_of_ble_eq_true rfl) (v := .ref (ad E 14)) rfl ?_
      refine Ev.iload dX5_moon_40 4 rfl ?_
      refine Ev.putN dX5_moon_42 nl_X5_115 rfl (Nat.le_of_ble_eq_true rfl) rfl rfl pf_I rfl rfl ?_
      refine Ev.topM (fun M2 eM2 => ?_)
      replace h := wp_lm h M2 eM2
      refine Ev.aload_n dX5_moon_45 rfl 0 rfl ?_
      refine Ev.get dX5_moon_46 fl_X5_49 rfl (Nat.le_of_ble_eq_true rfl) (v := .ref (ad E 40)) rfl ?_
      refine Ev.aload_n dX5_moon_49 rfl 0 rfl ?_
      refine Ev.get dX5_moon_50 fl_X5_28 rfl (Nat.le_of_ble_eq_true rfl) (v := .ref (ad E 14)) rfl ?_
      obtain ⟨r3, er3, h⟩ := wp_bind h
      refine Ev.callN (k := 40) (as := [.ref (ad E 14)]) (rest := []) dX5_moon_53 cn_X5_187 mok_X0_run rfl (Nat.le_of_ble_eq_true rfl) (Nat.le_of_ble_eq_true rfl) ⟨Nat.le_of_ble_eq_true rfl, Nat.le_of_ble_eq_true rfl⟩ (Nat.le_of_ble_eq_true rfl) rfl rfl (o_X0_run sea_14 ⟨r3, er3, ?_⟩)
      show Ev E mi_X5_moon 56 [(0, .ref (ad E 0)), (1, .int p1), (2, .int x2), (3, .int x3), (4, .int x4)] [] r3 Q
      refine Ev.aload_n dX5_moon_56 rfl 0 rfl ?_
      refine Ev.get dX5_moon_57 fl_X5_49 rfl (Nat.le_of_ble_eq_true rfl) (v := .ref (ad E 40)) rfl ?_
      refine Ev.aload_n dX5_moon_60 rfl 0 rfl ?_
      refine Ev.get dX5_moon_61 fl_X5_28 rfl (Nat.le_of_ble_eq_true rfl) (v := .ref (ad E 14)) rfl ?_
      obtain ⟨r4, er4, h⟩ := wp_bind h
      refine Ev.callN (k := 40) (as := [.ref (ad E 14)]) (rest := []) dX5_moon_64 cn_X5_197 mok_X0_estatesHooked rfl (Nat.le_of_ble_eq_true rfl) (Nat.le_of_ble_eq_true rfl) ⟨Nat.le_of_ble_eq_true rfl, Nat.le_of_ble_eq_true rfl⟩ (Nat.le_of_ble_eq_true rfl) rfl rfl (o_X0_estatesHooked sea_14 ⟨r4, er4, ?_⟩)
      show Ev E mi_X5_moon 67 [(0, .ref (ad E 0)), (1, .int p1), (2, .int x2), (3, .int x3), (4, .int x4)] [.int r4] r3 Q
      refine Ev.istore dX5_moon_67 (Nat.le_of_ble_eq_true rfl) rfl ?_
      show Ev E mi_X5_moon 69 [(5, .int r4), (0, .ref (ad E 0)), (1, .int p1), (2, .int x2), (3, .int x3), (4, .int x4)] [] r3 Q
      refine Ev.iload dX5_moon_69 0 rfl ?_
      refine Ev.iload_n dX5_moon_71 rfl 4 rfl ?_
      refine Ev.icmp_le (tgt := 81) dX5_moon_72 (by decide) (fun c5 => ?_) (fun c5 => ?_)
      · replace h := wp_t c5 h
        refine Ev.sub [1, 2, 3, 4, 5] rfl ?_
        exact o_X5_moon_81 (fun _ _ _ _ h => ih h) h
      · replace h := wp_f c5 h
        refine Ev.iload dX5_moon_75 0 rfl ?_
        refine Ev.istore_n dX5_moon_77 rfl (Nat.le_of_ble_eq_true rfl) rfl ?_
        show Ev E mi_X5_moon 78 [(3, .int r4), (5, .int r4), (0, .ref (ad E 0)), (1, .int p1), (2, .int x2), (4, .int x4)] [] r3 Q
        refine Ev.iload dX5_moon_78 5 rfl ?_
        refine Ev.istore_n dX5_moon_80 rfl (Nat.le_of_ble_eq_true rfl) rfl ?_
        show Ev E mi_X5_moon 81 [(2, .int x4), (3, .int r4), (5, .int r4), (0, .ref (ad E 0)), (1, .int p1), (4, .int x4)] [] r3 Q
        refine Ev.sub [3, 4, 0, 1, 5] rfl ?_
        exact o_X5_moon_81 (fun _ _ _ _ h => ih h) h
noncomputable def f_X5_moon (p1 : Int32) (M : Mem) : Option (Int32 × Mem) := (f_X5_within p1 0 1 M).bind fun r1 => if r1 = 0 then some ((-1), M) else (f_X2_become 14 9 M).bind fun r3 => f_X5_moon_29 p1 FU 0 (-1) 0 r3
theorem o_X5_moon {E : GE} {Q : Option Value → Mem → Prop} {p1 : Int32} {M : Mem} (h : wp (f_X5_moon p1 M) gIM Q) : Runs E mi_X5_moon [.ref (ad E 0), .int p1] M Q := by
  refine Runs.ofEv (by decide +kernel) (Nat.le_of_ble_eq_true rfl) ?_
  show Ev E mi_X5_moon 0 [(0, .ref (ad E 0)), (1, .int p1)] [] M Q
  unfold f_X5_moon at h
  refine Ev.iload_n dX5_moon_0 rfl 1 rfl ?_
  refine Ev.iconst (v := 0) dX5_moon_1 rfl ?_
  refine Ev.iconst (v := 1) dX5_moon_2 rfl ?_
  obtain ⟨r1, er1, h⟩ := wp_bind h
  refine Ev.callS (as := [.int p1, .int 0, .int 1]) (rest := []) dX5_moon_3 cl_X5_75 mos_X5_within ⟨Nat.le_of_ble_eq_true rfl, Nat.le_of_ble_eq_true rfl⟩ (Nat.le_of_ble_eq_true rfl) rfl rfl (o_X5_within ⟨r1, er1, ?_⟩)
  show Ev E mi_X5_moon 6 [(0, .ref (ad E 0)), (1, .int p1)] [.int r1] M Q
  refine Ev.if_ne (tgt := 11) dX5_moon_6 (by decide) (fun c2 => ?_) (fun c2 => ?_)
  · replace h := wp_t c2 h
    refine Ev.iconst (v := (-1)) dX5_moon_9 rfl ?_
    exact Ev.ret dX5_moon_10 rfl rfl (wp_ret h)
  · replace h := wp_f c2 h
    refine Ev.aload_n dX5_moon_11 rfl 0 rfl ?_
    refine Ev.get dX5_moon_12 fl_X5_28 rfl (Nat.le_of_ble_eq_true rfl) (v := .ref (ad E 14)) rfl ?_
    refine Ev.aload_n dX5_moon_15 rfl 0 rfl ?_
    refine Ev.get dX5_moon_16 fl_X5_24 rfl (Nat.le_of_ble_eq_true rfl) (v := .ref (ad E 9)) rfl ?_
    obtain ⟨r3, er3, h⟩ := wp_bind h
    refine Ev.callN (k := 14) (as := [.ref (ad E 9)]) (rest := []) dX5_moon_19 cn_X5_102 mok_X2_become rfl (Nat.le_of_ble_eq_true rfl) (Nat.le_of_ble_eq_true rfl) ⟨Nat.le_of_ble_eq_true rfl, Nat.le_of_ble_eq_true rfl⟩ (Nat.le_of_ble_eq_true rfl) rfl rfl (o_X2_become sea_14 sea_9 ⟨r3, er3, ?_⟩)
    show Ev E mi_X5_moon 22 [(0, .ref (ad E 0)), (1, .int p1)] [] r3 Q
    refine Ev.iconst (v := 0) dX5_moon_22 rfl ?_
    refine Ev.istore_n dX5_moon_23 rfl (Nat.le_of_ble_eq_true rfl) rfl ?_
    show Ev E mi_X5_moon 24 [(2, .int 0), (0, .ref (ad E 0)), (1, .int p1)] [] r3 Q
    refine Ev.iconst (v := (-1)) dX5_moon_24 rfl ?_
    refine Ev.istore_n dX5_moon_25 rfl (Nat.le_of_ble_eq_true rfl) rfl ?_
    show Ev E mi_X5_moon 26 [(3, .int (-1)), (2, .int 0), (0, .ref (ad E 0)), (1, .int p1)] [] r3 Q
    refine Ev.iconst (v := 0) dX5_moon_26 rfl ?_
    refine Ev.istore dX5_moon_27 (Nat.le_of_ble_eq_true rfl) rfl ?_
    show Ev E mi_X5_moon 29 [(4, .int 0), (3, .int (-1)), (2, .int 0), (0, .ref (ad E 0)), (1, .int p1)] [] r3 Q
    refine Ev.sub [3, 4, 2, 1, 0] rfl ?_
    exact o_X5_moon_29 FU h

noncomputable def f_X5_weighPairs_126 (p1 : Int32) (p2 : Int32) (t24 : Int32 → Mem → Option Mem) (x3 : Int32) (M : Mem) : Option Mem := t24 (x3 + 1) M
theorem o_X5_weighPairs_126 {E : GE} {Q : Option Value → Mem → Prop} {p1 : Int32} {p2 : Int32} {t24 : Int32 → Mem → Option Mem} {x3 : Int32} {M : Mem} (ht24 : ∀ (x3 : Int32) (M : Mem), wp (t24 x3 M) gVM Q → Ev E mi_X5_weighPairs 24 [(0, .ref (ad E 0)), (1, .int p1), (2, .int p2), (3, .int x3)] [] M Q) (h : wp (f_X5_weighPairs_126 p1 p2 t24 x3 M) gVM Q) : Ev E mi_X5_weighPairs 126 [(0, .ref (ad E 0)), (1, .int p1), (2, .int p2), (3, .int x3)] [] M Q := by
  unfold f_X5_weighPairs_126 at h
  refine Ev.iinc (v := x3 + 1) dX5_weighPairs_126 3 rfl rfl (Nat.le_of_ble_eq_true rfl) rfl ?_
  show Ev E mi_X5_weighPairs 129 [(3, .int (x3 + 1)), (0, .ref (ad E 0)), (1, .int p1), (2, .int p2)] [] M Q
  refine Ev.goto (tgt := 24) dX5_weighPairs_129 (by decide) ?_
  refine Ev.sub [1, 2, 3, 0] rfl ?_
  exact ht24 _ _ h
noncomputable def f_X5_weighPairs_43 (p1 : Int32) (p2 : Int32) (t24 : Int32 → Mem → Option Mem) : Nat → Int32 → Int32 → Mem → Option Mem
  | 0, _, _, _ => none
  | n + 1, x3, x4, M => if 10 ≤ x4 then f_X5_weighPairs_126 p1 p2 t24 x3 M else (f_X2_putHeir 14 p2 0 x4 M).bind fun r2 => (f_X0_meet 14 r2).bind fun r3 => (f_X0_estatesOf 14 p1 r3).bind fun r4 => inb ((10 * x3) + x4) 100 <| lm (up r3 52 ((10 * x3) + x4).toNatClampNeg r4) fun M6 => (f_X0_estatesOf 14 p2 M6).bind fun r7 => inb ((10 * x3) + x4) 100 <| lm (up M6 53 ((10 * x3) + x4).toNatClampNeg r7) fun M9 => (f_X5_weighPairs_43 p1 p2 t24 n) x3 (x4 + 1) M9
theorem o_X5_weighPairs_43 {E : GE} {Q : Option Value → Mem → Prop} {p1 : Int32} {p2 : Int32} {t24 : Int32 → Mem → Option Mem} (ht24 : ∀ (x3 : Int32) (M : Mem), wp (t24 x3 M) gVM Q → Ev E mi_X5_weighPairs 24 [(0, .ref (ad E 0)), (1, .int p1), (2, .int p2), (3, .int x3)] [] M Q) : ∀ (n : Nat) {x3 : Int32} {x4 : Int32} {M : Mem}, wp (f_X5_weighPairs_43 p1 p2 t24 n x3 x4 M) gVM Q → Ev E mi_X5_weighPairs 43 [(0, .ref (ad E 0)), (1, .int p1), (2, .int p2), (3, .int x3), (4, .int x4)] [] M Q := by
  intro n
  induction n with
  | zero => intro _ _ _ h; exact absurd h wp_none
  | succ n ih =>
    intro x3 x4 M h
    unfold f_X5_weighPairs_43 at h
    refine Ev.iload dX5_weighPairs_43 4 rfl ?_
    refine Ev.bipush (v := 10) dX5_weighPairs_45 rfl ?_
    refine Ev.icmp_ge (tgt := 126) dX5_weighPairs_47 (by decide) (fun c1 => ?_) (fun c1 => ?_)
    · replace h := wp_t c1 h
      refine Ev.sub [0, 1, 2, 3] rfl ?_
      exact o_X5_weighPairs_126 ht24 h
    · replace h := wp_f c1 h
      refine Ev.aload_n dX5_weighPairs_50 rfl 0 rfl ?_
      refine Ev.get dX5_weighPairs_51 fl_X5_28 rfl (Nat.le_of_ble_eq_true rfl) (v := .ref (ad E 14)) rfl ?_
      refine Ev.iload_n dX5_weighPairs_54 rfl 2 rfl ?_
      refine Ev.iconst (v := 0) dX5_weighPairs_55 rfl ?_
      refine Ev.iload dX5_weighPairs_56 4 rfl ?_
      obtain ⟨r2, er2, h⟩ := wp_bind h
      refine Ev.callN (k := 14) (as := [.int p2, .int 0, .int x4]) (rest := []) dX5_weighPairs_58 cn_X5_157 mok_X2_putHeir rfl (Nat.le_of_ble_eq_true rfl) (Nat.le_of_ble_eq_true rfl) ⟨Nat.le_of_ble_eq_true rfl, Nat.le_of_ble_eq_true rfl⟩ (Nat.le_of_ble_eq_true rfl) rfl rfl (o_X2_putHeir sea_14 ⟨r2, er2, ?_⟩)
      show Ev E mi_X5_weighPairs 61 [(0, .ref (ad E 0)), (1, .int p1), (2, .int p2), (3, .int x3), (4, .int x4)] [] r2 Q
      refine Ev.aload_n dX5_weighPairs_61 rfl 0 rfl ?_
      refine Ev.get dX5_weighPairs_62 fl_X5_49 rfl (Nat.le_of_ble_eq_true rfl) (v := .ref (ad E 40)) rfl ?_
      refine Ev.aload_n dX5_weighPairs_65 rfl 0 rfl ?_
      refine Ev.get dX5_weighPairs_66 fl_X5_28 rfl (Nat.le_of_ble_eq_true rfl) (v := .ref (ad E 14)) rfl ?_
      obtain ⟨r3, er3, h⟩ := wp_bind h
      refine Ev.callN (k := 40) (as := [.ref (ad E 14)]) (rest := []) dX5_weighPairs_69 cn_X5_220 mok_X0_meet rfl (Nat.le_of_ble_eq_true rfl) (Nat.le_of_ble_eq_true rfl) ⟨Nat.le_of_ble_eq_true rfl, Nat.le_of_ble_eq_true rfl⟩ (Nat.le_of_ble_eq_true rfl) rfl rfl (o_X0_meet sea_14 ⟨r3, er3, ?_⟩)
      show Ev E mi_X5_weighPairs 72 [(0, .ref (ad E 0)), (1, .int p1), (2, .int p2), (3, .int x3), (4, .int x4)] [] r3 Q
      refine Ev.aload_n dX5_weighPairs_72 rfl 0 rfl ?_
      refine Ev.get dX5_weighPairs_73 fl_X5_69 rfl (Nat.le_of_ble_eq_true rfl) (v := .ref (ad E 52)) rfl ?_
      refine Ev.bipush (v := 10) dX5_weighPairs_76 rfl ?_
      refine Ev.iload_n dX5_weighPairs_78 rfl 3 rfl ?_
      refine Ev.imul dX5_weighPairs_79 ?_
      refine Ev.iload dX5_weighPairs_80 4 rfl ?_
      refine Ev.iadd dX5_weighPairs_82 ?_
      refine Ev.aload_n dX5_weighPairs_83 rfl 0 rfl ?_
      refine Ev.get dX5_weighPairs_84 fl_X5_49 rfl (Nat.le_of_ble_eq_true rfl) (v := .ref (ad E 40)) rfl ?_
      refine Ev.aload_n dX5_weighPairs_87 rfl 0 rfl ?_
      refine Ev.get dX5_weighPairs_88 fl_X5_28 rfl (Nat.le_of_ble_eq_true rfl) (v := .ref (ad E 14)) rfl ?_
      refine Ev.iload_n dX5_weighPairs_91 rfl 1 rfl ?_
      obtain ⟨r4, er4, h⟩ := wp_bind h
      refine Ev.callN (k := 40) (as := [.ref (ad E 14), .int p1]) (rest := [.int ((10 * x3) + x4), .ref (ad E 52)]) dX5_weighPairs_92 cn_X5_190 mok_X0_estatesOf rfl (Nat.le_of_ble_eq_true rfl) (Nat.le_of_ble_eq_true rfl) ⟨Nat.le_of_ble_eq_true rfl, Nat.le_of_ble_eq_true rfl⟩ (Nat.le_of_ble_eq_true rfl) rfl rfl (o_X0_estatesOf sea_14 ⟨r4, er4, ?_⟩)
      show Ev E mi_X5_weighPairs 95 [(0, .ref (ad E 0)), (1, .int p1), (2, .int p2), (3, .int x3), (4, .int x4)] [.int r4, .int ((10 * x3) + x4), .ref (ad E 52)] r3 Q
      obtain ⟨g5, h⟩ := wp_inb h
      refine Ev.iast dX5_weighPairs_95 rfl (Nat.le_of_ble_eq_true rfl) rfl g5 ?_
      refine Ev.topM (fun M6 eM6 => ?_)
      replace h := wp_lm h M6 eM6
      refine Ev.aload_n dX5_weighPairs_96 rfl 0 rfl ?_
      refine Ev.get dX5_weighPairs_97 fl_X5_72 rfl (Nat.le_of_ble_eq_true rfl) (v := .ref (ad E 53)) rfl ?_
      refine Ev.bipush (v := 10) dX5_weighPairs_100 rfl ?_
      refine Ev.iload_n dX5_weighPairs_102 rfl 3 rfl ?_
      refine Ev.imul dX5_weighPairs_103 ?_
      refine Ev.iload dX5_weighPairs_104 4 rfl ?_
      refine Ev.iadd dX5_weighPairs_106 ?_
      refine Ev.aload_n dX5_weighPairs_107 rfl 0 rfl ?_
      refine Ev.get dX5_weighPairs_108 fl_X5_49 rfl (Nat.le_of_ble_eq_true rfl) (v := .ref (ad E 40)) rfl ?_
      refine Ev.aload_n dX5_weighPairs_111 rfl 0 rfl ?_
      refine Ev.get dX5_weighPairs_112 fl_X5_28 rfl (Nat.le_of_ble_eq_true rfl) (v := .ref (ad E 14)) rfl ?_
      refine Ev.iload_n dX5_weighPairs_115 rfl 2 rfl ?_
      obtain ⟨r7, er7, h⟩ := wp_bind h
      refine Ev.callN (k := 40) (as := [.ref (ad E 14), .int p2]) (rest := [.int ((10 * x3) + x4), .ref (ad E 53)]) dX5_weighPairs_116 cn_X5_190 mok_X0_estatesOf rfl (Nat.le_of_ble_eq_true rfl) (Nat.le_of_ble_eq_true rfl) ⟨Nat.le_of_ble_eq_true rfl, Nat.le_of_ble_eq_true rfl⟩ (Nat.le_of_ble_eq_true rfl) rfl rfl (o_X0_estatesOf sea_14 ⟨r7, er7, ?_⟩)
      show Ev E mi_X5_weighPairs 119 [(0, .ref (ad E 0)), (1, .int p1), (2, .int p2), (3, .int x3), (4, .int x4)] [.int r7, .int ((10 * x3) + x4), .ref (ad E 53)] M6 Q
      obtain ⟨g8, h⟩ := wp_inb h
      refine Ev.iast dX5_weighPairs_119 rfl (Nat.le_of_ble_eq_true rfl) rfl g8 ?_
      refine Ev.topM (fun M9 eM9 => ?_)
      replace h := wp_lm h M9 eM9
      refine Ev.iinc (v := x4 + 1) dX5_weighPairs_120 4 rfl rfl (Nat.le_of_ble_eq_true rfl) rfl ?_
      show Ev E mi_X5_weighPairs 123 [(4, .int (x4 + 1)), (0, .ref (ad E 0)), (1, .int p1), (2, .int p2), (3, .int x3)] [] M9 Q
      refine Ev.goto (tgt := 43) dX5_weighPairs_123 (by decide) ?_
      refine Ev.sub [1, 2, 3, 4, 0] rfl ?_
      exact ih h
noncomputable def f_X5_weighPairs_24 (p1 : Int32) (p2 : Int32) : Nat → Int32 → Mem → Option Mem
  | 0, _, _ => none
  | n + 1, x3, M => if 10 ≤ x3 then some M else (f_X2_putHeir 14 p1 0 x3 M).bind fun r2 => f_X5_weighPairs_43 p1 p2 (f_X5_weighPairs_24 p1 p2 n) FU x3 0 r2
theorem o_X5_weighPairs_24 {E : GE} {Q : Option Value → Mem → Prop} {p1 : Int32} {p2 : Int32} : ∀ (n : Nat) {x3 : Int32} {M : Mem}, wp (f_X5_weighPairs_24 p1 p2 n x3 M) gVM Q → Ev E mi_X5_weighPairs 24 [(0, .ref (ad E 0)), (1, .int p1), (2, .int p2), (3, .int x3)] [] M Q := by
  intro n
  induction n with
  | zero => intro _ _ h; exact absurd h wp_none
  | succ n ih =>
    intro x3 M h
    unfold f_X5_weighPairs_24 at h
    refine Ev.iload_n dX5_weighPairs_24 rfl 3 rfl ?_
    refine Ev.bipush (v := 10) dX5_weighPairs_25 rfl ?_
    refine Ev.icmp_ge (tgt := 132) dX5_weighPairs_27 (by decide) (fun c1 => ?_) (fun c1 => ?_)
    · replace h := wp_t c1 h
      exact Ev.vret dX5_weighPairs_132 rfl (wp_ret h)
    · replace h := wp_f c1 h
      refine Ev.aload_n dX5_weighPairs_30 rfl 0 rfl ?_
      refine Ev.get dX5_weighPairs_31 fl_X5_28 rfl (Nat.le_of_ble_eq_true rfl) (v := .ref (ad E 14)) rfl ?_
      refine Ev.iload_n dX5_weighPairs_34 rfl 1 rfl ?_
      refine Ev.iconst (v := 0) dX5_weighPairs_35 rfl ?_
      refine Ev.iload_n dX5_weighPairs_36 rfl 3 rfl ?_
      obtain ⟨r2, er2, h⟩ := wp_bind h
      refine Ev.callN (k := 14) (as := [.int p1, .int 0, .int x3]) (rest := []) dX5_weighPairs_37 cn_X5_157 mok_X2_putHeir rfl (Nat.le_of_ble_eq_true rfl) (Nat.le_of_ble_eq_true rfl) ⟨Nat.le_of_ble_eq_true rfl, Nat.le_of_ble_eq_true rfl⟩ (Nat.le_of_ble_eq_true rfl) rfl rfl (o_X2_putHeir sea_14 ⟨r2, er2, ?_⟩)
      show Ev E mi_X5_weighPairs 40 [(0, .ref (ad E 0)), (1, .int p1), (2, .int p2), (3, .int x3)] [] r2 Q
      refine Ev.iconst (v := 0) dX5_weighPairs_40 rfl ?_
      refine Ev.istore dX5_weighPairs_41 (Nat.le_of_ble_eq_true rfl) rfl ?_
      show Ev E mi_X5_weighPairs 43 [(4, .int 0), (0, .ref (ad E 0)), (1, .int p1), (2, .int p2), (3, .int x3)] [] r2 Q
      refine Ev.sub [1, 2, 3, 4, 0] rfl ?_
      exact o_X5_weighPairs_43 (fun _ _ h => ih h) FU h
noncomputable def f_X5_weighPairs (p1 : Int32) (p2 : Int32) (M : Mem) : Option Mem := (f_X2_become 14 9 M).bind fun r1 => (f_X0_sail 14 r1).bind fun r2 => f_X5_weighPairs_24 p1 p2 FU 0 r2
theorem o_X5_weighPairs {E : GE} {Q : Option Value → Mem → Prop} {p1 : Int32} {p2 : Int32} {M : Mem} (h : wp (f_X5_weighPairs p1 p2 M) gVM Q) : Runs E mi_X5_weighPairs [.ref (ad E 0), .int p1, .int p2] M Q := by
  refine Runs.ofEv (by decide +kernel) (Nat.le_of_ble_eq_true rfl) ?_
  show Ev E mi_X5_weighPairs 0 [(0, .ref (ad E 0)), (1, .int p1), (2, .int p2)] [] M Q
  unfold f_X5_weighPairs at h
  refine Ev.aload_n dX5_weighPairs_0 rfl 0 rfl ?_
  refine Ev.get dX5_weighPairs_1 fl_X5_28 rfl (Nat.le_of_ble_eq_true rfl) (v := .ref (ad E 14)) rfl ?_
  refine Ev.aload_n dX5_weighPairs_4 rfl 0 rfl ?_
  refine Ev.get dX5_weighPairs_5 fl_X5_24 rfl (Nat.le_of_ble_eq_true rfl) (v := .ref (ad E 9)) rfl ?_
  obtain ⟨r1, er1, h⟩ := wp_bind h
  refine Ev.callN (k := 14) (as := [.ref (ad E 9)]) (rest := []) dX5_weighPairs_8 cn_X5_102 mok_X2_become rfl (Nat.le_of_ble_eq_true rfl) (Nat.le_of_ble_eq_true rfl) ⟨Nat.le_of_ble_eq_true rfl, Nat.le_of_ble_eq_true rfl⟩ (Nat.le_of_ble_eq_true rfl) rfl rfl (o_X2_become sea_14 sea_9 ⟨r1, er1, ?_⟩)
  show Ev E mi_X5_weighPairs 11 [(0, .ref (ad E 0)), (1, .int p1), (2, .int p2)] [] r1 Q
  refine Ev.aload_n dX5_weighPairs_11 rfl 0 rfl ?_
  refine Ev.get dX5_weighPairs_12 fl_X5_49 rfl (Nat.le_of_ble_eq_true rfl) (v := .ref (ad E 40)) rfl ?_
  refine Ev.aload_n dX5_weighPairs_15 rfl 0 rfl ?_
  refine Ev.get dX5_weighPairs_16 fl_X5_28 rfl (Nat.le_of_ble_eq_true rfl) (v := .ref (ad E 14)) rfl ?_
  obtain ⟨r2, er2, h⟩ := wp_bind h
  refine Ev.callN (k := 40) (as := [.ref (ad E 14)]) (rest := []) dX5_weighPairs_19 cn_X5_217 mok_X0_sail rfl (Nat.le_of_ble_eq_true rfl) (Nat.le_of_ble_eq_true rfl) ⟨Nat.le_of_ble_eq_true rfl, Nat.le_of_ble_eq_true rfl⟩ (Nat.le_of_ble_eq_true rfl) rfl rfl (o_X0_sail sea_14 ⟨r2, er2, ?_⟩)
  show Ev E mi_X5_weighPairs 22 [(0, .ref (ad E 0)), (1, .int p1), (2, .int p2)] [] r2 Q
  refine Ev.iconst (v := 0) dX5_weighPairs_22 rfl ?_
  refine Ev.istore_n dX5_weighPairs_23 rfl (Nat.le_of_ble_eq_true rfl) rfl ?_
  show Ev E mi_X5_weighPairs 24 [(3, .int 0), (0, .ref (ad E 0)), (1, .int p1), (2, .int p2)] [] r2 Q
  refine Ev.sub [1, 2, 3, 0] rfl ?_
  exact o_X5_weighPairs_24 FU h

noncomputable def f_X5_neitherWouldGo_10 (p1 : Int32) (p2 : Int32) (M : Mem) : Nat → Int32 → Int32 → Option Int32
  | 0, _, _ => none
  | n + 1, x3, x4 => if 10 ≤ x4 then some 1 else rd (M 52) 100 ((10 * x4) + p2) fun r3 => rd (M 52) 100 x3 fun r5 => if r3 ≤ r5 then rd (M 53) 100 ((10 * p1) + x4) fun r8 => rd (M 53) 100 x3 fun r10 => if r8 ≤ r10 then (f_X5_neitherWouldGo_10 p1 p2 M n) x3 (x4 + 1) else some 0 else some 0
theorem o_X5_neitherWouldGo_10 {E : GE} {Q : Option Value → Mem → Prop} {p1 : Int32} {p2 : Int32} {M : Mem} : ∀ (n : Nat) {x3 : Int32} {x4 : Int32}, wp (f_X5_neitherWouldGo_10 p1 p2 M n x3 x4) (gI M) Q → Ev E mi_X5_neitherWouldGo 10 [(0, .ref (ad E 0)), (1, .int p1), (2, .int p2), (3, .int x3), (4, .int x4)] [] M Q := by
  intro n
  induction n with
  | zero => intro _ _ h; exact absurd h wp_none
  | succ n ih =>
    intro x3 x4 h
    unfold f_X5_neitherWouldGo_10 at h
    refine Ev.iload dX5_neitherWouldGo_10 4 rfl ?_
    refine Ev.bipush (v := 10) dX5_neitherWouldGo_12 rfl ?_
    refine Ev.icmp_ge (tgt := 69) dX5_neitherWouldGo_14 (by decide) (fun c1 => ?_) (fun c1 => ?_)
    · replace h := wp_t c1 h
      refine Ev.iconst (v := 1) dX5_neitherWouldGo_69 rfl ?_
      exact Ev.ret dX5_neitherWouldGo_70 rfl rfl (wp_ret h)
    · replace h := wp_f c1 h
      refine Ev.aload_n dX5_neitherWouldGo_17 rfl 0 rfl ?_
      refine Ev.get dX5_neitherWouldGo_18 fl_X5_69 rfl (Nat.le_of_ble_eq_true rfl) (v := .ref (ad E 52)) rfl ?_
      refine Ev.bipush (v := 10) dX5_neitherWouldGo_21 rfl ?_
      refine Ev.iload dX5_neitherWouldGo_23 4 rfl ?_
      refine Ev.imul dX5_neitherWouldGo_25 ?_
      refine Ev.iload_n dX5_neitherWouldGo_26 rfl 2 rfl ?_
      refine Ev.iadd dX5_neitherWouldGo_27 ?_
      obtain ⟨g2, h⟩ := wp_rd h
      refine Ev.iald dX5_neitherWouldGo_28 rfl (Nat.le_of_ble_eq_true rfl) rfl g2 ?_
      refine Ev.topi (fun r3 er3 => ?_)
      replace h := h r3 er3
      refine Ev.aload_n dX5_neitherWouldGo_29 rfl 0 rfl ?_
      refine Ev.get dX5_neitherWouldGo_30 fl_X5_69 rfl (Nat.le_of_ble_eq_true rfl) (v := .ref (ad E 52)) rfl ?_
      refine Ev.iload_n dX5_neitherWouldGo_33 rfl 3 rfl ?_
      obtain ⟨g4, h⟩ := wp_rd h
      refine Ev.iald dX5_neitherWouldGo_34 rfl (Nat.le_of_ble_eq_true rfl) rfl g4 ?_
      refine Ev.topi (fun r5 er5 => ?_)
      replace h := h r5 er5
      refine Ev.icmp_le (tgt := 40) dX5_neitherWouldGo_35 (by decide) (fun c6 => ?_) (fun c6 => ?_)
      · replace h := wp_t c6 h
        refine Ev.aload_n dX5_neitherWouldGo_40 rfl 0 rfl ?_
        refine Ev.get dX5_neitherWouldGo_41 fl_X5_72 rfl (Nat.le_of_ble_eq_true rfl) (v := .ref (ad E 53)) rfl ?_
        refine Ev.bipush (v := 10) dX5_neitherWouldGo_44 rfl ?_
        refine Ev.iload_n dX5_neitherWouldGo_46 rfl 1 rfl ?_
        refine Ev.imul dX5_neitherWouldGo_47 ?_
        refine Ev.iload dX5_neitherWouldGo_48 4 rfl ?_
        refine Ev.iadd dX5_neitherWouldGo_50 ?_
        obtain ⟨g7, h⟩ := wp_rd h
        refine Ev.iald dX5_neitherWouldGo_51 rfl (Nat.le_of_ble_eq_true rfl) rfl g7 ?_
        refine Ev.topi (fun r8 er8 => ?_)
        replace h := h r8 er8
        refine Ev.aload_n dX5_neitherWouldGo_52 rfl 0 rfl ?_
        refine Ev.get dX5_neitherWouldGo_53 fl_X5_72 rfl (Nat.le_of_ble_eq_true rfl) (v := .ref (ad E 53)) rfl ?_
        refine Ev.iload_n dX5_neitherWouldGo_56 rfl 3 rfl ?_
        obtain ⟨g9, h⟩ := wp_rd h
        refine Ev.iald dX5_neitherWouldGo_57 rfl (Nat.le_of_ble_eq_true rfl) rfl g9 ?_
        refine Ev.topi (fun r10 er10 => ?_)
        replace h := h r10 er10
        refine Ev.icmp_le (tgt := 63) dX5_neitherWouldGo_58 (by decide) (fun c11 => ?_) (fun c11 => ?_)
        · replace h := wp_t c11 h
          refine Ev.iinc (v := x4 + 1) dX5_neitherWouldGo_63 4 rfl rfl (Nat.le_of_ble_eq_true rfl) rfl ?_
          show Ev E mi_X5_neitherWouldGo 66 [(4, .int (x4 + 1)), (0, .ref (ad E 0)), (1, .int p1), (2, .int p2), (3, .int x3)] [] M Q
          refine Ev.goto (tgt := 10) dX5_neitherWouldGo_66 (by decide) ?_
          refine Ev.sub [1, 2, 3, 4, 0] rfl ?_
          exact ih h
        · replace h := wp_f c11 h
          refine Ev.iconst (v := 0) dX5_neitherWouldGo_61 rfl ?_
          exact Ev.ret dX5_neitherWouldGo_62 rfl rfl (wp_ret h)
      · replace h := wp_f c6 h
        refine Ev.iconst (v := 0) dX5_neitherWouldGo_38 rfl ?_
        exact Ev.ret dX5_neitherWouldGo_39 rfl rfl (wp_ret h)
noncomputable def f_X5_neitherWouldGo (p1 : Int32) (p2 : Int32) (M : Mem) : Option Int32 := li ((10 * p1) + p2) fun y1 => f_X5_neitherWouldGo_10 p1 p2 M FU y1 0
theorem o_X5_neitherWouldGo {E : GE} {Q : Option Value → Mem → Prop} {p1 : Int32} {p2 : Int32} {M : Mem} (h : wp (f_X5_neitherWouldGo p1 p2 M) (gI M) Q) : Runs E mi_X5_neitherWouldGo [.ref (ad E 0), .int p1, .int p2] M Q := by
  refine Runs.ofEv (by decide +kernel) (Nat.le_of_ble_eq_true rfl) ?_
  show Ev E mi_X5_neitherWouldGo 0 [(0, .ref (ad E 0)), (1, .int p1), (2, .int p2)] [] M Q
  unfold f_X5_neitherWouldGo at h
  refine Ev.bipush (v := 10) dX5_neitherWouldGo_0 rfl ?_
  refine Ev.iload_n dX5_neitherWouldGo_2 rfl 1 rfl ?_
  refine Ev.imul dX5_neitherWouldGo_3 ?_
  refine Ev.iload_n dX5_neitherWouldGo_4 rfl 2 rfl ?_
  refine Ev.iadd dX5_neitherWouldGo_5 ?_
  refine Ev.topi (fun y1 ey1 => ?_)
  replace h := wp_li h y1 ey1
  refine Ev.istore_n dX5_neitherWouldGo_6 rfl (Nat.le_of_ble_eq_true rfl) rfl ?_
  show Ev E mi_X5_neitherWouldGo 7 [(3, .int y1), (0, .ref (ad E 0)), (1, .int p1), (2, .int p2)] [] M Q
  refine Ev.iconst (v := 0) dX5_neitherWouldGo_7 rfl ?_
  refine Ev.istore dX5_neitherWouldGo_8 (Nat.le_of_ble_eq_true rfl) rfl ?_
  show Ev E mi_X5_neitherWouldGo 10 [(4, .int 0), (3, .int y1), (0, .ref (ad E 0)), (1, .int p1), (2, .int p2)] [] M Q
  refine Ev.sub [2, 3, 4, 1, 0] rfl ?_
  exact o_X5_neitherWouldGo_10 FU h

noncomputable def f_X5_rest_103 (p1 : Int32) (p2 : Int32) (p3 : Int32) (t64 : Int32 → Int32 → Int32 → Int32 → Mem → Option (Int32 × Mem)) (x4 : Int32) (x5 : Int32) (x6 : Int32) (x7 : Int32) (M : Mem) : Option (Int32 × Mem) := t64 x4 x5 x6 (x7 + 1) M
theorem o_X5_rest_103 {E : GE} {Q : Option Value → Mem → Prop} {p1 : Int32} {p2 : Int32} {p3 : Int32} {t64 : Int32 → Int32 → Int32 → Int32 → Mem → Option (Int32 × Mem)} {x4 : Int32} {x5 : Int32} {x6 : Int32} {x7 : Int32} {M : Mem} (ht64 : ∀ (x4 : Int32) (x5 : Int32) (x6 : Int32) (x7 : Int32) (M : Mem), wp (t64 x4 x5 x6 x7 M) gIM Q → Ev E mi_X5_rest 64 [(0, .ref (ad E 0)), (3, .int p3), (4, .int x4), (5, .int x5), (6, .int x6), (7, .int x7)] [] M Q) (h : wp (f_X5_rest_103 p1 p2 p3 t64 x4 x5 x6 x7 M) gIM Q) : Ev E mi_X5_rest 103 [(0, .ref (ad E 0)), (3, .int p3), (4, .int x4), (5, .int x5), (6, .int x6), (7, .int x7)] [] M Q := by
  unfold f_X5_rest_103 at h
  refine Ev.iinc (v := x7 + 1) dX5_rest_103 5 rfl rfl (Nat.le_of_ble_eq_true rfl) rfl ?_
  show Ev E mi_X5_rest 106 [(7, .int (x7 + 1)), (0, .ref (ad E 0)), (3, .int p3), (4, .int x4), (5, .int x5), (6, .int x6)] [] M Q
  refine Ev.goto (tgt := 64) dX5_rest_106 (by decide) ?_
  refine Ev.sub [1, 2, 3, 4, 5, 0] rfl ?_
  exact ht64 _ _ _ _ _ h
noncomputable def f_X5_rest_100 (p1 : Int32) (p2 : Int32) (p3 : Int32) (t64 : Int32 → Int32 → Int32 → Int32 → Mem → Option (Int32 × Mem)) (x4 : Int32) (x5 : Int32) (x6 : Int32) (x7 : Int32) (M : Mem) : Option (Int32 × Mem) := f_X5_rest_103 p1 p2 p3 t64 (x4 + 1) x5 x6 x7 M
theorem o_X5_rest_100 {E : GE} {Q : Option Value → Mem → Prop} {p1 : Int32} {p2 : Int32} {p3 : Int32} {t64 : Int32 → Int32 → Int32 → Int32 → Mem → Option (Int32 × Mem)} {x4 : Int32} {x5 : Int32} {x6 : Int32} {x7 : Int32} {M : Mem} (ht64 : ∀ (x4 : Int32) (x5 : Int32) (x6 : Int32) (x7 : Int32) (M : Mem), wp (t64 x4 x5 x6 x7 M) gIM Q → Ev E mi_X5_rest 64 [(0, .ref (ad E 0)), (3, .int p3), (4, .int x4), (5, .int x5), (6, .int x6), (7, .int x7)] [] M Q) (h : wp (f_X5_rest_100 p1 p2 p3 t64 x4 x5 x6 x7 M) gIM Q) : Ev E mi_X5_rest 100 [(0, .ref (ad E 0)), (3, .int p3), (4, .int x4), (5, .int x5), (6, .int x6), (7, .int x7)] [] M Q := by
  unfold f_X5_rest_100 at h
  refine Ev.iinc (v := x4 + 1) dX5_rest_100 2 rfl rfl (Nat.le_of_ble_eq_true rfl) rfl ?_
  show Ev E mi_X5_rest 103 [(4, .int (x4 + 1)), (0, .ref (ad E 0)), (3, .int p3), (5, .int x5), (6, .int x6), (7, .int x7)] [] M Q
  refine Ev.sub [1, 2, 0, 3, 4, 5] rfl ?_
  exact o_X5_rest_103 ht64 h
noncomputable def f_X5_rest_109 (p1 : Int32) (p2 : Int32) (p3 : Int32) (t54 : Int32 → Int32 → Int32 → Mem → Option (Int32 × Mem)) (x4 : Int32) (x5 : Int32) (x6 : Int32) (M : Mem) : Option (Int32 × Mem) := t54 x4 x5 (x6 + 1) M
theorem o_X5_rest_109 {E : GE} {Q : Option Value → Mem → Prop} {p1 : Int32} {p2 : Int32} {p3 : Int32} {t54 : Int32 → Int32 → Int32 → Mem → Option (Int32 × Mem)} {x4 : Int32} {x5 : Int32} {x6 : Int32} {M : Mem} (ht54 : ∀ (x4 : Int32) (x5 : Int32) (x6 : Int32) (M : Mem), wp (t54 x4 x5 x6 M) gIM Q → Ev E mi_X5_rest 54 [(0, .ref (ad E 0)), (3, .int p3), (4, .int x4), (5, .int x5), (6, .int x6)] [] M Q) (h : wp (f_X5_rest_109 p1 p2 p3 t54 x4 x5 x6 M) gIM Q) : Ev E mi_X5_rest 109 [(0, .ref (ad E 0)), (3, .int p3), (4, .int x4), (5, .int x5), (6, .int x6)] [] M Q := by
  unfold f_X5_rest_109 at h
  refine Ev.iinc (v := x6 + 1) dX5_rest_109 4 rfl rfl (Nat.le_of_ble_eq_true rfl) rfl ?_
  show Ev E mi_X5_rest 112 [(6, .int (x6 + 1)), (0, .ref (ad E 0)), (3, .int p3), (4, .int x4), (5, .int x5)] [] M Q
  refine Ev.goto (tgt := 54) dX5_rest_112 (by decide) ?_
  refine Ev.sub [1, 2, 3, 4, 0] rfl ?_
  exact ht54 _ _ _ _ h
noncomputable def f_X5_rest_64 (p1 : Int32) (p2 : Int32) (p3 : Int32) (t54 : Int32 → Int32 → Int32 → Mem → Option (Int32 × Mem)) : Nat → Int32 → Int32 → Int32 → Int32 → Mem → Option (Int32 × Mem)
  | 0, _, _, _, _, _ => none
  | n + 1, x4, x5, x6, x7, M => if 10 ≤ x7 then f_X5_rest_109 p1 p2 p3 t54 x4 x5 x6 M else (f_X5_neitherWouldGo x6 x7 M).bind fun r2 => if r2 = 0 then f_X5_rest_103 p1 p2 p3 (f_X5_rest_64 p1 p2 p3 t54 n) x4 x5 x6 x7 M else if x4 = 0 then li ((10 * x6) + x7) fun y5 => f_X5_rest_100 p1 p2 p3 (f_X5_rest_64 p1 p2 p3 t54 n) x4 y5 x6 x7 M else f_X5_rest_100 p1 p2 p3 (f_X5_rest_64 p1 p2 p3 t54 n) x4 x5 x6 x7 M
theorem o_X5_rest_64 {E : GE} {Q : Option Value → Mem → Prop} {p1 : Int32} {p2 : Int32} {p3 : Int32} {t54 : Int32 → Int32 → Int32 → Mem → Option (Int32 × Mem)} (ht54 : ∀ (x4 : Int32) (x5 : Int32) (x6 : Int32) (M : Mem), wp (t54 x4 x5 x6 M) gIM Q → Ev E mi_X5_rest 54 [(0, .ref (ad E 0)), (3, .int p3), (4, .int x4), (5, .int x5), (6, .int x6)] [] M Q) : ∀ (n : Nat) {x4 : Int32} {x5 : Int32} {x6 : Int32} {x7 : Int32} {M : Mem}, wp (f_X5_rest_64 p1 p2 p3 t54 n x4 x5 x6 x7 M) gIM Q → Ev E mi_X5_rest 64 [(0, .ref (ad E 0)), (3, .int p3), (4, .int x4), (5, .int x5), (6, .int x6), (7, .int x7)] [] M Q := by
  intro n
  induction n with
  | zero => intro _ _ _ _ _ h; exact absurd h wp_none
  | succ n ih =>
    intro x4 x5 x6 x7 M h
    unfold f_X5_rest_64 at h
    refine Ev.iload dX5_rest_64 5 rfl ?_
    refine Ev.bipush (v := 10) dX5_rest_66 rfl ?_
    refine Ev.icmp_ge (tgt := 109) dX5_rest_68 (by decide) (fun c1 => ?_) (fun c1 => ?_)
    · replace h := wp_t c1 h
      refine Ev.sub [0, 1, 2, 3, 4] rfl ?_
      exact o_X5_rest_109 ht54 h
    · replace h := wp_f c1 h
      refine Ev.aload_n dX5_rest_71 rfl 0 rfl ?_
      refine Ev.iload dX5_rest_72 4 rfl ?_
      refine Ev.iload dX5_rest_74 5 rfl ?_
      obtain ⟨r2, er2, h⟩ := wp_bind h
      refine Ev.callV (k := 0) (as := [.int x6, .int x7]) (rest := []) dX5_rest_76 cl_X5_230 mok_X5_neitherWouldGo rfl (Nat.le_of_ble_eq_true rfl) (Nat.le_of_ble_eq_true rfl) ⟨Nat.le_of_ble_eq_true rfl, Nat.le_of_ble_eq_true rfl⟩ (Nat.le_of_ble_eq_true rfl) rfl rfl (o_X5_neitherWouldGo ⟨r2, er2, ?_⟩)
      show Ev E mi_X5_rest 79 [(0, .ref (ad E 0)), (3, .int p3), (4, .int x4), (5, .int x5), (6, .int x6), (7, .int x7)] [.int r2] M Q
      refine Ev.if_ne (tgt := 85) dX5_rest_79 (by decide) (fun c3 => ?_) (fun c3 => ?_)
      · replace h := wp_t c3 h
        refine Ev.goto (tgt := 103) dX5_rest_82 (by decide) ?_
        exact o_X5_rest_103 (fun _ _ _ _ _ h => ih h) h
      · replace h := wp_f c3 h
        refine Ev.iload dX5_rest_85 2 rfl ?_
        refine Ev.if_ne (tgt := 100) dX5_rest_87 (by decide) (fun c4 => ?_) (fun c4 => ?_)
        · replace h := wp_t c4 h
          refine Ev.bipush (v := 10) dX5_rest_90 rfl ?_
          refine Ev.iload dX5_rest_92 4 rfl ?_
          refine Ev.imul dX5_rest_94 ?_
          refine Ev.iload dX5_rest_95 5 rfl ?_
          refine Ev.iadd dX5_rest_97 ?_
          refine Ev.topi (fun y5 ey5 => ?_)
          replace h := wp_li h y5 ey5
          refine Ev.istore dX5_rest_98 (Nat.le_of_ble_eq_true rfl) rfl ?_
          show Ev E mi_X5_rest 100 [(5, .int y5), (0, .ref (ad E 0)), (3, .int p3), (4, .int x4), (6, .int x6), (7, .int x7)] [] M Q
          refine Ev.sub [1, 2, 3, 0, 4, 5] rfl ?_
          exact o_X5_rest_100 (fun _ _ _ _ _ h => ih h) h
        · replace h := wp_f c4 h
          exact o_X5_rest_100 (fun _ _ _ _ _ h => ih h) h
noncomputable def f_X5_rest_115 (p1 : Int32) (p2 : Int32) (p3 : Int32) (x4 : Int32) (x5 : Int32) (M : Mem) : Option (Int32 × Mem) := if p3 = 0 then some (x4, M) else some (x5, M)
theorem o_X5_rest_115 {E : GE} {Q : Option Value → Mem → Prop} {p1 : Int32} {p2 : Int32} {p3 : Int32} {x4 : Int32} {x5 : Int32} {M : Mem} (h : wp (f_X5_rest_115 p1 p2 p3 x4 x5 M) gIM Q) : Ev E mi_X5_rest 115 [(3, .int p3), (4, .int x4), (5, .int x5)] [] M Q := by
  unfold f_X5_rest_115 at h
  refine Ev.iload_n dX5_rest_115 rfl 0 rfl ?_
  refine Ev.if_ne (tgt := 124) dX5_rest_116 (by decide) (fun c1 => ?_) (fun c1 => ?_)
  · replace h := wp_t c1 h
    refine Ev.iload dX5_rest_119 1 rfl ?_
    refine Ev.goto (tgt := 126) dX5_rest_121 (by decide) ?_
    exact Ev.ret dX5_rest_126 rfl rfl (wp_ret h)
  · replace h := wp_f c1 h
    refine Ev.iload dX5_rest_124 2 rfl ?_
    exact Ev.ret dX5_rest_126 rfl rfl (wp_ret h)
noncomputable def f_X5_rest_54 (p1 : Int32) (p2 : Int32) (p3 : Int32) : Nat → Int32 → Int32 → Int32 → Mem → Option (Int32 × Mem)
  | 0, _, _, _, _ => none
  | n + 1, x4, x5, x6, M => if 10 ≤ x6 then f_X5_rest_115 p1 p2 p3 x4 x5 M else f_X5_rest_64 p1 p2 p3 (f_X5_rest_54 p1 p2 p3 n) FU x4 x5 x6 0 M
theorem o_X5_rest_54 {E : GE} {Q : Option Value → Mem → Prop} {p1 : Int32} {p2 : Int32} {p3 : Int32} : ∀ (n : Nat) {x4 : Int32} {x5 : Int32} {x6 : Int32} {M : Mem}, wp (f_X5_rest_54 p1 p2 p3 n x4 x5 x6 M) gIM Q → Ev E mi_X5_rest 54 [(0, .ref (ad E 0)), (3, .int p3), (4, .int x4), (5, .int x5), (6, .int x6)] [] M Q := by
  intro n
  induction n with
  | zero => intro _ _ _ _ h; exact absurd h wp_none
  | succ n ih =>
    intro x4 x5 x6 M h
    unfold f_X5_rest_54 at h
    refine Ev.iload dX5_rest_54 4 rfl ?_
    refine Ev.bipush (v := 10) dX5_rest_56 rfl ?_
    refine Ev.icmp_ge (tgt := 115) dX5_rest_58 (by decide) (fun c1 => ?_) (fun c1 => ?_)
    · replace h := wp_t c1 h
      refine Ev.sub [1, 2, 3] rfl ?_
      exact o_X5_rest_115 h
    · replace h := wp_f c1 h
      refine Ev.iconst (v := 0) dX5_rest_61 rfl ?_
      refine Ev.istore dX5_rest_62 (Nat.le_of_ble_eq_true rfl) rfl ?_
      show Ev E mi_X5_rest 64 [(7, .int 0), (0, .ref (ad E 0)), (3, .int p3), (4, .int x4), (5, .int x5), (6, .int x6)] [] M Q
      refine Ev.sub [1, 2, 3, 4, 5, 0] rfl ?_
      exact o_X5_rest_64 (fun _ _ _ _ h => ih h) FU h
noncomputable def f_X5_rest (p1 : Int32) (p2 : Int32) (p3 : Int32) (M : Mem) : Option (Int32 × Mem) := (f_X2_isHeir 9 p1 M).bind fun r1 => if r1 = 0 then some ((-1), M) else (f_X2_isHeir 9 p2 M).bind fun r3 => if r3 = 0 then some ((-1), M) else if p1 = p2 then some ((-1), M) else (f_X5_within p3 0 1 M).bind fun r6 => if r6 = 0 then some ((-1), M) else (f_X5_weighPairs p1 p2 M).bind fun r8 => f_X5_rest_54 p1 p2 p3 FU 0 (-4) 0 r8
theorem o_X5_rest {E : GE} {Q : Option Value → Mem → Prop} {p1 : Int32} {p2 : Int32} {p3 : Int32} {M : Mem} (h : wp (f_X5_rest p1 p2 p3 M) gIM Q) : Runs E mi_X5_rest [.ref (ad E 0), .int p1, .int p2, .int p3] M Q := by
  refine Runs.ofEv (by decide +kernel) (Nat.le_of_ble_eq_true rfl) ?_
  show Ev E mi_X5_rest 0 [(0, .ref (ad E 0)), (1, .int p1), (2, .int p2), (3, .int p3)] [] M Q
  unfold f_X5_rest at h
  refine Ev.aload_n dX5_rest_0 rfl 0 rfl ?_
  refine Ev.get dX5_rest_1 fl_X5_24 rfl (Nat.le_of_ble_eq_true rfl) (v := .ref (ad E 9)) rfl ?_
  refine Ev.iload_n dX5_rest_4 rfl 1 rfl ?_
  obtain ⟨r1, er1, h⟩ := wp_bind h
  refine Ev.callN (k := 9) (as := [.int p1]) (rest := []) dX5_rest_5 cn_X5_134 mok_X2_isHeir rfl (Nat.le_of_ble_eq_true rfl) (Nat.le_of_ble_eq_true rfl) ⟨Nat.le_of_ble_eq_true rfl, Nat.le_of_ble_eq_true rfl⟩ (Nat.le_of_ble_eq_true rfl) rfl rfl (o_X2_isHeir sea_9 ⟨r1, er1, ?_⟩)
  show Ev E mi_X5_rest 8 [(0, .ref (ad E 0)), (1, .int p1), (2, .int p2), (3, .int p3)] [.int r1] M Q
  refine Ev.if_eq (tgt := 36) dX5_rest_8 (by decide) (fun c2 => ?_) (fun c2 => ?_)
  · replace h := wp_t c2 h
    refine Ev.iconst (v := (-1)) dX5_rest_36 rfl ?_
    exact Ev.ret dX5_rest_37 rfl rfl (wp_ret h)
  · replace h := wp_f c2 h
    refine Ev.aload_n dX5_rest_11 rfl 0 rfl ?_
    refine Ev.get dX5_rest_12 fl_X5_24 rfl (Nat.le_of_ble_eq_true rfl) (v := .ref (ad E 9)) rfl ?_
    refine Ev.iload_n dX5_rest_15 rfl 2 rfl ?_
    obtain ⟨r3, er3, h⟩ := wp_bind h
    refine Ev.callN (k := 9) (as := [.int p2]) (rest := []) dX5_rest_16 cn_X5_134 mok_X2_isHeir rfl (Nat.le_of_ble_eq_true rfl) (Nat.le_of_ble_eq_true rfl) ⟨Nat.le_of_ble_eq_true rfl, Nat.le_of_ble_eq_true rfl⟩ (Nat.le_of_ble_eq_true rfl) rfl rfl (o_X2_isHeir sea_9 ⟨r3, er3, ?_⟩)
    show Ev E mi_X5_rest 19 [(0, .ref (ad E 0)), (1, .int p1), (2, .int p2), (3, .int p3)] [.int r3] M Q
    refine Ev.if_eq (tgt := 36) dX5_rest_19 (by decide) (fun c4 => ?_) (fun c4 => ?_)
    · replace h := wp_t c4 h
      refine Ev.iconst (v := (-1)) dX5_rest_36 rfl ?_
      exact Ev.ret dX5_rest_37 rfl rfl (wp_ret h)
    · replace h := wp_f c4 h
      refine Ev.iload_n dX5_rest_22 rfl 1 rfl ?_
      refine Ev.iload_n dX5_rest_23 rfl 2 rfl ?_
      refine Ev.icmp_eq (tgt := 36) dX5_rest_24 (by decide) (fun c5 => ?_) (fun c5 => ?_)
      · replace h := wp_t c5 h
        refine Ev.iconst (v := (-1)) dX5_rest_36 rfl ?_
        exact Ev.ret dX5_rest_37 rfl rfl (wp_ret h)
      · replace h := wp_f c5 h
        refine Ev.iload_n dX5_rest_27 rfl 3 rfl ?_
        refine Ev.iconst (v := 0) dX5_rest_28 rfl ?_
        refine Ev.iconst (v := 1) dX5_rest_29 rfl ?_
        obtain ⟨r6, er6, h⟩ := wp_bind h
        refine Ev.callS (as := [.int p3, .int 0, .int 1]) (rest := []) dX5_rest_30 cl_X5_75 mos_X5_within ⟨Nat.le_of_ble_eq_true rfl, Nat.le_of_ble_eq_true rfl⟩ (Nat.le_of_ble_eq_true rfl) rfl rfl (o_X5_within ⟨r6, er6, ?_⟩)
        show Ev E mi_X5_rest 33 [(0, .ref (ad E 0)), (1, .int p1), (2, .int p2), (3, .int p3)] [.int r6] M Q
        refine Ev.if_ne (tgt := 38) dX5_rest_33 (by decide) (fun c7 => ?_) (fun c7 => ?_)
        · replace h := wp_t c7 h
          refine Ev.iconst (v := (-1)) dX5_rest_36 rfl ?_
          exact Ev.ret dX5_rest_37 rfl rfl (wp_ret h)
        · replace h := wp_f c7 h
          refine Ev.aload_n dX5_rest_38 rfl 0 rfl ?_
          refine Ev.iload_n dX5_rest_39 rfl 1 rfl ?_
          refine Ev.iload_n dX5_rest_40 rfl 2 rfl ?_
          obtain ⟨r8, er8, h⟩ := wp_bind h
          refine Ev.callV (k := 0) (as := [.int p1, .int p2]) (rest := []) dX5_rest_41 cl_X5_226 mok_X5_weighPairs rfl (Nat.le_of_ble_eq_true rfl) (Nat.le_of_ble_eq_true rfl) ⟨Nat.le_of_ble_eq_true rfl, Nat.le_of_ble_eq_true rfl⟩ (Nat.le_of_ble_eq_true rfl) rfl rfl (o_X5_weighPairs ⟨r8, er8, ?_⟩)
          show Ev E mi_X5_rest 44 [(0, .ref (ad E 0)), (1, .int p1), (2, .int p2), (3, .int p3)] [] r8 Q
          refine Ev.iconst (v := 0) dX5_rest_44 rfl ?_
          refine Ev.istore dX5_rest_45 (Nat.le_of_ble_eq_true rfl) rfl ?_
          show Ev E mi_X5_rest 47 [(4, .int 0), (0, .ref (ad E 0)), (1, .int p1), (2, .int p2), (3, .int p3)] [] r8 Q
          refine Ev.bipush (v := (-4)) dX5_rest_47 rfl ?_
          refine Ev.istore dX5_rest_49 (Nat.le_of_ble_eq_true rfl) rfl ?_
          show Ev E mi_X5_rest 51 [(5, .int (-4)), (4, .int 0), (0, .ref (ad E 0)), (1, .int p1), (2, .int p2), (3, .int p3)] [] r8 Q
          refine Ev.iconst (v := 0) dX5_rest_51 rfl ?_
          refine Ev.istore dX5_rest_52 (Nat.le_of_ble_eq_true rfl) rfl ?_
          show Ev E mi_X5_rest 54 [(6, .int 0), (5, .int (-4)), (4, .int 0), (0, .ref (ad E 0)), (1, .int p1), (2, .int p2), (3, .int p3)] [] r8 Q
          refine Ev.sub [3, 6, 2, 1, 0] rfl ?_
          exact o_X5_rest_54 FU h

noncomputable def f_X5_dropWinds_84 (p1 : Int32) (p2 : Int32) (p3 : Int32) (t6 : Int64 → Int32 → Mem → Option (Int64 × Mem)) (x6 : Int32) (u0 : Int64) (u1 : Int64) (M : Mem) : Option (Int64 × Mem) := ll (u0 * u1) fun y1 => t6 y1 (x6 + 1) M
theorem o_X5_dropWinds_84 {E : GE} {Q : Option Value → Mem → Prop} {p1 : Int32} {p2 : Int32} {p3 : Int32} {t6 : Int64 → Int32 → Mem → Option (Int64 × Mem)} {x6 : Int32} {u0 : Int64} {u1 : Int64} {M : Mem} (ht6 : ∀ (w4 : Int64) (x6 : Int32) (M : Mem), wp (t6 w4 x6 M) gLM Q → Ev E mi_X5_dropWinds 6 [(0, .ref (ad E 0)), (1, .int p1), (2, .int p2), (3, .int p3), (4, .long w4), (6, .int x6)] [] M Q) (h : wp (f_X5_dropWinds_84 p1 p2 p3 t6 x6 u0 u1 M) gLM Q) : Ev E mi_X5_dropWinds 84 [(0, .ref (ad E 0)), (1, .int p1), (2, .int p2), (3, .int p3), (6, .int x6)] [.long u1, .long u0] M Q := by
  unfold f_X5_dropWinds_84 at h
  refine Ev.lmul dX5_dropWinds_84 ?_
  refine Ev.topl (fun y1 ey1 => ?_)
  replace h := wp_ll h y1 ey1
  refine Ev.lstore dX5_dropWinds_85 (Nat.le_of_ble_eq_true rfl) rfl ?_
  show Ev E mi_X5_dropWinds 87 [(4, .long y1), (0, .ref (ad E 0)), (1, .int p1), (2, .int p2), (3, .int p3), (6, .int x6)] [] M Q
  refine Ev.iinc (v := x6 + 1) dX5_dropWinds_87 5 rfl rfl (Nat.le_of_ble_eq_true rfl) rfl ?_
  show Ev E mi_X5_dropWinds 90 [(6, .int (x6 + 1)), (4, .long y1), (0, .ref (ad E 0)), (1, .int p1), (2, .int p2), (3, .int p3)] [] M Q
  refine Ev.goto (tgt := 6) dX5_dropWinds_90 (by decide) ?_
  refine Ev.sub [2, 3, 4, 5, 1, 0] rfl ?_
  exact ht6 _ _ _ h
noncomputable def f_X5_dropWinds_66 (p1 : Int32) (p2 : Int32) (p3 : Int32) (t6 : Int64 → Int32 → Mem → Option (Int64 × Mem)) (w4 : Int64) (x6 : Int32) (x8 : Int32) (s1 : Int32) (s2 : Int32) (M : Mem) : Option (Int64 × Mem) := inb s1 24 <| lm (up M 18 s1.toNatClampNeg s2) fun M2 => if x8 = 0 then f_X5_dropWinds_84 p1 p2 p3 t6 x6 w4 ((10 - p3).toInt64) M2 else f_X5_dropWinds_84 p1 p2 p3 t6 x6 w4 p3.toInt64 M2
theorem o_X5_dropWinds_66 {E : GE} {Q : Option Value → Mem → Prop} {p1 : Int32} {p2 : Int32} {p3 : Int32} {t6 : Int64 → Int32 → Mem → Option (Int64 × Mem)} {w4 : Int64} {x6 : Int32} {x8 : Int32} {s1 : Int32} {s2 : Int32} {M : Mem} (ht6 : ∀ (w4 : Int64) (x6 : Int32) (M : Mem), wp (t6 w4 x6 M) gLM Q → Ev E mi_X5_dropWinds 6 [(0, .ref (ad E 0)), (1, .int p1), (2, .int p2), (3, .int p3), (4, .long w4), (6, .int x6)] [] M Q) (h : wp (f_X5_dropWinds_66 p1 p2 p3 t6 w4 x6 x8 s1 s2 M) gLM Q) : Ev E mi_X5_dropWinds 66 [(0, .ref (ad E 0)), (1, .int p1), (2, .int p2), (3, .int p3), (4, .long w4), (6, .int x6), (8, .int x8)] [.int s2, .int s1, .ref (ad E 18)] M Q := by
  unfold f_X5_dropWinds_66 at h
  obtain ⟨g1, h⟩ := wp_inb h
  refine Ev.iast dX5_dropWinds_66 rfl (Nat.le_of_ble_eq_true rfl) rfl g1 ?_
  refine Ev.topM (fun M2 eM2 => ?_)
  replace h := wp_lm h M2 eM2
  refine Ev.lload dX5_dropWinds_67 4 rfl ?_
  refine Ev.iload dX5_dropWinds_69 6 rfl ?_
  refine Ev.if_eq (tgt := 79) dX5_dropWinds_71 (by decide) (fun c3 => ?_) (fun c3 => ?_)
  · replace h := wp_t c3 h
    refine Ev.bipush (v := 10) dX5_dropWinds_79 rfl ?_
    refine Ev.iload_n dX5_dropWinds_81 rfl 3 rfl ?_
    refine Ev.isub dX5_dropWinds_82 ?_
    refine Ev.i2l dX5_dropWinds_83 ?_
    refine Ev.sub [0, 1, 2, 3, 5] rfl ?_
    exact o_X5_dropWinds_84 ht6 h
  · replace h := wp_f c3 h
    refine Ev.iload_n dX5_dropWinds_74 rfl 3 rfl ?_
    refine Ev.i2l dX5_dropWinds_75 ?_
    refine Ev.goto (tgt := 84) dX5_dropWinds_76 (by decide) ?_
    refine Ev.sub [0, 1, 2, 3, 5] rfl ?_
    exact o_X5_dropWinds_84 ht6 h
noncomputable def f_X5_dropWinds_36 (p1 : Int32) (p2 : Int32) (p3 : Int32) (t6 : Int64 → Int32 → Mem → Option (Int64 × Mem)) (w4 : Int64) (x6 : Int32) (x7 : Int32) (s0 : Int32) (M : Mem) : Option (Int64 × Mem) := if s0 = 0 then rd (M 13) 24 x7 fun r3 => f_X5_dropWinds_66 p1 p2 p3 t6 w4 x6 s0 x7 r3 M else f_X5_dropWinds_66 p1 p2 p3 t6 w4 x6 s0 x7 0 M
theorem o_X5_dropWinds_36 {E : GE} {Q : Option Value → Mem → Prop} {p1 : Int32} {p2 : Int32} {p3 : Int32} {t6 : Int64 → Int32 → Mem → Option (Int64 × Mem)} {w4 : Int64} {x6 : Int32} {x7 : Int32} {s0 : Int32} {M : Mem} (ht6 : ∀ (w4 : Int64) (x6 : Int32) (M : Mem), wp (t6 w4 x6 M) gLM Q → Ev E mi_X5_dropWinds 6 [(0, .ref (ad E 0)), (1, .int p1), (2, .int p2), (3, .int p3), (4, .long w4), (6, .int x6)] [] M Q) (h : wp (f_X5_dropWinds_36 p1 p2 p3 t6 w4 x6 x7 s0 M) gLM Q) : Ev E mi_X5_dropWinds 36 [(0, .ref (ad E 0)), (1, .int p1), (2, .int p2), (3, .int p3), (4, .long w4), (6, .int x6), (7, .int x7)] [.int s0] M Q := by
  unfold f_X5_dropWinds_36 at h
  refine Ev.istore dX5_dropWinds_36 (Nat.le_of_ble_eq_true rfl) rfl ?_
  show Ev E mi_X5_dropWinds 38 [(8, .int s0), (0, .ref (ad E 0)), (1, .int p1), (2, .int p2), (3, .int p3), (4, .long w4), (6, .int x6), (7, .int x7)] [] M Q
  refine Ev.aload_n dX5_dropWinds_38 rfl 1 rfl ?_
  refine Ev.get dX5_dropWinds_39 fl_X5_28 rfl (Nat.le_of_ble_eq_true rfl) (v := .ref (ad E 14)) rfl ?_
  refine Ev.getN dX5_dropWinds_42 nl_X5_143 rfl (Nat.le_of_ble_eq_true rfl) (v := .ref (ad E 18)) rfl ?_
  refine Ev.iload dX5_dropWinds_45 7 rfl ?_
  refine Ev.iload dX5_dropWinds_47 0 rfl ?_
  refine Ev.if_eq (tgt := 56) dX5_dropWinds_49 (by decide) (fun c1 => ?_) (fun c1 => ?_)
  · replace h := wp_t c1 h
    refine Ev.aload_n dX5_dropWinds_56 rfl 1 rfl ?_
    refine Ev.get dX5_dropWinds_57 fl_X5_24 rfl (Nat.le_of_ble_eq_true rfl) (v := .ref (ad E 9)) rfl ?_
    refine Ev.getN dX5_dropWinds_60 nl_X5_143 rfl (Nat.le_of_ble_eq_true rfl) (v := .ref (ad E 13)) rfl ?_
    refine Ev.iload dX5_dropWinds_63 7 rfl ?_
    obtain ⟨g2, h⟩ := wp_rd h
    refine Ev.iald dX5_dropWinds_65 rfl (Nat.le_of_ble_eq_true rfl) rfl g2 ?_
    refine Ev.topi (fun r3 er3 => ?_)
    replace h := h r3 er3
    refine Ev.sub [1, 2, 3, 4, 5, 6, 0] rfl ?_
    exact o_X5_dropWinds_66 ht6 h
  · replace h := wp_f c1 h
    refine Ev.iconst (v := 0) dX5_dropWinds_52 rfl ?_
    refine Ev.goto (tgt := 66) dX5_dropWinds_53 (by decide) ?_
    refine Ev.sub [1, 2, 3, 4, 5, 6, 0] rfl ?_
    exact o_X5_dropWinds_66 ht6 h
noncomputable def f_X5_dropWinds_6 (p1 : Int32) (p2 : Int32) (p3 : Int32) : Nat → Int64 → Int32 → Mem → Option (Int64 × Mem)
  | 0, _, _, _ => none
  | n + 1, w4, x6, M => if p2 ≤ x6 then some (w4, M) else rd (M 50) 24 x6 fun r3 => if ((p1 >>> (x6 &&& 31)) &&& 1) = 1 then f_X5_dropWinds_36 p1 p2 p3 (f_X5_dropWinds_6 p1 p2 p3 n) w4 x6 r3 1 M else f_X5_dropWinds_36 p1 p2 p3 (f_X5_dropWinds_6 p1 p2 p3 n) w4 x6 r3 0 M
theorem o_X5_dropWinds_6 {E : GE} {Q : Option Value → Mem → Prop} {p1 : Int32} {p2 : Int32} {p3 : Int32} : ∀ (n : Nat) {w4 : Int64} {x6 : Int32} {M : Mem}, wp (f_X5_dropWinds_6 p1 p2 p3 n w4 x6 M) gLM Q → Ev E mi_X5_dropWinds 6 [(0, .ref (ad E 0)), (1, .int p1), (2, .int p2), (3, .int p3), (4, .long w4), (6, .int x6)] [] M Q := by
  intro n
  induction n with
  | zero => intro _ _ _ h; exact absurd h wp_none
  | succ n ih =>
    intro w4 x6 M h
    unfold f_X5_dropWinds_6 at h
    refine Ev.iload dX5_dropWinds_6 5 rfl ?_
    refine Ev.iload_n dX5_dropWinds_8 rfl 2 rfl ?_
    refine Ev.icmp_ge (tgt := 93) dX5_dropWinds_9 (by decide) (fun c1 => ?_) (fun c1 => ?_)
    · replace h := wp_t c1 h
      refine Ev.lload dX5_dropWinds_93 4 rfl ?_
      exact Ev.lret dX5_dropWinds_95 rfl (wp_ret h)
    · replace h := wp_f c1 h
      refine Ev.aload_n dX5_dropWinds_12 rfl 0 rfl ?_
      refine Ev.get dX5_dropWinds_13 fl_X5_63 rfl (Nat.le_of_ble_eq_true rfl) (v := .ref (ad E 50)) rfl ?_
      refine Ev.iload dX5_dropWinds_16 5 rfl ?_
      obtain ⟨g2, h⟩ := wp_rd h
      refine Ev.iald dX5_dropWinds_18 rfl (Nat.le_of_ble_eq_true rfl) rfl g2 ?_
      refine Ev.topi (fun r3 er3 => ?_)
      replace h := h r3 er3
      refine Ev.istore dX5_dropWinds_19 (Nat.le_of_ble_eq_true rfl) rfl ?_
      show Ev E mi_X5_dropWinds 21 [(7, .int r3), (0, .ref (ad E 0)), (1, .int p1), (2, .int p2), (3, .int p3), (4, .long w4), (6, .int x6)] [] M Q
      refine Ev.iload_n dX5_dropWinds_21 rfl 2 rfl ?_
      refine Ev.iload dX5_dropWinds_22 6 rfl ?_
      refine Ev.ishr dX5_dropWinds_24 ?_
      refine Ev.iconst (v := 1) dX5_dropWinds_25 rfl ?_
      refine Ev.iand dX5_dropWinds_26 ?_
      refine Ev.iconst (v := 1) dX5_dropWinds_27 rfl ?_
      refine Ev.icmp_ne (tgt := 35) dX5_dropWinds_28 (by decide) (fun c4 => ?_) (fun c4 => ?_)
      · replace h := wp_t c4 h
        refine Ev.iconst (v := 1) dX5_dropWinds_31 rfl ?_
        refine Ev.goto (tgt := 36) dX5_dropWinds_32 (by decide) ?_
        refine Ev.sub [1, 2, 3, 4, 5, 6, 0] rfl ?_
        exact o_X5_dropWinds_36 (fun _ _ _ h => ih h) h
      · replace h := wp_f c4 h
        refine Ev.iconst (v := 0) dX5_dropWinds_35 rfl ?_
        refine Ev.sub [1, 2, 3, 4, 5, 6, 0] rfl ?_
        exact o_X5_dropWinds_36 (fun _ _ _ h => ih h) h
noncomputable def f_X5_dropWinds (p1 : Int32) (p2 : Int32) (p3 : Int32) (M : Mem) : Option (Int64 × Mem) := f_X5_dropWinds_6 p1 p2 p3 FU 1 0 M
theorem o_X5_dropWinds {E : GE} {Q : Option Value → Mem → Prop} {p1 : Int32} {p2 : Int32} {p3 : Int32} {M : Mem} (h : wp (f_X5_dropWinds p1 p2 p3 M) gLM Q) : Runs E mi_X5_dropWinds [.ref (ad E 0), .int p1, .int p2, .int p3] M Q := by
  refine Runs.ofEv (by decide +kernel) (Nat.le_of_ble_eq_true rfl) ?_
  show Ev E mi_X5_dropWinds 0 [(0, .ref (ad E 0)), (1, .int p1), (2, .int p2), (3, .int p3)] [] M Q
  unfold f_X5_dropWinds at h
  refine Ev.lconst (v := 1) dX5_dropWinds_0 rfl ?_
  refine Ev.lstore dX5_dropWinds_1 (Nat.le_of_ble_eq_true rfl) rfl ?_
  show Ev E mi_X5_dropWinds 3 [(4, .long 1), (0, .ref (ad E 0)), (1, .int p1), (2, .int p2), (3, .int p3)] [] M Q
  refine Ev.iconst (v := 0) dX5_dropWinds_3 rfl ?_
  refine Ev.istore dX5_dropWinds_4 (Nat.le_of_ble_eq_true rfl) rfl ?_
  show Ev E mi_X5_dropWinds 6 [(6, .int 0), (4, .long 1), (0, .ref (ad E 0)), (1, .int p1), (2, .int p2), (3, .int p3)] [] M Q
  refine Ev.sub [2, 3, 4, 5, 1, 0] rfl ?_
  exact o_X5_dropWinds_6 FU h

noncomputable def f_X5_allOdds_4 (p0 : Int32) (M : Mem) : Nat → Int64 → Int32 → Option Int64
  | 0, _, _ => none
  | n + 1, w1, x3 => if p0 ≤ x3 then some w1 else ll (w1 * 10) fun y2 => (f_X5_allOdds_4 p0 M n) y2 (x3 + 1)
theorem o_X5_allOdds_4 {E : GE} {Q : Option Value → Mem → Prop} {p0 : Int32} {M : Mem} : ∀ (n : Nat) {w1 : Int64} {x3 : Int32}, wp (f_X5_allOdds_4 p0 M n w1 x3) (gL M) Q → Ev E mi_X5_allOdds 4 [(0, .int p0), (1, .long w1), (3, .int x3)] [] M Q := by
  intro n
  induction n with
  | zero => intro _ _ h; exact absurd h wp_none
  | succ n ih =>
    intro w1 x3 h
    unfold f_X5_allOdds_4 at h
    refine Ev.iload_n dX5_allOdds_4 rfl 2 rfl ?_
    refine Ev.iload_n dX5_allOdds_5 rfl 0 rfl ?_
    refine Ev.icmp_ge (tgt := 21) dX5_allOdds_6 (by decide) (fun c1 => ?_) (fun c1 => ?_)
    · replace h := wp_t c1 h
      refine Ev.lload_n dX5_allOdds_21 rfl 1 rfl ?_
      exact Ev.lret dX5_allOdds_22 rfl (wp_ret h)
    · replace h := wp_f c1 h
      refine Ev.lload_n dX5_allOdds_9 rfl 1 rfl ?_
      refine Ev.ldc2 dX5_allOdds_10 fc_X5_292 ?_
      refine Ev.lmul dX5_allOdds_13 ?_
      refine Ev.topl (fun y2 ey2 => ?_)
      replace h := wp_ll h y2 ey2
      refine Ev.lstore_n dX5_allOdds_14 rfl (Nat.le_of_ble_eq_true rfl) rfl ?_
      show Ev E mi_X5_allOdds 15 [(1, .long y2), (0, .int p0), (3, .int x3)] [] M Q
      refine Ev.iinc (v := x3 + 1) dX5_allOdds_15 2 rfl rfl (Nat.le_of_ble_eq_true rfl) rfl ?_
      show Ev E mi_X5_allOdds 18 [(3, .int (x3 + 1)), (1, .long y2), (0, .int p0)] [] M Q
      refine Ev.goto (tgt := 4) dX5_allOdds_18 (by decide) ?_
      refine Ev.sub [2, 1, 0] rfl ?_
      exact ih h
noncomputable def f_X5_allOdds (p0 : Int32) (M : Mem) : Option Int64 := f_X5_allOdds_4 p0 M FU 1 0
theorem o_X5_allOdds {E : GE} {Q : Option Value → Mem → Prop} {p0 : Int32} {M : Mem} (h : wp (f_X5_allOdds p0 M) (gL M) Q) : Runs E mi_X5_allOdds [.int p0] M Q := by
  refine Runs.ofEv (by decide +kernel) (Nat.le_of_ble_eq_true rfl) ?_
  show Ev E mi_X5_allOdds 0 [(0, .int p0)] [] M Q
  unfold f_X5_allOdds at h
  refine Ev.lconst (v := 1) dX5_allOdds_0 rfl ?_
  refine Ev.lstore_n dX5_allOdds_1 rfl (Nat.le_of_ble_eq_true rfl) rfl ?_
  show Ev E mi_X5_allOdds 2 [(1, .long 1), (0, .int p0)] [] M Q
  refine Ev.iconst (v := 0) dX5_allOdds_2 rfl ?_
  refine Ev.istore_n dX5_allOdds_3 rfl (Nat.le_of_ble_eq_true rfl) rfl ?_
  show Ev E mi_X5_allOdds 4 [(3, .int 0), (1, .long 1), (0, .int p0)] [] M Q
  refine Ev.sub [2, 1, 0] rfl ?_
  exact o_X5_allOdds_4 FU h

noncomputable def f_X5_commonDivisor_9 (q0 : Int64) (q2 : Int64) (M : Mem) : Nat → Int64 → Int64 → Int32 → Option Int64
  | 0, _, _, _ => none
  | n + 1, w4, w6, x8 => if 100 ≤ x8 then some w4 else if (lg_cmp w6 0) = 0 then some w4 else nzL w6 <| ll (w4 - w4 / w6 * w6) fun y4 => (f_X5_commonDivisor_9 q0 q2 M n) w6 y4 (x8 + 1)
theorem o_X5_commonDivisor_9 {E : GE} {Q : Option Value → Mem → Prop} {q0 : Int64} {q2 : Int64} {M : Mem} : ∀ (n : Nat) {w4 : Int64} {w6 : Int64} {x8 : Int32}, wp (f_X5_commonDivisor_9 q0 q2 M n w4 w6 x8) (gL M) Q → Ev E mi_X5_commonDivisor 9 [(4, .long w4), (6, .long w6), (8, .int x8)] [] M Q := by
  intro n
  induction n with
  | zero => intro _ _ _ h; exact absurd h wp_none
  | succ n ih =>
    intro w4 w6 x8 h
    unfold f_X5_commonDivisor_9 at h
    refine Ev.iload dX5_commonDivisor_9 2 rfl ?_
    refine Ev.bipush (v := 100) dX5_commonDivisor_11 rfl ?_
    refine Ev.icmp_ge (tgt := 44) dX5_commonDivisor_13 (by decide) (fun c1 => ?_) (fun c1 => ?_)
    · replace h := wp_t c1 h
      refine Ev.lload dX5_commonDivisor_44 0 rfl ?_
      exact Ev.lret dX5_commonDivisor_46 rfl (wp_ret h)
    · replace h := wp_f c1 h
      refine Ev.lload dX5_commonDivisor_16 1 rfl ?_
      refine Ev.lconst (v := 0) dX5_commonDivisor_18 rfl ?_
      refine Ev.lcmp dX5_commonDivisor_19 ?_
      refine Ev.if_eq (tgt := 44) dX5_commonDivisor_20 (by decide) (fun c2 => ?_) (fun c2 => ?_)
      · replace h := wp_t c2 h
        refine Ev.lload dX5_commonDivisor_44 0 rfl ?_
        exact Ev.lret dX5_commonDivisor_46 rfl (wp_ret h)
      · replace h := wp_f c2 h
        refine Ev.lload dX5_commonDivisor_23 0 rfl ?_
        refine Ev.lload dX5_commonDivisor_25 1 rfl ?_
        obtain ⟨g3, h⟩ := wp_nzL h
        refine Ev.lrem dX5_commonDivisor_27 g3 ?_
        refine Ev.topl (fun y4 ey4 => ?_)
        replace h := wp_ll h y4 ey4
        refine Ev.lstore dX5_commonDivisor_28 (Nat.le_of_ble_eq_true rfl) rfl ?_
        show Ev E mi_X5_commonDivisor 30 [(9, .long y4), (4, .long w4), (6, .long w6), (8, .int x8)] [] M Q
        refine Ev.lload dX5_commonDivisor_30 2 rfl ?_
        refine Ev.lstore dX5_commonDivisor_32 (Nat.le_of_ble_eq_true rfl) rfl ?_
        show Ev E mi_X5_commonDivisor 34 [(4, .long w6), (9, .long y4), (6, .long w6), (8, .int x8)] [] M Q
        refine Ev.lload dX5_commonDivisor_34 1 rfl ?_
        refine Ev.lstore dX5_commonDivisor_36 (Nat.le_of_ble_eq_true rfl) rfl ?_
        show Ev E mi_X5_commonDivisor 38 [(6, .long y4), (4, .long w6), (9, .long y4), (8, .int x8)] [] M Q
        refine Ev.iinc (v := x8 + 1) dX5_commonDivisor_38 3 rfl rfl (Nat.le_of_ble_eq_true rfl) rfl ?_
        show Ev E mi_X5_commonDivisor 41 [(8, .int (x8 + 1)), (6, .long y4), (4, .long w6), (9, .long y4)] [] M Q
        refine Ev.goto (tgt := 9) dX5_commonDivisor_41 (by decide) ?_
        refine Ev.sub [2, 1, 0] rfl ?_
        exact ih h
noncomputable def f_X5_commonDivisor (q0 : Int64) (q2 : Int64) (M : Mem) : Option Int64 := f_X5_commonDivisor_9 q0 q2 M FU q0 q2 0
theorem o_X5_commonDivisor {E : GE} {Q : Option Value → Mem → Prop} {q0 : Int64} {q2 : Int64} {M : Mem} (h : wp (f_X5_commonDivisor q0 q2 M) (gL M) Q) : Runs E mi_X5_commonDivisor [.long q0, .long q2] M Q := by
  refine Runs.ofEv (by decide +kernel) (Nat.le_of_ble_eq_true rfl) ?_
  show Ev E mi_X5_commonDivisor 0 [(0, .long q0), (2, .long q2)] [] M Q
  unfold f_X5_commonDivisor at h
  refine Ev.lload_n dX5_commonDivisor_0 rfl 0 rfl ?_
  refine Ev.lstore dX5_commonDivisor_1 (Nat.le_of_ble_eq_true rfl) rfl ?_
  show Ev E mi_X5_commonDivisor 3 [(4, .long q0), (0, .long q0), (2, .long q2)] [] M Q
  refine Ev.lload_n dX5_commonDivisor_3 rfl 2 rfl ?_
  refine Ev.lstore dX5_commonDivisor_4 (Nat.le_of_ble_eq_true rfl) rfl ?_
  show Ev E mi_X5_commonDivisor 6 [(6, .long q2), (4, .long q0), (0, .long q0), (2, .long q2)] [] M Q
  refine Ev.iconst (v := 0) dX5_commonDivisor_6 rfl ?_
  refine Ev.istore dX5_commonDivisor_7 (Nat.le_of_ble_eq_true rfl) rfl ?_
  show Ev E mi_X5_commonDivisor 9 [(8, .int 0), (6, .long q2), (4, .long q0), (0, .long q0), (2, .long q2)] [] M Q
  refine Ev.sub [2, 1, 0] rfl ?_
  exact o_X5_commonDivisor_9 FU h

noncomputable def f_X5_partOfFraction_17 (q0 : Int64) (q2 : Int64) (p4 : Int32) (M : Mem) (w5 : Int64) (u0 : Int64) : Option Int64 := if (lg_cmp w5 1) ≤ 0 then some u0 else nzL w5 <| some (u0 / w5)
theorem o_X5_partOfFraction_17 {E : GE} {Q : Option Value → Mem → Prop} {q0 : Int64} {q2 : Int64} {p4 : Int32} {M : Mem} {w5 : Int64} {u0 : Int64} (h : wp (f_X5_partOfFraction_17 q0 q2 p4 M w5 u0) (gL M) Q) : Ev E mi_X5_partOfFraction 17 [(5, .long w5)] [.long u0] M Q := by
  unfold f_X5_partOfFraction_17 at h
  refine Ev.lstore dX5_partOfFraction_17 (Nat.le_of_ble_eq_true rfl) rfl ?_
  show Ev E mi_X5_partOfFraction 19 [(7, .long u0), (5, .long w5)] [] M Q
  refine Ev.lload dX5_partOfFraction_19 1 rfl ?_
  refine Ev.lconst (v := 1) dX5_partOfFraction_21 rfl ?_
  refine Ev.lcmp dX5_partOfFraction_22 ?_
  refine Ev.if_le (tgt := 34) dX5_partOfFraction_23 (by decide) (fun c1 => ?_) (fun c1 => ?_)
  · replace h := wp_t c1 h
    refine Ev.lload dX5_partOfFraction_34 0 rfl ?_
    exact Ev.lret dX5_partOfFraction_36 rfl (wp_ret h)
  · replace h := wp_f c1 h
    refine Ev.lload dX5_partOfFraction_26 0 rfl ?_
    refine Ev.lload dX5_partOfFraction_28 1 rfl ?_
    obtain ⟨g2, h⟩ := wp_nzL h
    refine Ev.ldiv dX5_partOfFraction_30 g2 ?_
    refine Ev.goto (tgt := 36) dX5_partOfFraction_31 (by decide) ?_
    exact Ev.lret dX5_partOfFraction_36 rfl (wp_ret h)
noncomputable def f_X5_partOfFraction (q0 : Int64) (q2 : Int64) (p4 : Int32) (M : Mem) : Option Int64 := (f_X5_commonDivisor q0 q2 M).bind fun r1 => if p4 = 0 then f_X5_partOfFraction_17 q0 q2 p4 M r1 q0 else f_X5_partOfFraction_17 q0 q2 p4 M r1 q2
theorem o_X5_partOfFraction {E : GE} {Q : Option Value → Mem → Prop} {q0 : Int64} {q2 : Int64} {p4 : Int32} {M : Mem} (h : wp (f_X5_partOfFraction q0 q2 p4 M) (gL M) Q) : Runs E mi_X5_partOfFraction [.long q0, .long q2, .int p4] M Q := by
  refine Runs.ofEv (by decide +kernel) (Nat.le_of_ble_eq_true rfl) ?_
  show Ev E mi_X5_partOfFraction 0 [(0, .long q0), (2, .long q2), (4, .int p4)] [] M Q
  unfold f_X5_partOfFraction at h
  refine Ev.lload_n dX5_partOfFraction_0 rfl 0 rfl ?_
  refine Ev.lload_n dX5_partOfFraction_1 rfl 1 rfl ?_
  obtain ⟨r1, er1, h⟩ := wp_bind h
  refine Ev.callS (as := [.long q0, .long q2]) (rest := []) dX5_partOfFraction_2 cl_X5_294 mos_X5_commonDivisor ⟨Nat.le_of_ble_eq_true rfl, Nat.le_of_ble_eq_true rfl⟩ (Nat.le_of_ble_eq_true rfl) rfl rfl (o_X5_commonDivisor ⟨r1, er1, ?_⟩)
  show Ev E mi_X5_partOfFraction 5 [(0, .long q0), (2, .long q2), (4, .int p4)] [.long r1] M Q
  refine Ev.lstore dX5_partOfFraction_5 (Nat.le_of_ble_eq_true rfl) rfl ?_
  show Ev E mi_X5_partOfFraction 7 [(5, .long r1), (0, .long q0), (2, .long q2), (4, .int p4)] [] M Q
  refine Ev.iload dX5_partOfFraction_7 3 rfl ?_
  refine Ev.if_ne (tgt := 16) dX5_partOfFraction_9 (by decide) (fun c2 => ?_) (fun c2 => ?_)
  · replace h := wp_t c2 h
    refine Ev.lload_n dX5_partOfFraction_12 rfl 1 rfl ?_
    refine Ev.goto (tgt := 17) dX5_partOfFraction_13 (by decide) ?_
    refine Ev.sub [0] rfl ?_
    exact o_X5_partOfFraction_17 h
  · replace h := wp_f c2 h
    refine Ev.lload_n dX5_partOfFraction_16 rfl 2 rfl ?_
    refine Ev.sub [0] rfl ?_
    exact o_X5_partOfFraction_17 h

noncomputable def f_X5_luck_130 (p1 : Int32) (p2 : Int32) (p3 : Int32) (p4 : Int32) (t80 : Int32 → Int64 → Int32 → Mem → Option (Int64 × Mem)) (x5 : Int32) (w6 : Int64) (x8 : Int32) (M : Mem) : Option (Int64 × Mem) := t80 x5 w6 (x8 + 1) M
theorem o_X5_luck_130 {E : GE} {Q : Option Value → Mem → Prop} {p1 : Int32} {p2 : Int32} {p3 : Int32} {p4 : Int32} {t80 : Int32 → Int64 → Int32 → Mem → Option (Int64 × Mem)} {x5 : Int32} {w6 : Int64} {x8 : Int32} {M : Mem} (ht80 : ∀ (x5 : Int32) (w6 : Int64) (x8 : Int32) (M : Mem), wp (t80 x5 w6 x8 M) gLM Q → Ev E mi_X5_luck 80 [(0, .ref (ad E 0)), (1, .int p1), (2, .int p2), (3, .int p3), (4, .int p4), (5, .int x5), (6, .long w6), (8, .int x8)] [] M Q) (h : wp (f_X5_luck_130 p1 p2 p3 p4 t80 x5 w6 x8 M) gLM Q) : Ev E mi_X5_luck 130 [(0, .ref (ad E 0)), (1, .int p1), (2, .int p2), (3, .int p3), (4, .int p4), (5, .int x5), (6, .long w6), (8, .int x8)] [] M Q := by
  unfold f_X5_luck_130 at h
  refine Ev.iinc (v := x8 + 1) dX5_luck_130 7 rfl rfl (Nat.le_of_ble_eq_true rfl) rfl ?_
  show Ev E mi_X5_luck 133 [(8, .int (x8 + 1)), (0, .ref (ad E 0)), (1, .int p1), (2, .int p2), (3, .int p3), (4, .int p4), (5, .int x5), (6, .long w6)] [] M Q
  refine Ev.goto (tgt := 80) dX5_luck_133 (by decide) ?_
  refine Ev.sub [1, 2, 3, 4, 5, 6, 7, 0] rfl ?_
  exact ht80 _ _ _ _ h
noncomputable def f_X5_luck_136 (p1 : Int32) (p2 : Int32) (p3 : Int32) (p4 : Int32) (x5 : Int32) (w6 : Int64) (M : Mem) : Option (Int64 × Mem) := (f_X5_allOdds x5 M).bind fun r1 => (f_X5_partOfFraction w6 r1 p4 M).bind fun r2 => some (r2, M)
theorem o_X5_luck_136 {E : GE} {Q : Option Value → Mem → Prop} {p1 : Int32} {p2 : Int32} {p3 : Int32} {p4 : Int32} {x5 : Int32} {w6 : Int64} {M : Mem} (h : wp (f_X5_luck_136 p1 p2 p3 p4 x5 w6 M) gLM Q) : Ev E mi_X5_luck 136 [(4, .int p4), (5, .int x5), (6, .long w6)] [] M Q := by
  unfold f_X5_luck_136 at h
  refine Ev.lload dX5_luck_136 2 rfl ?_
  refine Ev.iload dX5_luck_138 1 rfl ?_
  obtain ⟨r1, er1, h⟩ := wp_bind h
  refine Ev.callS (as := [.int x5]) (rest := [.long w6]) dX5_luck_140 cl_X5_241 mos_X5_allOdds ⟨Nat.le_of_ble_eq_true rfl, Nat.le_of_ble_eq_true rfl⟩ (Nat.le_of_ble_eq_true rfl) rfl rfl (o_X5_allOdds ⟨r1, er1, ?_⟩)
  show Ev E mi_X5_luck 143 [(4, .int p4), (5, .int x5), (6, .long w6)] [.long r1, .long w6] M Q
  refine Ev.iload dX5_luck_143 0 rfl ?_
  obtain ⟨r2, er2, h⟩ := wp_bind h
  refine Ev.callS (as := [.long w6, .long r1, .int p4]) (rest := []) dX5_luck_145 cl_X5_245 mos_X5_partOfFraction ⟨Nat.le_of_ble_eq_true rfl, Nat.le_of_ble_eq_true rfl⟩ (Nat.le_of_ble_eq_true rfl) rfl rfl (o_X5_partOfFraction ⟨r2, er2, ?_⟩)
  show Ev E mi_X5_luck 148 [(4, .int p4), (5, .int x5), (6, .long w6)] [.long r2] M Q
  exact Ev.lret dX5_luck_148 rfl (wp_ret h)
noncomputable def f_X5_luck_80 (p1 : Int32) (p2 : Int32) (p3 : Int32) (p4 : Int32) : Nat → Int32 → Int64 → Int32 → Mem → Option (Int64 × Mem)
  | 0, _, _, _, _ => none
  | n + 1, x5, w6, x8, M => if (1 <<< (x5 &&& 31)) ≤ x8 then f_X5_luck_136 p1 p2 p3 p4 x5 w6 M else (f_X5_dropWinds x8 x5 p1 M).bind fun r2 => if (lg_cmp r2.1 0) ≤ 0 then f_X5_luck_130 p1 p2 p3 p4 (f_X5_luck_80 p1 p2 p3 p4 n) x5 w6 x8 r2.2 else (f_X0_gives 14 p2 p3 r2.2).bind fun r4 => if r4.1 = 0 then f_X5_luck_130 p1 p2 p3 p4 (f_X5_luck_80 p1 p2 p3 p4 n) x5 w6 x8 r4.2 else ll (w6 + r2.1) fun y6 => f_X5_luck_130 p1 p2 p3 p4 (f_X5_luck_80 p1 p2 p3 p4 n) x5 y6 x8 r4.2
theorem o_X5_luck_80 {E : GE} {Q : Option Value → Mem → Prop} {p1 : Int32} {p2 : Int32} {p3 : Int32} {p4 : Int32} : ∀ (n : Nat) {x5 : Int32} {w6 : Int64} {x8 : Int32} {M : Mem}, wp (f_X5_luck_80 p1 p2 p3 p4 n x5 w6 x8 M) gLM Q → Ev E mi_X5_luck 80 [(0, .ref (ad E 0)), (1, .int p1), (2, .int p2), (3, .int p3), (4, .int p4), (5, .int x5), (6, .long w6), (8, .int x8)] [] M Q := by
  intro n
  induction n with
  | zero => intro _ _ _ _ h; exact absurd h wp_none
  | succ n ih =>
    intro x5 w6 x8 M h
    unfold f_X5_luck_80 at h
    refine Ev.iload dX5_luck_80 7 rfl ?_
    refine Ev.iconst (v := 1) dX5_luck_82 rfl ?_
    refine Ev.iload dX5_luck_83 5 rfl ?_
    refine Ev.ishl dX5_luck_85 ?_
    refine Ev.icmp_ge (tgt := 136) dX5_luck_86 (by decide) (fun c1 => ?_) (fun c1 => ?_)
    · replace h := wp_t c1 h
      refine Ev.sub [4, 5, 6] rfl ?_
      exact o_X5_luck_136 h
    · replace h := wp_f c1 h
      refine Ev.aload_n dX5_luck_89 rfl 0 rfl ?_
      refine Ev.iload dX5_luck_90 7 rfl ?_
      refine Ev.iload dX5_luck_92 5 rfl ?_
      refine Ev.iload_n dX5_luck_94 rfl 1 rfl ?_
      obtain ⟨r2, er2, h⟩ := wp_bind h
      refine Ev.callV (k := 0) (as := [.int x8, .int x5, .int p1]) (rest := []) dX5_luck_95 cl_X5_237 mok_X5_dropWinds rfl (Nat.le_of_ble_eq_true rfl) (Nat.le_of_ble_eq_true rfl) ⟨Nat.le_of_ble_eq_true rfl, Nat.le_of_ble_eq_true rfl⟩ (Nat.le_of_ble_eq_true rfl) rfl rfl (o_X5_dropWinds ⟨r2, er2, ?_⟩)
      show Ev E mi_X5_luck 98 [(0, .ref (ad E 0)), (1, .int p1), (2, .int p2), (3, .int p3), (4, .int p4), (5, .int x5), (6, .long w6), (8, .int x8)] [.long r2.1] r2.2 Q
      refine Ev.lstore dX5_luck_98 (Nat.le_of_ble_eq_true rfl) rfl ?_
      show Ev E mi_X5_luck 100 [(9, .long r2.1), (0, .ref (ad E 0)), (1, .int p1), (2, .int p2), (3, .int p3), (4, .int p4), (5, .int x5), (6, .long w6), (8, .int x8)] [] r2.2 Q
      refine Ev.lload dX5_luck_100 0 rfl ?_
      refine Ev.lconst (v := 0) dX5_luck_102 rfl ?_
      refine Ev.lcmp dX5_luck_103 ?_
      refine Ev.if_le (tgt := 130) dX5_luck_104 (by decide) (fun c3 => ?_) (fun c3 => ?_)
      · replace h := wp_t c3 h
        refine Ev.sub [1, 2, 3, 4, 5, 6, 7, 8] rfl ?_
        exact o_X5_luck_130 (fun _ _ _ _ h => ih h) h
      · replace h := wp_f c3 h
        refine Ev.aload_n dX5_luck_107 rfl 1 rfl ?_
        refine Ev.get dX5_luck_108 fl_X5_49 rfl (Nat.le_of_ble_eq_true rfl) (v := .ref (ad E 40)) rfl ?_
        refine Ev.aload_n dX5_luck_111 rfl 1 rfl ?_
        refine Ev.get dX5_luck_112 fl_X5_28 rfl (Nat.le_of_ble_eq_true rfl) (v := .ref (ad E 14)) rfl ?_
        refine Ev.iload_n dX5_luck_115 rfl 3 rfl ?_
        refine Ev.iload_n dX5_luck_116 rfl 4 rfl ?_
        obtain ⟨r4, er4, h⟩ := wp_bind h
        refine Ev.callN (k := 40) (as := [.ref (ad E 14), .int p2, .int p3]) (rest := []) dX5_luck_117 cn_X5_204 mok_X0_gives rfl (Nat.le_of_ble_eq_true rfl) (Nat.le_of_ble_eq_true rfl) ⟨Nat.le_of_ble_eq_true rfl, Nat.le_of_ble_eq_true rfl⟩ (Nat.le_of_ble_eq_true rfl) rfl rfl (o_X0_gives sea_14 ⟨r4, er4, ?_⟩)
        show Ev E mi_X5_luck 120 [(9, .long r2.1), (0, .ref (ad E 0)), (1, .int p1), (2, .int p2), (3, .int p3), (4, .int p4), (5, .int x5), (6, .long w6), (8, .int x8)] [.int r4.1] r4.2 Q
        refine Ev.if_eq (tgt := 130) dX5_luck_120 (by decide) (fun c5 => ?_) (fun c5 => ?_)
        · replace h := wp_t c5 h
          refine Ev.sub [1, 2, 3, 4, 5, 6, 7, 8] rfl ?_
          exact o_X5_luck_130 (fun _ _ _ _ h => ih h) h
        · replace h := wp_f c5 h
          refine Ev.lload dX5_luck_123 7 rfl ?_
          refine Ev.lload dX5_luck_125 0 rfl ?_
          refine Ev.ladd dX5_luck_127 ?_
          refine Ev.topl (fun y6 ey6 => ?_)
          replace h := wp_ll h y6 ey6
          refine Ev.lstore dX5_luck_128 (Nat.le_of_ble_eq_true rfl) rfl ?_
          show Ev E mi_X5_luck 130 [(6, .long y6), (9, .long r2.1), (0, .ref (ad E 0)), (1, .int p1), (2, .int p2), (3, .int p3), (4, .int p4), (5, .int x5), (8, .int x8)] [] r4.2 Q
          refine Ev.sub [2, 3, 4, 5, 6, 7, 0, 8] rfl ?_
          exact o_X5_luck_130 (fun _ _ _ _ h => ih h) h
noncomputable def f_X5_luck (p1 : Int32) (p2 : Int32) (p3 : Int32) (p4 : Int32) (M : Mem) : Option (Int64 × Mem) := (f_X5_within p1 0 10 M).bind fun r1 => if r1 = 0 then some ((-1), M) else (f_X2_isTub 9 p2 M).bind fun r3 => if r3 = 0 then some ((-1), M) else (f_X2_isHeir 9 p3 M).bind fun r5 => if r5 = 0 then some ((-1), M) else (f_X5_within p4 0 1 M).bind fun r7 => if r7 = 0 then some ((-1), M) else (f_X5_listWindyHours M).bind fun r9 => if r9.1 ≤ 8 then (f_X2_become 14 9 r9.2).bind fun r11 => f_X5_luck_80 p1 p2 p3 p4 FU r9.1 0 0 r11 else some ((-2), r9.2)
theorem o_X5_luck {E : GE} {Q : Option Value → Mem → Prop} {p1 : Int32} {p2 : Int32} {p3 : Int32} {p4 : Int32} {M : Mem} (h : wp (f_X5_luck p1 p2 p3 p4 M) gLM Q) : Runs E mi_X5_luck [.ref (ad E 0), .int p1, .int p2, .int p3, .int p4] M Q := by
  refine Runs.ofEv (by decide +kernel) (Nat.le_of_ble_eq_true rfl) ?_
  show Ev E mi_X5_luck 0 [(0, .ref (ad E 0)), (1, .int p1), (2, .int p2), (3, .int p3), (4, .int p4)] [] M Q
  unfold f_X5_luck at h
  refine Ev.iload_n dX5_luck_0 rfl 1 rfl ?_
  refine Ev.iconst (v := 0) dX5_luck_1 rfl ?_
  refine Ev.bipush (v := 10) dX5_luck_2 rfl ?_
  obtain ⟨r1, er1, h⟩ := wp_bind h
  refine Ev.callS (as := [.int p1, .int 0, .int 10]) (rest := []) dX5_luck_4 cl_X5_75 mos_X5_within ⟨Nat.le_of_ble_eq_true rfl, Nat.le_of_ble_eq_true rfl⟩ (Nat.le_of_ble_eq_true rfl) rfl rfl (o_X5_within ⟨r1, er1, ?_⟩)
  show Ev E mi_X5_luck 7 [(0, .ref (ad E 0)), (1, .int p1), (2, .int p2), (3, .int p3), (4, .int p4)] [.int r1] M Q
  refine Ev.if_eq (tgt := 42) dX5_luck_7 (by decide) (fun c2 => ?_) (fun c2 => ?_)
  · replace h := wp_t c2 h
    refine Ev.ldc2 dX5_luck_42 fc_X5_233 ?_
    exact Ev.lret dX5_luck_45 rfl (wp_ret h)
  · replace h := wp_f c2 h
    refine Ev.aload_n dX5_luck_10 rfl 0 rfl ?_
    refine Ev.get dX5_luck_11 fl_X5_24 rfl (Nat.le_of_ble_eq_true rfl) (v := .ref (ad E 9)) rfl ?_
    refine Ev.iload_n dX5_luck_14 rfl 2 rfl ?_
    obtain ⟨r3, er3, h⟩ := wp_bind h
    refine Ev.callN (k := 9) (as := [.int p2]) (rest := []) dX5_luck_15 cn_X5_124 mok_X2_isTub rfl (Nat.le_of_ble_eq_true rfl) (Nat.le_of_ble_eq_true rfl) ⟨Nat.le_of_ble_eq_true rfl, Nat.le_of_ble_eq_true rfl⟩ (Nat.le_of_ble_eq_true rfl) rfl rfl (o_X2_isTub sea_9 ⟨r3, er3, ?_⟩)
    show Ev E mi_X5_luck 18 [(0, .ref (ad E 0)), (1, .int p1), (2, .int p2), (3, .int p3), (4, .int p4)] [.int r3] M Q
    refine Ev.if_eq (tgt := 42) dX5_luck_18 (by decide) (fun c4 => ?_) (fun c4 => ?_)
    · replace h := wp_t c4 h
      refine Ev.ldc2 dX5_luck_42 fc_X5_233 ?_
      exact Ev.lret dX5_luck_45 rfl (wp_ret h)
    · replace h := wp_f c4 h
      refine Ev.aload_n dX5_luck_21 rfl 0 rfl ?_
      refine Ev.get dX5_luck_22 fl_X5_24 rfl (Nat.le_of_ble_eq_true rfl) (v := .ref (ad E 9)) rfl ?_
      refine Ev.iload_n dX5_luck_25 rfl 3 rfl ?_
      obtain ⟨r5, er5, h⟩ := wp_bind h
      refine Ev.callN (k := 9) (as := [.int p3]) (rest := []) dX5_luck_26 cn_X5_134 mok_X2_isHeir rfl (Nat.le_of_ble_eq_true rfl) (Nat.le_of_ble_eq_true rfl) ⟨Nat.le_of_ble_eq_true rfl, Nat.le_of_ble_eq_true rfl⟩ (Nat.le_of_ble_eq_true rfl) rfl rfl (o_X2_isHeir sea_9 ⟨r5, er5, ?_⟩)
      show Ev E mi_X5_luck 29 [(0, .ref (ad E 0)), (1, .int p1), (2, .int p2), (3, .int p3), (4, .int p4)] [.int r5] M Q
      refine Ev.if_eq (tgt := 42) dX5_luck_29 (by decide) (fun c6 => ?_) (fun c6 => ?_)
      · replace h := wp_t c6 h
        refine Ev.ldc2 dX5_luck_42 fc_X5_233 ?_
        exact Ev.lret dX5_luck_45 rfl (wp_ret h)
      · replace h := wp_f c6 h
        refine Ev.iload dX5_luck_32 4 rfl ?_
        refine Ev.iconst (v := 0) dX5_luck_34 rfl ?_
        refine Ev.iconst (v := 1) dX5_luck_35 rfl ?_
        obtain ⟨r7, er7, h⟩ := wp_bind h
        refine Ev.callS (as := [.int p4, .int 0, .int 1]) (rest := []) dX5_luck_36 cl_X5_75 mos_X5_within ⟨Nat.le_of_ble_eq_true rfl, Nat.le_of_ble_eq_true rfl⟩ (Nat.le_of_ble_eq_true rfl) rfl rfl (o_X5_within ⟨r7, er7, ?_⟩)
        show Ev E mi_X5_luck 39 [(0, .ref (ad E 0)), (1, .int p1), (2, .int p2), (3, .int p3), (4, .int p4)] [.int r7] M Q
        refine Ev.if_ne (tgt := 46) dX5_luck_39 (by decide) (fun c8 => ?_) (fun c8 => ?_)
        · replace h := wp_t c8 h
          refine Ev.ldc2 dX5_luck_42 fc_X5_233 ?_
          exact Ev.lret dX5_luck_45 rfl (wp_ret h)
        · replace h := wp_f c8 h
          refine Ev.aload_n dX5_luck_46 rfl 0 rfl ?_
          obtain ⟨r9, er9, h⟩ := wp_bind h
          refine Ev.callV (k := 0) (as := []) (rest := []) dX5_luck_47 cl_X5_121 mok_X5_listWindyHours rfl (Nat.le_of_ble_eq_true rfl) (Nat.le_of_ble_eq_true rfl) ⟨Nat.le_of_ble_eq_true rfl, Nat.le_of_ble_eq_true rfl⟩ (Nat.le_of_ble_eq_true rfl) rfl rfl (o_X5_listWindyHours ⟨r9, er9, ?_⟩)
          show Ev E mi_X5_luck 50 [(0, .ref (ad E 0)), (1, .int p1), (2, .int p2), (3, .int p3), (4, .int p4)] [.int r9.1] r9.2 Q
          refine Ev.istore dX5_luck_50 (Nat.le_of_ble_eq_true rfl) rfl ?_
          show Ev E mi_X5_luck 52 [(5, .int r9.1), (0, .ref (ad E 0)), (1, .int p1), (2, .int p2), (3, .int p3), (4, .int p4)] [] r9.2 Q
          refine Ev.iload dX5_luck_52 0 rfl ?_
          refine Ev.bipush (v := 8) dX5_luck_54 rfl ?_
          refine Ev.icmp_le (tgt := 63) dX5_luck_56 (by decide) (fun c10 => ?_) (fun c10 => ?_)
          · replace h := wp_t c10 h
            refine Ev.aload_n dX5_luck_63 rfl 1 rfl ?_
            refine Ev.get dX5_luck_64 fl_X5_28 rfl (Nat.le_of_ble_eq_true rfl) (v := .ref (ad E 14)) rfl ?_
            refine Ev.aload_n dX5_luck_67 rfl 1 rfl ?_
            refine Ev.get dX5_luck_68 fl_X5_24 rfl (Nat.le_of_ble_eq_true rfl) (v := .ref (ad E 9)) rfl ?_
            obtain ⟨r11, er11, h⟩ := wp_bind h
            refine Ev.callN (k := 14) (as := [.ref (ad E 9)]) (rest := []) dX5_luck_71 cn_X5_102 mok_X2_become rfl (Nat.le_of_ble_eq_true rfl) (Nat.le_of_ble_eq_true rfl) ⟨Nat.le_of_ble_eq_true rfl, Nat.le_of_ble_eq_true rfl⟩ (Nat.le_of_ble_eq_true rfl) rfl rfl (o_X2_become sea_14 sea_9 ⟨r11, er11, ?_⟩)
            show Ev E mi_X5_luck 74 [(5, .int r9.1), (0, .ref (ad E 0)), (1, .int p1), (2, .int p2), (3, .int p3), (4, .int p4)] [] r11 Q
            refine Ev.lconst (v := 0) dX5_luck_74 rfl ?_
            refine Ev.lstore dX5_luck_75 (Nat.le_of_ble_eq_true rfl) rfl ?_
            show Ev E mi_X5_luck 77 [(6, .long 0), (5, .int r9.1), (0, .ref (ad E 0)), (1, .int p1), (2, .int p2), (3, .int p3), (4, .int p4)] [] r11 Q
            refine Ev.iconst (v := 0) dX5_luck_77 rfl ?_
            refine Ev.istore dX5_luck_78 (Nat.le_of_ble_eq_true rfl) rfl ?_
            show Ev E mi_X5_luck 80 [(8, .int 0), (6, .long 0), (5, .int r9.1), (0, .ref (ad E 0)), (1, .int p1), (2, .int p2), (3, .int p3), (4, .int p4)] [] r11 Q
            refine Ev.sub [3, 4, 5, 6, 7, 2, 1, 0] rfl ?_
            exact o_X5_luck_80 FU h
          · replace h := wp_f c10 h
            refine Ev.ldc2 dX5_luck_59 fc_X5_235 ?_
            exact Ev.lret dX5_luck_62 rfl (wp_ret h)

noncomputable def f_X5_mean_130 (p1 : Int32) (p2 : Int32) (p3 : Int32) (t68 : Int32 → Int64 → Int32 → Mem → Option (Int64 × Mem)) (x4 : Int32) (w5 : Int64) (x7 : Int32) (M : Mem) : Option (Int64 × Mem) := t68 x4 w5 (x7 + 1) M
theorem o_X5_mean_130 {E : GE} {Q : Option Value → Mem → Prop} {p1 : Int32} {p2 : Int32} {p3 : Int32} {t68 : Int32 → Int64 → Int32 → Mem → Option (Int64 × Mem)} {x4 : Int32} {w5 : Int64} {x7 : Int32} {M : Mem} (ht68 : ∀ (x4 : Int32) (w5 : Int64) (x7 : Int32) (M : Mem), wp (t68 x4 w5 x7 M) gLM Q → Ev E mi_X5_mean 68 [(0, .ref (ad E 0)), (1, .int p1), (2, .int p2), (3, .int p3), (4, .int x4), (5, .long w5), (7, .int x7)] [] M Q) (h : wp (f_X5_mean_130 p1 p2 p3 t68 x4 w5 x7 M) gLM Q) : Ev E mi_X5_mean 130 [(0, .ref (ad E 0)), (1, .int p1), (2, .int p2), (3, .int p3), (4, .int x4), (5, .long w5), (7, .int x7)] [] M Q := by
  unfold f_X5_mean_130 at h
  refine Ev.iinc (v := x7 + 1) dX5_mean_130 6 rfl rfl (Nat.le_of_ble_eq_true rfl) rfl ?_
  show Ev E mi_X5_mean 133 [(7, .int (x7 + 1)), (0, .ref (ad E 0)), (1, .int p1), (2, .int p2), (3, .int p3), (4, .int x4), (5, .long w5)] [] M Q
  refine Ev.goto (tgt := 68) dX5_mean_133 (by decide) ?_
  refine Ev.sub [1, 2, 3, 4, 5, 6, 0] rfl ?_
  exact ht68 _ _ _ _ h
noncomputable def f_X5_mean_136 (p1 : Int32) (p2 : Int32) (p3 : Int32) (x4 : Int32) (w5 : Int64) (M : Mem) : Option (Int64 × Mem) := (f_X5_allOdds x4 M).bind fun r1 => (f_X5_partOfFraction w5 r1 p3 M).bind fun r2 => some (r2, M)
theorem o_X5_mean_136 {E : GE} {Q : Option Value → Mem → Prop} {p1 : Int32} {p2 : Int32} {p3 : Int32} {x4 : Int32} {w5 : Int64} {M : Mem} (h : wp (f_X5_mean_136 p1 p2 p3 x4 w5 M) gLM Q) : Ev E mi_X5_mean 136 [(3, .int p3), (4, .int x4), (5, .long w5)] [] M Q := by
  unfold f_X5_mean_136 at h
  refine Ev.lload dX5_mean_136 2 rfl ?_
  refine Ev.iload dX5_mean_138 1 rfl ?_
  obtain ⟨r1, er1, h⟩ := wp_bind h
  refine Ev.callS (as := [.int x4]) (rest := [.long w5]) dX5_mean_140 cl_X5_241 mos_X5_allOdds ⟨Nat.le_of_ble_eq_true rfl, Nat.le_of_ble_eq_true rfl⟩ (Nat.le_of_ble_eq_true rfl) rfl rfl (o_X5_allOdds ⟨r1, er1, ?_⟩)
  show Ev E mi_X5_mean 143 [(3, .int p3), (4, .int x4), (5, .long w5)] [.long r1, .long w5] M Q
  refine Ev.iload_n dX5_mean_143 rfl 0 rfl ?_
  obtain ⟨r2, er2, h⟩ := wp_bind h
  refine Ev.callS (as := [.long w5, .long r1, .int p3]) (rest := []) dX5_mean_144 cl_X5_245 mos_X5_partOfFraction ⟨Nat.le_of_ble_eq_true rfl, Nat.le_of_ble_eq_true rfl⟩ (Nat.le_of_ble_eq_true rfl) rfl rfl (o_X5_partOfFraction ⟨r2, er2, ?_⟩)
  show Ev E mi_X5_mean 147 [(3, .int p3), (4, .int x4), (5, .long w5)] [.long r2] M Q
  exact Ev.lret dX5_mean_147 rfl (wp_ret h)
noncomputable def f_X5_mean_68 (p1 : Int32) (p2 : Int32) (p3 : Int32) : Nat → Int32 → Int64 → Int32 → Mem → Option (Int64 × Mem)
  | 0, _, _, _, _ => none
  | n + 1, x4, w5, x7, M => if (1 <<< (x4 &&& 31)) ≤ x7 then f_X5_mean_136 p1 p2 p3 x4 w5 M else (f_X5_dropWinds x7 x4 p1 M).bind fun r2 => if (lg_cmp r2.1 0) = 0 then f_X5_mean_130 p1 p2 p3 (f_X5_mean_68 p1 p2 p3 n) x4 w5 x7 r2.2 else (f_X0_run 14 r2.2).bind fun r4 => (f_X0_estatesOf 14 p2 r4).bind fun r5 => ll (w5 + (r2.1 * r5.toInt64)) fun y6 => f_X5_mean_130 p1 p2 p3 (f_X5_mean_68 p1 p2 p3 n) x4 y6 x7 r4
theorem o_X5_mean_68 {E : GE} {Q : Option Value → Mem → Prop} {p1 : Int32} {p2 : Int32} {p3 : Int32} : ∀ (n : Nat) {x4 : Int32} {w5 : Int64} {x7 : Int32} {M : Mem}, wp (f_X5_mean_68 p1 p2 p3 n x4 w5 x7 M) gLM Q → Ev E mi_X5_mean 68 [(0, .ref (ad E 0)), (1, .int p1), (2, .int p2), (3, .int p3), (4, .int x4), (5, .long w5), (7, .int x7)] [] M Q := by
  intro n
  induction n with
  | zero => intro _ _ _ _ h; exact absurd h wp_none
  | succ n ih =>
    intro x4 w5 x7 M h
    unfold f_X5_mean_68 at h
    refine Ev.iload dX5_mean_68 6 rfl ?_
    refine Ev.iconst (v := 1) dX5_mean_70 rfl ?_
    refine Ev.iload dX5_mean_71 4 rfl ?_
    refine Ev.ishl dX5_mean_73 ?_
    refine Ev.icmp_ge (tgt := 136) dX5_mean_74 (by decide) (fun c1 => ?_) (fun c1 => ?_)
    · replace h := wp_t c1 h
      refine Ev.sub [3, 4, 5] rfl ?_
      exact o_X5_mean_136 h
    · replace h := wp_f c1 h
      refine Ev.aload_n dX5_mean_77 rfl 0 rfl ?_
      refine Ev.iload dX5_mean_78 6 rfl ?_
      refine Ev.iload dX5_mean_80 4 rfl ?_
      refine Ev.iload_n dX5_mean_82 rfl 1 rfl ?_
      obtain ⟨r2, er2, h⟩ := wp_bind h
      refine Ev.callV (k := 0) (as := [.int x7, .int x4, .int p1]) (rest := []) dX5_mean_83 cl_X5_237 mok_X5_dropWinds rfl (Nat.le_of_ble_eq_true rfl) (Nat.le_of_ble_eq_true rfl) ⟨Nat.le_of_ble_eq_true rfl, Nat.le_of_ble_eq_true rfl⟩ (Nat.le_of_ble_eq_true rfl) rfl rfl (o_X5_dropWinds ⟨r2, er2, ?_⟩)
      show Ev E mi_X5_mean 86 [(0, .ref (ad E 0)), (1, .int p1), (2, .int p2), (3, .int p3), (4, .int x4), (5, .long w5), (7, .int x7)] [.long r2.1] r2.2 Q
      refine Ev.lstore dX5_mean_86 (Nat.le_of_ble_eq_true rfl) rfl ?_
      show Ev E mi_X5_mean 88 [(8, .long r2.1), (0, .ref (ad E 0)), (1, .int p1), (2, .int p2), (3, .int p3), (4, .int x4), (5, .long w5), (7, .int x7)] [] r2.2 Q
      refine Ev.lload dX5_mean_88 0 rfl ?_
      refine Ev.lconst (v := 0) dX5_mean_90 rfl ?_
      refine Ev.lcmp dX5_mean_91 ?_
      refine Ev.if_ne (tgt := 98) dX5_mean_92 (by decide) (fun c3 => ?_) (fun c3 => ?_)
      · replace h := wp_t c3 h
        refine Ev.goto (tgt := 130) dX5_mean_95 (by decide) ?_
        refine Ev.sub [1, 2, 3, 4, 5, 6, 7] rfl ?_
        exact o_X5_mean_130 (fun _ _ _ _ h => ih h) h
      · replace h := wp_f c3 h
        refine Ev.aload_n dX5_mean_98 rfl 1 rfl ?_
        refine Ev.get dX5_mean_99 fl_X5_49 rfl (Nat.le_of_ble_eq_true rfl) (v := .ref (ad E 40)) rfl ?_
        refine Ev.aload_n dX5_mean_102 rfl 1 rfl ?_
        refine Ev.get dX5_mean_103 fl_X5_28 rfl (Nat.le_of_ble_eq_true rfl) (v := .ref (ad E 14)) rfl ?_
        obtain ⟨r4, er4, h⟩ := wp_bind h
        refine Ev.callN (k := 40) (as := [.ref (ad E 14)]) (rest := []) dX5_mean_106 cn_X5_187 mok_X0_run rfl (Nat.le_of_ble_eq_true rfl) (Nat.le_of_ble_eq_true rfl) ⟨Nat.le_of_ble_eq_true rfl, Nat.le_of_ble_eq_true rfl⟩ (Nat.le_of_ble_eq_true rfl) rfl rfl (o_X0_run sea_14 ⟨r4, er4, ?_⟩)
        show Ev E mi_X5_mean 109 [(8, .long r2.1), (0, .ref (ad E 0)), (1, .int p1), (2, .int p2), (3, .int p3), (4, .int x4), (5, .long w5), (7, .int x7)] [] r4 Q
        refine Ev.lload dX5_mean_109 6 rfl ?_
        refine Ev.lload dX5_mean_111 0 rfl ?_
        refine Ev.aload_n dX5_mean_113 rfl 1 rfl ?_
        refine Ev.get dX5_mean_114 fl_X5_49 rfl (Nat.le_of_ble_eq_true rfl) (v := .ref (ad E 40)) rfl ?_
        refine Ev.aload_n dX5_mean_117 rfl 1 rfl ?_
        refine Ev.get dX5_mean_118 fl_X5_28 rfl (Nat.le_of_ble_eq_true rfl) (v := .ref (ad E 14)) rfl ?_
        refine Ev.iload_n dX5_mean_121 rfl 3 rfl ?_
        obtain ⟨r5, er5, h⟩ := wp_bind h
        refine Ev.callN (k := 40) (as := [.ref (ad E 14), .int p2]) (rest := [.long r2.1, .long w5]) dX5_mean_122 cn_X5_190 mok_X0_estatesOf rfl (Nat.le_of_ble_eq_true rfl) (Nat.le_of_ble_eq_true rfl) ⟨Nat.le_of_ble_eq_true rfl, Nat.le_of_ble_eq_true rfl⟩ (Nat.le_of_ble_eq_true rfl) rfl rfl (o_X0_estatesOf sea_14 ⟨r5, er5, ?_⟩)
        show Ev E mi_X5_mean 125 [(8, .long r2.1), (0, .ref (ad E 0)), (1, .int p1), (2, .int p2), (3, .int p3), (4, .int x4), (5, .long w5), (7, .int x7)] [.int r5, .long r2.1, .long w5] r4 Q
        refine Ev.i2l dX5_mean_125 ?_
        refine Ev.lmul dX5_mean_126 ?_
        refine Ev.ladd dX5_mean_127 ?_
        refine Ev.topl (fun y6 ey6 => ?_)
        replace h := wp_ll h y6 ey6
        refine Ev.lstore dX5_mean_128 (Nat.le_of_ble_eq_true rfl) rfl ?_
        show Ev E mi_X5_mean 130 [(5, .long y6), (8, .long r2.1), (0, .ref (ad E 0)), (1, .int p1), (2, .int p2), (3, .int p3), (4, .int x4), (7, .int x7)] [] r4 Q
        refine Ev.sub [2, 3, 4, 5, 6, 0, 7] rfl ?_
        exact o_X5_mean_130 (fun _ _ _ _ h => ih h) h
noncomputable def f_X5_mean (p1 : Int32) (p2 : Int32) (p3 : Int32) (M : Mem) : Option (Int64 × Mem) := (f_X5_within p1 0 10 M).bind fun r1 => if r1 = 0 then some ((-1), M) else (f_X2_isHeir 9 p2 M).bind fun r3 => if r3 = 0 then some ((-1), M) else (f_X5_within p3 0 1 M).bind fun r5 => if r5 = 0 then some ((-1), M) else (f_X5_listWindyHours M).bind fun r7 => if r7.1 ≤ 8 then (f_X2_become 14 9 r7.2).bind fun r9 => f_X5_mean_68 p1 p2 p3 FU r7.1 0 0 r9 else some ((-2), r7.2)
theorem o_X5_mean {E : GE} {Q : Option Value → Mem → Prop} {p1 : Int32} {p2 : Int32} {p3 : Int32} {M : Mem} (h : wp (f_X5_mean p1 p2 p3 M) gLM Q) : Runs E mi_X5_mean [.ref (ad E 0), .int p1, .int p2, .int p3] M Q := by
  refine Runs.ofEv (by decide +kernel) (Nat.le_of_ble_eq_true rfl) ?_
  show Ev E mi_X5_mean 0 [(0, .ref (ad E 0)), (1, .int p1), (2, .int p2), (3, .int p3)] [] M Q
  unfold f_X5_mean at h
  refine Ev.iload_n dX5_mean_0 rfl 1 rfl ?_
  refine Ev.iconst (v := 0) dX5_mean_1 rfl ?_
  refine Ev.bipush (v := 10) dX5_mean_2 rfl ?_
  obtain ⟨r1, er1, h⟩ := wp_bind h
  refine Ev.callS (as := [.int p1, .int 0, .int 10]) (rest := []) dX5_mean_4 cl_X5_75 mos_X5_within ⟨Nat.le_of_ble_eq_true rfl, Nat.le_of_ble_eq_true rfl⟩ (Nat.le_of_ble_eq_true rfl) rfl rfl (o_X5_within ⟨r1, er1, ?_⟩)
  show Ev E mi_X5_mean 7 [(0, .ref (ad E 0)), (1, .int p1), (2, .int p2), (3, .int p3)] [.int r1] M Q
  refine Ev.if_eq (tgt := 30) dX5_mean_7 (by decide) (fun c2 => ?_) (fun c2 => ?_)
  · replace h := wp_t c2 h
    refine Ev.ldc2 dX5_mean_30 fc_X5_233 ?_
    exact Ev.lret dX5_mean_33 rfl (wp_ret h)
  · replace h := wp_f c2 h
    refine Ev.aload_n dX5_mean_10 rfl 0 rfl ?_
    refine Ev.get dX5_mean_11 fl_X5_24 rfl (Nat.le_of_ble_eq_true rfl) (v := .ref (ad E 9)) rfl ?_
    refine Ev.iload_n dX5_mean_14 rfl 2 rfl ?_
    obtain ⟨r3, er3, h⟩ := wp_bind h
    refine Ev.callN (k := 9) (as := [.int p2]) (rest := []) dX5_mean_15 cn_X5_134 mok_X2_isHeir rfl (Nat.le_of_ble_eq_true rfl) (Nat.le_of_ble_eq_true rfl) ⟨Nat.le_of_ble_eq_true rfl, Nat.le_of_ble_eq_true rfl⟩ (Nat.le_of_ble_eq_true rfl) rfl rfl (o_X2_isHeir sea_9 ⟨r3, er3, ?_⟩)
    show Ev E mi_X5_mean 18 [(0, .ref (ad E 0)), (1, .int p1), (2, .int p2), (3, .int p3)] [.int r3] M Q
    refine Ev.if_eq (tgt := 30) dX5_mean_18 (by decide) (fun c4 => ?_) (fun c4 => ?_)
    · replace h := wp_t c4 h
      refine Ev.ldc2 dX5_mean_30 fc_X5_233 ?_
      exact Ev.lret dX5_mean_33 rfl (wp_ret h)
    · replace h := wp_f c4 h
      refine Ev.iload_n dX5_mean_21 rfl 3 rfl ?_
      refine Ev.iconst (v := 0) dX5_mean_22 rfl ?_
      refine Ev.iconst (v := 1) dX5_mean_23 rfl ?_
      obtain ⟨r5, er5, h⟩ := wp_bind h
      refine Ev.callS (as := [.int p3, .int 0, .int 1]) (rest := []) dX5_mean_24 cl_X5_75 mos_X5_within ⟨Nat.le_of_ble_eq_true rfl, Nat.le_of_ble_eq_true rfl⟩ (Nat.le_of_ble_eq_true rfl) rfl rfl (o_X5_within ⟨r5, er5, ?_⟩)
      show Ev E mi_X5_mean 27 [(0, .ref (ad E 0)), (1, .int p1), (2, .int p2), (3, .int p3)] [.int r5] M Q
      refine Ev.if_ne (tgt := 34) dX5_mean_27 (by decide) (fun c6 => ?_) (fun c6 => ?_)
      · replace h := wp_t c6 h
        refine Ev.ldc2 dX5_mean_30 fc_X5_233 ?_
        exact Ev.lret dX5_mean_33 rfl (wp_ret h)
      · replace h := wp_f c6 h
        refine Ev.aload_n dX5_mean_34 rfl 0 rfl ?_
        obtain ⟨r7, er7, h⟩ := wp_bind h
        refine Ev.callV (k := 0) (as := []) (rest := []) dX5_mean_35 cl_X5_121 mok_X5_listWindyHours rfl (Nat.le_of_ble_eq_true rfl) (Nat.le_of_ble_eq_true rfl) ⟨Nat.le_of_ble_eq_true rfl, Nat.le_of_ble_eq_true rfl⟩ (Nat.le_of_ble_eq_true rfl) rfl rfl (o_X5_listWindyHours ⟨r7, er7, ?_⟩)
        show Ev E mi_X5_mean 38 [(0, .ref (ad E 0)), (1, .int p1), (2, .int p2), (3, .int p3)] [.int r7.1] r7.2 Q
        refine Ev.istore dX5_mean_38 (Nat.le_of_ble_eq_true rfl) rfl ?_
        show Ev E mi_X5_mean 40 [(4, .int r7.1), (0, .ref (ad E 0)), (1, .int p1), (2, .int p2), (3, .int p3)] [] r7.2 Q
        refine Ev.iload dX5_mean_40 0 rfl ?_
        refine Ev.bipush (v := 8) dX5_mean_42 rfl ?_
        refine Ev.icmp_le (tgt := 51) dX5_mean_44 (by decide) (fun c8 => ?_) (fun c8 => ?_)
        · replace h := wp_t c8 h
          refine Ev.aload_n dX5_mean_51 rfl 1 rfl ?_
          refine Ev.get dX5_mean_52 fl_X5_28 rfl (Nat.le_of_ble_eq_true rfl) (v := .ref (ad E 14)) rfl ?_
          refine Ev.aload_n dX5_mean_55 rfl 1 rfl ?_
          refine Ev.get dX5_mean_56 fl_X5_24 rfl (Nat.le_of_ble_eq_true rfl) (v := .ref (ad E 9)) rfl ?_
          obtain ⟨r9, er9, h⟩ := wp_bind h
          refine Ev.callN (k := 14) (as := [.ref (ad E 9)]) (rest := []) dX5_mean_59 cn_X5_102 mok_X2_become rfl (Nat.le_of_ble_eq_true rfl) (Nat.le_of_ble_eq_true rfl) ⟨Nat.le_of_ble_eq_true rfl, Nat.le_of_ble_eq_true rfl⟩ (Nat.le_of_ble_eq_true rfl) rfl rfl (o_X2_become sea_14 sea_9 ⟨r9, er9, ?_⟩)
          show Ev E mi_X5_mean 62 [(4, .int r7.1), (0, .ref (ad E 0)), (1, .int p1), (2, .int p2), (3, .int p3)] [] r9 Q
          refine Ev.lconst (v := 0) dX5_mean_62 rfl ?_
          refine Ev.lstore dX5_mean_63 (Nat.le_of_ble_eq_true rfl) rfl ?_
          show Ev E mi_X5_mean 65 [(5, .long 0), (4, .int r7.1), (0, .ref (ad E 0)), (1, .int p1), (2, .int p2), (3, .int p3)] [] r9 Q
          refine Ev.iconst (v := 0) dX5_mean_65 rfl ?_
          refine Ev.istore dX5_mean_66 (Nat.le_of_ble_eq_true rfl) rfl ?_
          show Ev E mi_X5_mean 68 [(7, .int 0), (5, .long 0), (4, .int r7.1), (0, .ref (ad E 0)), (1, .int p1), (2, .int p2), (3, .int p3)] [] r9 Q
          refine Ev.sub [3, 4, 5, 6, 2, 1, 0] rfl ?_
          exact o_X5_mean_68 FU h
        · replace h := wp_f c8 h
          refine Ev.ldc2 dX5_mean_47 fc_X5_235 ?_
          exact Ev.lret dX5_mean_50 rfl (wp_ret h)

noncomputable def f_X5_see (p1 : Int32) (p2 : Int32) (p3 : Int32) (M : Mem) : Option (Int32 × Mem) := (f_X2_isTub 9 p1 M).bind fun r1 => if r1 = 0 then some ((-1), M) else (f_X5_within p2 0 24 M).bind fun r3 => if r3 = 0 then some ((-1), M) else (f_X5_within p3 0 30 M).bind fun r5 => if r5 = 0 then some ((-1), M) else if (M 0 15) < 6 then inb (M 0 15) 6 <| lm (up M 47 (M 0 15).toNatClampNeg p1) fun M9 => inb (M9 0 15) 6 <| lm (up M9 48 (M9 0 15).toNatClampNeg p2) fun M11 => inb (M11 0 15) 6 <| lm (up M11 49 (M11 0 15).toNatClampNeg p3) fun M13 => lm (up M13 0 15 ((M13 0 15) + 1)) fun M14 => some (M14 0 15, M14) else some ((-3), M)
theorem o_X5_see {E : GE} {Q : Option Value → Mem → Prop} {p1 : Int32} {p2 : Int32} {p3 : Int32} {M : Mem} (h : wp (f_X5_see p1 p2 p3 M) gIM Q) : Runs E mi_X5_see [.ref (ad E 0), .int p1, .int p2, .int p3] M Q := by
  refine Runs.ofEv (by decide +kernel) (Nat.le_of_ble_eq_true rfl) ?_
  show Ev E mi_X5_see 0 [(0, .ref (ad E 0)), (1, .int p1), (2, .int p2), (3, .int p3)] [] M Q
  unfold f_X5_see at h
  refine Ev.aload_n dX5_see_0 rfl 0 rfl ?_
  refine Ev.get dX5_see_1 fl_X5_24 rfl (Nat.le_of_ble_eq_true rfl) (v := .ref (ad E 9)) rfl ?_
  refine Ev.iload_n dX5_see_4 rfl 1 rfl ?_
  obtain ⟨r1, er1, h⟩ := wp_bind h
  refine Ev.callN (k := 9) (as := [.int p1]) (rest := []) dX5_see_5 cn_X5_124 mok_X2_isTub rfl (Nat.le_of_ble_eq_true rfl) (Nat.le_of_ble_eq_true rfl) ⟨Nat.le_of_ble_eq_true rfl, Nat.le_of_ble_eq_true rfl⟩ (Nat.le_of_ble_eq_true rfl) rfl rfl (o_X2_isTub sea_9 ⟨r1, er1, ?_⟩)
  show Ev E mi_X5_see 8 [(0, .ref (ad E 0)), (1, .int p1), (2, .int p2), (3, .int p3)] [.int r1] M Q
  refine Ev.if_eq (tgt := 31) dX5_see_8 (by decide) (fun c2 => ?_) (fun c2 => ?_)
  · replace h := wp_t c2 h
    refine Ev.iconst (v := (-1)) dX5_see_31 rfl ?_
    exact Ev.ret dX5_see_32 rfl rfl (wp_ret h)
  · replace h := wp_f c2 h
    refine Ev.iload_n dX5_see_11 rfl 2 rfl ?_
    refine Ev.iconst (v := 0) dX5_see_12 rfl ?_
    refine Ev.bipush (v := 24) dX5_see_13 rfl ?_
    obtain ⟨r3, er3, h⟩ := wp_bind h
    refine Ev.callS (as := [.int p2, .int 0, .int 24]) (rest := []) dX5_see_15 cl_X5_75 mos_X5_within ⟨Nat.le_of_ble_eq_true rfl, Nat.le_of_ble_eq_true rfl⟩ (Nat.le_of_ble_eq_true rfl) rfl rfl (o_X5_within ⟨r3, er3, ?_⟩)
    show Ev E mi_X5_see 18 [(0, .ref (ad E 0)), (1, .int p1), (2, .int p2), (3, .int p3)] [.int r3] M Q
    refine Ev.if_eq (tgt := 31) dX5_see_18 (by decide) (fun c4 => ?_) (fun c4 => ?_)
    · replace h := wp_t c4 h
      refine Ev.iconst (v := (-1)) dX5_see_31 rfl ?_
      exact Ev.ret dX5_see_32 rfl rfl (wp_ret h)
    · replace h := wp_f c4 h
      refine Ev.iload_n dX5_see_21 rfl 3 rfl ?_
      refine Ev.iconst (v := 0) dX5_see_22 rfl ?_
      refine Ev.bipush (v := 30) dX5_see_23 rfl ?_
      obtain ⟨r5, er5, h⟩ := wp_bind h
      refine Ev.callS (as := [.int p3, .int 0, .int 30]) (rest := []) dX5_see_25 cl_X5_75 mos_X5_within ⟨Nat.le_of_ble_eq_true rfl, Nat.le_of_ble_eq_true rfl⟩ (Nat.le_of_ble_eq_true rfl) rfl rfl (o_X5_within ⟨r5, er5, ?_⟩)
      show Ev E mi_X5_see 28 [(0, .ref (ad E 0)), (1, .int p1), (2, .int p2), (3, .int p3)] [.int r5] M Q
      refine Ev.if_ne (tgt := 33) dX5_see_28 (by decide) (fun c6 => ?_) (fun c6 => ?_)
      · replace h := wp_t c6 h
        refine Ev.iconst (v := (-1)) dX5_see_31 rfl ?_
        exact Ev.ret dX5_see_32 rfl rfl (wp_ret h)
      · replace h := wp_f c6 h
        refine Ev.aload_n dX5_see_33 rfl 0 rfl ?_
        refine Ev.get dX5_see_34 fl_X5_106 rfl (Nat.le_of_ble_eq_true rfl) rfl ?_
        refine Ev.bipush (v := 6) dX5_see_37 rfl ?_
        refine Ev.icmp_lt (tgt := 45) dX5_see_39 (by decide) (fun c7 => ?_) (fun c7 => ?_)
        · replace h := wp_t c7 h
          refine Ev.aload_n dX5_see_45 rfl 0 rfl ?_
          refine Ev.get dX5_see_46 fl_X5_53 rfl (Nat.le_of_ble_eq_true rfl) (v := .ref (ad E 47)) rfl ?_
          refine Ev.aload_n dX5_see_49 rfl 0 rfl ?_
          refine Ev.get dX5_see_50 fl_X5_106 rfl (Nat.le_of_ble_eq_true rfl) rfl ?_
          refine Ev.iload_n dX5_see_53 rfl 1 rfl ?_
          obtain ⟨g8, h⟩ := wp_inb h
          refine Ev.iast dX5_see_54 rfl (Nat.le_of_ble_eq_true rfl) rfl g8 ?_
          refine Ev.topM (fun M9 eM9 => ?_)
          replace h := wp_lm h M9 eM9
          refine Ev.aload_n dX5_see_55 rfl 0 rfl ?_
          refine Ev.get dX5_see_56 fl_X5_57 rfl (Nat.le_of_ble_eq_true rfl) (v := .ref (ad E 48)) rfl ?_
          refine Ev.aload_n dX5_see_59 rfl 0 rfl ?_
          refine Ev.get dX5_see_60 fl_X5_106 rfl (Nat.le_of_ble_eq_true rfl) rfl ?_
          refine Ev.iload_n dX5_see_63 rfl 2 rfl ?_
          obtain ⟨g10, h⟩ := wp_inb h
          refine Ev.iast dX5_see_64 rfl (Nat.le_of_ble_eq_true rfl) rfl g10 ?_
          refine Ev.topM (fun M11 eM11 => ?_)
          replace h := wp_lm h M11 eM11
          refine Ev.aload_n dX5_see_65 rfl 0 rfl ?_
          refine Ev.get dX5_see_66 fl_X5_60 rfl (Nat.le_of_ble_eq_true rfl) (v := .ref (ad E 49)) rfl ?_
          refine Ev.aload_n dX5_see_69 rfl 0 rfl ?_
          refine Ev.get dX5_see_70 fl_X5_106 rfl (Nat.le_of_ble_eq_true rfl) rfl ?_
          refine Ev.iload_n dX5_see_73 rfl 3 rfl ?_
          obtain ⟨g12, h⟩ := wp_inb h
          refine Ev.iast dX5_see_74 rfl (Nat.le_of_ble_eq_true rfl) rfl g12 ?_
          refine Ev.topM (fun M13 eM13 => ?_)
          replace h := wp_lm h M13 eM13
          refine Ev.aload_n dX5_see_75 rfl 0 rfl ?_
          refine Ev.dup dX5_see_76 rfl ?_
          refine Ev.get dX5_see_77 fl_X5_106 rfl (Nat.le_of_ble_eq_true rfl) rfl ?_
          refine Ev.iconst (v := 1) dX5_see_80 rfl ?_
          refine Ev.iadd dX5_see_81 ?_
          refine Ev.putA dX5_see_82 fl_X5_106 rfl (Nat.le_of_ble_eq_true rfl) rfl rfl pf_I rfl rfl ?_
          refine Ev.topM (fun M14 eM14 => ?_)
          replace h := wp_lm h M14 eM14
          refine Ev.aload_n dX5_see_85 rfl 0 rfl ?_
          refine Ev.get dX5_see_86 fl_X5_106 rfl (Nat.le_of_ble_eq_true rfl) rfl ?_
          exact Ev.ret dX5_see_89 rfl rfl (wp_ret h)
        · replace h := wp_f c7 h
          refine Ev.bipush (v := (-3)) dX5_see_42 rfl ?_
          exact Ev.ret dX5_see_44 rfl rfl (wp_ret h)

noncomputable def f_X5_forget (p1 : Int32) (M : Mem) : Option (Int32 × Mem) := (f_X5_within p1 0 (M 0 15) M).bind fun r1 => if r1 = 0 then some ((-1), M) else li (M 0 15) fun y3 => lm (up M 0 15 p1) fun M4 => some (y3, M4)
theorem o_X5_forget {E : GE} {Q : Option Value → Mem → Prop} {p1 : Int32} {M : Mem} (h : wp (f_X5_forget p1 M) gIM Q) : Runs E mi_X5_forget [.ref (ad E 0), .int p1] M Q := by
  refine Runs.ofEv (by decide +kernel) (Nat.le_of_ble_eq_true rfl) ?_
  show Ev E mi_X5_forget 0 [(0, .ref (ad E 0)), (1, .int p1)] [] M Q
  unfold f_X5_forget at h
  refine Ev.iload_n dX5_forget_0 rfl 1 rfl ?_
  refine Ev.iconst (v := 0) dX5_forget_1 rfl ?_
  refine Ev.aload_n dX5_forget_2 rfl 0 rfl ?_
  refine Ev.get dX5_forget_3 fl_X5_106 rfl (Nat.le_of_ble_eq_true rfl) rfl ?_
  obtain ⟨r1, er1, h⟩ := wp_bind h
  refine Ev.callS (as := [.int p1, .int 0, .int (M 0 15)]) (rest := []) dX5_forget_6 cl_X5_75 mos_X5_within ⟨Nat.le_of_ble_eq_true rfl, Nat.le_of_ble_eq_true rfl⟩ (Nat.le_of_ble_eq_true rfl) rfl rfl (o_X5_within ⟨r1, er1, ?_⟩)
  show Ev E mi_X5_forget 9 [(0, .ref (ad E 0)), (1, .int p1)] [.int r1] M Q
  refine Ev.if_ne (tgt := 14) dX5_forget_9 (by decide) (fun c2 => ?_) (fun c2 => ?_)
  · replace h := wp_t c2 h
    refine Ev.iconst (v := (-1)) dX5_forget_12 rfl ?_
    exact Ev.ret dX5_forget_13 rfl rfl (wp_ret h)
  · replace h := wp_f c2 h
    refine Ev.aload_n dX5_forget_14 rfl 0 rfl ?_
    refine Ev.get dX5_forget_15 fl_X5_106 rfl (Nat.le_of_ble_eq_true rfl) rfl ?_
    refine Ev.topi (fun y3 ey3 => ?_)
    replace h := wp_li h y3 ey3
    refine Ev.istore_n dX5_forget_18 rfl (Nat.le_of_ble_eq_true rfl) rfl ?_
    show Ev E mi_X5_forget 19 [(2, .int y3), (0, .ref (ad E 0)), (1, .int p1)] [] M Q
    refine Ev.aload_n dX5_forget_19 rfl 1 rfl ?_
    refine Ev.iload_n dX5_forget_20 rfl 2 rfl ?_
    refine Ev.putA dX5_forget_21 fl_X5_106 rfl (Nat.le_of_ble_eq_true rfl) rfl rfl pf_I rfl rfl ?_
    refine Ev.topM (fun M4 eM4 => ?_)
    replace h := wp_lm h M4 eM4
    refine Ev.iload_n dX5_forget_24 rfl 0 rfl ?_
    exact Ev.ret dX5_forget_25 rfl rfl (wp_ret h)

noncomputable def f_X5_isAsSeen_2 (k1 : Nat) : Nat → Int32 → Mem → Option (Int32 × Mem)
  | 0, _, _ => none
  | n + 1, x2, M => if (M 0 15) ≤ x2 then some (1, M) else rd (M 47) 6 x2 fun r3 => (f_X2_isTub k1 r3 M).bind fun r4 => if r4 = 0 then some (0, M) else rd (M 48) 6 x2 fun r7 => (f_X0_sailTub k1 r3 r7 M).bind fun r8 => (f_X0_eastOf r3 r8).bind fun r9 => rd (r8 49) 6 x2 fun r11 => if r9 = r11 then (f_X5_isAsSeen_2 k1 n) (x2 + 1) r8 else some (0, r8)
theorem o_X5_isAsSeen_2 {E : GE} {Q : Option Value → Mem → Prop} {k1 : Nat} (gk1 : isSea k1) : ∀ (n : Nat) {x2 : Int32} {M : Mem}, wp (f_X5_isAsSeen_2 k1 n x2 M) gIM Q → Ev E mi_X5_isAsSeen 2 [(0, .ref (ad E 0)), (1, .ref (ad E k1)), (2, .int x2)] [] M Q := by
  intro n
  induction n with
  | zero => intro _ _ h; exact absurd h wp_none
  | succ n ih =>
    intro x2 M h
    unfold f_X5_isAsSeen_2 at h
    refine Ev.iload_n dX5_isAsSeen_2 rfl 2 rfl ?_
    refine Ev.aload_n dX5_isAsSeen_3 rfl 0 rfl ?_
    refine Ev.get dX5_isAsSeen_4 fl_X5_106 rfl (Nat.le_of_ble_eq_true rfl) rfl ?_
    refine Ev.icmp_ge (tgt := 67) dX5_isAsSeen_7 (by decide) (fun c1 => ?_) (fun c1 => ?_)
    · replace h := wp_t c1 h
      refine Ev.iconst (v := 1) dX5_isAsSeen_67 rfl ?_
      exact Ev.ret dX5_isAsSeen_68 rfl rfl (wp_ret h)
    · replace h := wp_f c1 h
      refine Ev.aload_n dX5_isAsSeen_10 rfl 0 rfl ?_
      refine Ev.get dX5_isAsSeen_11 fl_X5_53 rfl (Nat.le_of_ble_eq_true rfl) (v := .ref (ad E 47)) rfl ?_
      refine Ev.iload_n dX5_isAsSeen_14 rfl 2 rfl ?_
      obtain ⟨g2, h⟩ := wp_rd h
      refine Ev.iald dX5_isAsSeen_15 rfl (Nat.le_of_ble_eq_true rfl) rfl g2 ?_
      refine Ev.topi (fun r3 er3 => ?_)
      replace h := h r3 er3
      refine Ev.istore_n dX5_isAsSeen_16 rfl (Nat.le_of_ble_eq_true rfl) rfl ?_
      show Ev E mi_X5_isAsSeen 17 [(3, .int r3), (0, .ref (ad E 0)), (1, .ref (ad E k1)), (2, .int x2)] [] M Q
      refine Ev.aload_n dX5_isAsSeen_17 rfl 2 rfl ?_
      refine Ev.iload_n dX5_isAsSeen_18 rfl 0 rfl ?_
      obtain ⟨r4, er4, h⟩ := wp_bind h
      refine Ev.callN (k := k1) (as := [.int r3]) (rest := []) dX5_isAsSeen_19 cn_X5_124 mok_X2_isTub (sea_cl gk1) (sea_k7 gk1) (sea_n0 gk1) ⟨Nat.le_of_ble_eq_true rfl, Nat.le_of_ble_eq_true rfl⟩ (Nat.le_of_ble_eq_true rfl) rfl rfl (o_X2_isTub gk1 ⟨r4, er4, ?_⟩)
      show Ev E mi_X5_isAsSeen 22 [(3, .int r3), (0, .ref (ad E 0)), (1, .ref (ad E k1)), (2, .int x2)] [.int r4] M Q
      refine Ev.if_ne (tgt := 27) dX5_isAsSeen_22 (by decide) (fun c5 => ?_) (fun c5 => ?_)
      · replace h := wp_t c5 h
        refine Ev.iconst (v := 0) dX5_isAsSeen_25 rfl ?_
        exact Ev.ret dX5_isAsSeen_26 rfl rfl (wp_ret h)
      · replace h := wp_f c5 h
        refine Ev.aload_n dX5_isAsSeen_27 rfl 1 rfl ?_
        refine Ev.get dX5_isAsSeen_28 fl_X5_49 rfl (Nat.le_of_ble_eq_true rfl) (v := .ref (ad E 40)) rfl ?_
        refine Ev.aload_n dX5_isAsSeen_31 rfl 2 rfl ?_
        refine Ev.iload_n dX5_isAsSeen_32 rfl 0 rfl ?_
        refine Ev.aload_n dX5_isAsSeen_33 rfl 1 rfl ?_
        refine Ev.get dX5_isAsSeen_34 fl_X5_57 rfl (Nat.le_of_ble_eq_true rfl) (v := .ref (ad E 48)) rfl ?_
        refine Ev.iload_n dX5_isAsSeen_37 rfl 3 rfl ?_
        obtain ⟨g6, h⟩ := wp_rd h
        refine Ev.iald dX5_isAsSeen_38 rfl (Nat.le_of_ble_eq_true rfl) rfl g6 ?_
        refine Ev.topi (fun r7 er7 => ?_)
        replace h := h r7 er7
        obtain ⟨r8, er8, h⟩ := wp_bind h
        refine Ev.callN (k := 40) (as := [.ref (ad E k1), .int r3, .int r7]) (rest := []) dX5_isAsSeen_39 cn_X5_298 mok_X0_sailTub rfl (Nat.le_of_ble_eq_true rfl) (Nat.le_of_ble_eq_true rfl) ⟨Nat.le_of_ble_eq_true rfl, Nat.le_of_ble_eq_true rfl⟩ (Nat.le_of_ble_eq_true rfl) rfl rfl (o_X0_sailTub gk1 ⟨r8, er8, ?_⟩)
        show Ev E mi_X5_isAsSeen 42 [(3, .int r3), (0, .ref (ad E 0)), (1, .ref (ad E k1)), (2, .int x2)] [] r8 Q
        refine Ev.aload_n dX5_isAsSeen_42 rfl 1 rfl ?_
        refine Ev.get dX5_isAsSeen_43 fl_X5_49 rfl (Nat.le_of_ble_eq_true rfl) (v := .ref (ad E 40)) rfl ?_
        refine Ev.iload_n dX5_isAsSeen_46 rfl 0 rfl ?_
        obtain ⟨r9, er9, h⟩ := wp_bind h
        refine Ev.callN (k := 40) (as := [.int r3]) (rest := []) dX5_isAsSeen_47 cn_X5_181 mok_X0_eastOf rfl (Nat.le_of_ble_eq_true rfl) (Nat.le_of_ble_eq_true rfl) ⟨Nat.le_of_ble_eq_true rfl, Nat.le_of_ble_eq_true rfl⟩ (Nat.le_of_ble_eq_true rfl) rfl rfl (o_X0_eastOf ⟨r9, er9, ?_⟩)
        show Ev E mi_X5_isAsSeen 50 [(3, .int r3), (0, .ref (ad E 0)), (1, .ref (ad E k1)), (2, .int x2)] [.int r9] r8 Q
        refine Ev.aload_n dX5_isAsSeen_50 rfl 1 rfl ?_
        refine Ev.get dX5_isAsSeen_51 fl_X5_60 rfl (Nat.le_of_ble_eq_true rfl) (v := .ref (ad E 49)) rfl ?_
        refine Ev.iload_n dX5_isAsSeen_54 rfl 3 rfl ?_
        obtain ⟨g10, h⟩ := wp_rd h
        refine Ev.iald dX5_isAsSeen_55 rfl (Nat.le_of_ble_eq_true rfl) rfl g10 ?_
        refine Ev.topi (fun r11 er11 => ?_)
        replace h := h r11 er11
        refine Ev.icmp_eq (tgt := 61) dX5_isAsSeen_56 (by decide) (fun c12 => ?_) (fun c12 => ?_)
        · replace h := wp_t c12 h
          refine Ev.iinc (v := x2 + 1) dX5_isAsSeen_61 3 rfl rfl (Nat.le_of_ble_eq_true rfl) rfl ?_
          show Ev E mi_X5_isAsSeen 64 [(2, .int (x2 + 1)), (3, .int r3), (0, .ref (ad E 0)), (1, .ref (ad E k1))] [] r8 Q
          refine Ev.goto (tgt := 2) dX5_isAsSeen_64 (by decide) ?_
          refine Ev.sub [2, 3, 0] rfl ?_
          exact ih h
        · replace h := wp_f c12 h
          refine Ev.iconst (v := 0) dX5_isAsSeen_59 rfl ?_
          exact Ev.ret dX5_isAsSeen_60 rfl rfl (wp_ret h)
noncomputable def f_X5_isAsSeen (k1 : Nat) (M : Mem) : Option (Int32 × Mem) := f_X5_isAsSeen_2 k1 FU 0 M
theorem o_X5_isAsSeen {E : GE} {Q : Option Value → Mem → Prop} {k1 : Nat} {M : Mem} (gk1 : isSea k1) (h : wp (f_X5_isAsSeen k1 M) gIM Q) : Runs E mi_X5_isAsSeen [.ref (ad E 0), .ref (ad E k1)] M Q := by
  refine Runs.ofEv (by decide +kernel) (Nat.le_of_ble_eq_true rfl) ?_
  show Ev E mi_X5_isAsSeen 0 [(0, .ref (ad E 0)), (1, .ref (ad E k1))] [] M Q
  unfold f_X5_isAsSeen at h
  refine Ev.iconst (v := 0) dX5_isAsSeen_0 rfl ?_
  refine Ev.istore_n dX5_isAsSeen_1 rfl (Nat.le_of_ble_eq_true rfl) rfl ?_
  show Ev E mi_X5_isAsSeen 2 [(2, .int 0), (0, .ref (ad E 0)), (1, .ref (ad E k1))] [] M Q
  refine Ev.sub [1, 2, 0] rfl ?_
  exact o_X5_isAsSeen_2 gk1 FU h

noncomputable def f_X5_kindsAsSeen_47 (p1 : Int32) (t15 : Int32 → Int32 → Mem → Option (Int32 × Mem)) (x2 : Int32) (x3 : Int32) (M : Mem) : Option (Int32 × Mem) := t15 x2 (x3 + 1) M
theorem o_X5_kindsAsSeen_47 {E : GE} {Q : Option Value → Mem → Prop} {p1 : Int32} {t15 : Int32 → Int32 → Mem → Option (Int32 × Mem)} {x2 : Int32} {x3 : Int32} {M : Mem} (ht15 : ∀ (x2 : Int32) (x3 : Int32) (M : Mem), wp (t15 x2 x3 M) gIM Q → Ev E mi_X5_kindsAsSeen 15 [(0, .ref (ad E 0)), (1, .int p1), (2, .int x2), (3, .int x3)] [] M Q) (h : wp (f_X5_kindsAsSeen_47 p1 t15 x2 x3 M) gIM Q) : Ev E mi_X5_kindsAsSeen 47 [(0, .ref (ad E 0)), (1, .int p1), (2, .int x2), (3, .int x3)] [] M Q := by
  unfold f_X5_kindsAsSeen_47 at h
  refine Ev.iinc (v := x3 + 1) dX5_kindsAsSeen_47 3 rfl rfl (Nat.le_of_ble_eq_true rfl) rfl ?_
  show Ev E mi_X5_kindsAsSeen 50 [(3, .int (x3 + 1)), (0, .ref (ad E 0)), (1, .int p1), (2, .int x2)] [] M Q
  refine Ev.goto (tgt := 15) dX5_kindsAsSeen_50 (by decide) ?_
  refine Ev.sub [1, 2, 3, 0] rfl ?_
  exact ht15 _ _ _ h
noncomputable def f_X5_kindsAsSeen_15 (p1 : Int32) : Nat → Int32 → Int32 → Mem → Option (Int32 × Mem)
  | 0, _, _, _ => none
  | n + 1, x2, x3, M => if 4 ≤ x3 then some (x2, M) else (f_X2_putTub 14 p1 0 x3 M).bind fun r2 => (f_X5_isAsSeen 14 r2).bind fun r3 => if r3.1 = 0 then f_X5_kindsAsSeen_47 p1 (f_X5_kindsAsSeen_15 p1 n) x2 x3 r3.2 else li (x2 ||| (1 <<< (x3 &&& 31))) fun y5 => f_X5_kindsAsSeen_47 p1 (f_X5_kindsAsSeen_15 p1 n) y5 x3 r3.2
theorem o_X5_kindsAsSeen_15 {E : GE} {Q : Option Value → Mem → Prop} {p1 : Int32} : ∀ (n : Nat) {x2 : Int32} {x3 : Int32} {M : Mem}, wp (f_X5_kindsAsSeen_15 p1 n x2 x3 M) gIM Q → Ev E mi_X5_kindsAsSeen 15 [(0, .ref (ad E 0)), (1, .int p1), (2, .int x2), (3, .int x3)] [] M Q := by
  intro n
  induction n with
  | zero => intro _ _ _ h; exact absurd h wp_none
  | succ n ih =>
    intro x2 x3 M h
    unfold f_X5_kindsAsSeen_15 at h
    refine Ev.iload_n dX5_kindsAsSeen_15 rfl 3 rfl ?_
    refine Ev.iconst (v := 4) dX5_kindsAsSeen_16 rfl ?_
    refine Ev.icmp_ge (tgt := 53) dX5_kindsAsSeen_17 (by decide) (fun c1 => ?_) (fun c1 => ?_)
    · replace h := wp_t c1 h
      refine Ev.iload_n dX5_kindsAsSeen_53 rfl 2 rfl ?_
      exact Ev.ret dX5_kindsAsSeen_54 rfl rfl (wp_ret h)
    · replace h := wp_f c1 h
      refine Ev.aload_n dX5_kindsAsSeen_20 rfl 0 rfl ?_
      refine Ev.get dX5_kindsAsSeen_21 fl_X5_28 rfl (Nat.le_of_ble_eq_true rfl) (v := .ref (ad E 14)) rfl ?_
      refine Ev.iload_n dX5_kindsAsSeen_24 rfl 1 rfl ?_
      refine Ev.iconst (v := 0) dX5_kindsAsSeen_25 rfl ?_
      refine Ev.iload_n dX5_kindsAsSeen_26 rfl 3 rfl ?_
      obtain ⟨r2, er2, h⟩ := wp_bind h
      refine Ev.callN (k := 14) (as := [.int p1, .int 0, .int x3]) (rest := []) dX5_kindsAsSeen_27 cn_X5_150 mok_X2_putTub rfl (Nat.le_of_ble_eq_true rfl) (Nat.le_of_ble_eq_true rfl) ⟨Nat.le_of_ble_eq_true rfl, Nat.le_of_ble_eq_true rfl⟩ (Nat.le_of_ble_eq_true rfl) rfl rfl (o_X2_putTub sea_14 ⟨r2, er2, ?_⟩)
      show Ev E mi_X5_kindsAsSeen 30 [(0, .ref (ad E 0)), (1, .int p1), (2, .int x2), (3, .int x3)] [] r2 Q
      refine Ev.aload_n dX5_kindsAsSeen_30 rfl 0 rfl ?_
      refine Ev.aload_n dX5_kindsAsSeen_31 rfl 0 rfl ?_
      refine Ev.get dX5_kindsAsSeen_32 fl_X5_28 rfl (Nat.le_of_ble_eq_true rfl) (v := .ref (ad E 14)) rfl ?_
      obtain ⟨r3, er3, h⟩ := wp_bind h
      refine Ev.callV (k := 0) (as := [.ref (ad E 14)]) (rest := []) dX5_kindsAsSeen_35 cl_X5_252 mok_X5_isAsSeen rfl (Nat.le_of_ble_eq_true rfl) (Nat.le_of_ble_eq_true rfl) ⟨Nat.le_of_ble_eq_true rfl, Nat.le_of_ble_eq_true rfl⟩ (Nat.le_of_ble_eq_true rfl) rfl rfl (o_X5_isAsSeen sea_14 ⟨r3, er3, ?_⟩)
      show Ev E mi_X5_kindsAsSeen 38 [(0, .ref (ad E 0)), (1, .int p1), (2, .int x2), (3, .int x3)] [.int r3.1] r3.2 Q
      refine Ev.if_eq (tgt := 47) dX5_kindsAsSeen_38 (by decide) (fun c4 => ?_) (fun c4 => ?_)
      · replace h := wp_t c4 h
        exact o_X5_kindsAsSeen_47 (fun _ _ _ h => ih h) h
      · replace h := wp_f c4 h
        refine Ev.iload_n dX5_kindsAsSeen_41 rfl 2 rfl ?_
        refine Ev.iconst (v := 1) dX5_kindsAsSeen_42 rfl ?_
        refine Ev.iload_n dX5_kindsAsSeen_43 rfl 3 rfl ?_
        refine Ev.ishl dX5_kindsAsSeen_44 ?_
        refine Ev.ior dX5_kindsAsSeen_45 ?_
        refine Ev.topi (fun y5 ey5 => ?_)
        replace h := wp_li h y5 ey5
        refine Ev.istore_n dX5_kindsAsSeen_46 rfl (Nat.le_of_ble_eq_true rfl) rfl ?_
        show Ev E mi_X5_kindsAsSeen 47 [(2, .int y5), (0, .ref (ad E 0)), (1, .int p1), (3, .int x3)] [] r3.2 Q
        refine Ev.sub [1, 2, 0, 3] rfl ?_
        exact o_X5_kindsAsSeen_47 (fun _ _ _ h => ih h) h
noncomputable def f_X5_kindsAsSeen (p1 : Int32) (M : Mem) : Option (Int32 × Mem) := (f_X2_become 14 9 M).bind fun r1 => f_X5_kindsAsSeen_15 p1 FU 0 0 r1
theorem o_X5_kindsAsSeen {E : GE} {Q : Option Value → Mem → Prop} {p1 : Int32} {M : Mem} (h : wp (f_X5_kindsAsSeen p1 M) gIM Q) : Runs E mi_X5_kindsAsSeen [.ref (ad E 0), .int p1] M Q := by
  refine Runs.ofEv (by decide +kernel) (Nat.le_of_ble_eq_true rfl) ?_
  show Ev E mi_X5_kindsAsSeen 0 [(0, .ref (ad E 0)), (1, .int p1)] [] M Q
  unfold f_X5_kindsAsSeen at h
  refine Ev.aload_n dX5_kindsAsSeen_0 rfl 0 rfl ?_
  refine Ev.get dX5_kindsAsSeen_1 fl_X5_28 rfl (Nat.le_of_ble_eq_true rfl) (v := .ref (ad E 14)) rfl ?_
  refine Ev.aload_n dX5_kindsAsSeen_4 rfl 0 rfl ?_
  refine Ev.get dX5_kindsAsSeen_5 fl_X5_24 rfl (Nat.le_of_ble_eq_true rfl) (v := .ref (ad E 9)) rfl ?_
  obtain ⟨r1, er1, h⟩ := wp_bind h
  refine Ev.callN (k := 14) (as := [.ref (ad E 9)]) (rest := []) dX5_kindsAsSeen_8 cn_X5_102 mok_X2_become rfl (Nat.le_of_ble_eq_true rfl) (Nat.le_of_ble_eq_true rfl) ⟨Nat.le_of_ble_eq_true rfl, Nat.le_of_ble_eq_true rfl⟩ (Nat.le_of_ble_eq_true rfl) rfl rfl (o_X2_become sea_14 sea_9 ⟨r1, er1, ?_⟩)
  show Ev E mi_X5_kindsAsSeen 11 [(0, .ref (ad E 0)), (1, .int p1)] [] r1 Q
  refine Ev.iconst (v := 0) dX5_kindsAsSeen_11 rfl ?_
  refine Ev.istore_n dX5_kindsAsSeen_12 rfl (Nat.le_of_ble_eq_true rfl) rfl ?_
  show Ev E mi_X5_kindsAsSeen 13 [(2, .int 0), (0, .ref (ad E 0)), (1, .int p1)] [] r1 Q
  refine Ev.iconst (v := 0) dX5_kindsAsSeen_13 rfl ?_
  refine Ev.istore_n dX5_kindsAsSeen_14 rfl (Nat.le_of_ble_eq_true rfl) rfl ?_
  show Ev E mi_X5_kindsAsSeen 15 [(3, .int 0), (2, .int 0), (0, .ref (ad E 0)), (1, .int p1)] [] r1 Q
  refine Ev.sub [2, 3, 1, 0] rfl ?_
  exact o_X5_kindsAsSeen_15 FU h

noncomputable def f_X5_kinds (p1 : Int32) (M : Mem) : Option (Int32 × Mem) := (f_X2_isTub 9 p1 M).bind fun r1 => if r1 = 0 then some ((-1), M) else (f_X5_kindsAsSeen p1 M).bind fun r3 => some (r3.1, r3.2)
theorem o_X5_kinds {E : GE} {Q : Option Value → Mem → Prop} {p1 : Int32} {M : Mem} (h : wp (f_X5_kinds p1 M) gIM Q) : Runs E mi_X5_kinds [.ref (ad E 0), .int p1] M Q := by
  refine Runs.ofEv (by decide +kernel) (Nat.le_of_ble_eq_true rfl) ?_
  show Ev E mi_X5_kinds 0 [(0, .ref (ad E 0)), (1, .int p1)] [] M Q
  unfold f_X5_kinds at h
  refine Ev.aload_n dX5_kinds_0 rfl 0 rfl ?_
  refine Ev.get dX5_kinds_1 fl_X5_24 rfl (Nat.le_of_ble_eq_true rfl) (v := .ref (ad E 9)) rfl ?_
  refine Ev.iload_n dX5_kinds_4 rfl 1 rfl ?_
  obtain ⟨r1, er1, h⟩ := wp_bind h
  refine Ev.callN (k := 9) (as := [.int p1]) (rest := []) dX5_kinds_5 cn_X5_124 mok_X2_isTub rfl (Nat.le_of_ble_eq_true rfl) (Nat.le_of_ble_eq_true rfl) ⟨Nat.le_of_ble_eq_true rfl, Nat.le_of_ble_eq_true rfl⟩ (Nat.le_of_ble_eq_true rfl) rfl rfl (o_X2_isTub sea_9 ⟨r1, er1, ?_⟩)
  show Ev E mi_X5_kinds 8 [(0, .ref (ad E 0)), (1, .int p1)] [.int r1] M Q
  refine Ev.if_eq (tgt := 19) dX5_kinds_8 (by decide) (fun c2 => ?_) (fun c2 => ?_)
  · replace h := wp_t c2 h
    refine Ev.iconst (v := (-1)) dX5_kinds_19 rfl ?_
    exact Ev.ret dX5_kinds_20 rfl rfl (wp_ret h)
  · replace h := wp_f c2 h
    refine Ev.aload_n dX5_kinds_11 rfl 0 rfl ?_
    refine Ev.iload_n dX5_kinds_12 rfl 1 rfl ?_
    obtain ⟨r3, er3, h⟩ := wp_bind h
    refine Ev.callV (k := 0) (as := [.int p1]) (rest := []) dX5_kinds_13 cl_X5_249 mok_X5_kindsAsSeen rfl (Nat.le_of_ble_eq_true rfl) (Nat.le_of_ble_eq_true rfl) ⟨Nat.le_of_ble_eq_true rfl, Nat.le_of_ble_eq_true rfl⟩ (Nat.le_of_ble_eq_true rfl) rfl rfl (o_X5_kindsAsSeen ⟨r3, er3, ?_⟩)
    show Ev E mi_X5_kinds 16 [(0, .ref (ad E 0)), (1, .int p1)] [.int r3.1] r3.2 Q
    refine Ev.goto (tgt := 20) dX5_kinds_16 (by decide) ?_
    exact Ev.ret dX5_kinds_20 rfl rfl (wp_ret h)

noncomputable def f_X5_sets_59 (p1 : Int32) (t27 : Int32 → Int32 → Mem → Option (Int32 × Mem)) (x2 : Int32) (x3 : Int32) (M : Mem) : Option (Int32 × Mem) := t27 x2 (x3 + 1) M
theorem o_X5_sets_59 {E : GE} {Q : Option Value → Mem → Prop} {p1 : Int32} {t27 : Int32 → Int32 → Mem → Option (Int32 × Mem)} {x2 : Int32} {x3 : Int32} {M : Mem} (ht27 : ∀ (x2 : Int32) (x3 : Int32) (M : Mem), wp (t27 x2 x3 M) gIM Q → Ev E mi_X5_sets 27 [(0, .ref (ad E 0)), (1, .int p1), (2, .int x2), (3, .int x3)] [] M Q) (h : wp (f_X5_sets_59 p1 t27 x2 x3 M) gIM Q) : Ev E mi_X5_sets 59 [(0, .ref (ad E 0)), (1, .int p1), (2, .int x2), (3, .int x3)] [] M Q := by
  unfold f_X5_sets_59 at h
  refine Ev.iinc (v := x3 + 1) dX5_sets_59 3 rfl rfl (Nat.le_of_ble_eq_true rfl) rfl ?_
  show Ev E mi_X5_sets 62 [(3, .int (x3 + 1)), (0, .ref (ad E 0)), (1, .int p1), (2, .int x2)] [] M Q
  refine Ev.goto (tgt := 27) dX5_sets_62 (by decide) ?_
  refine Ev.sub [1, 2, 3, 0] rfl ?_
  exact ht27 _ _ _ h
noncomputable def f_X5_sets_27 (p1 : Int32) : Nat → Int32 → Int32 → Mem → Option (Int32 × Mem)
  | 0, _, _, _ => none
  | n + 1, x2, x3, M => if 5 ≤ x3 then some (x2, M) else inb p1 10 <| lm (up M 17 p1.toNatClampNeg x3) fun M3 => (f_X5_isAsSeen 14 M3).bind fun r4 => if r4.1 = 0 then f_X5_sets_59 p1 (f_X5_sets_27 p1 n) x2 x3 r4.2 else li (x2 ||| (1 <<< (x3 &&& 31))) fun y6 => f_X5_sets_59 p1 (f_X5_sets_27 p1 n) y6 x3 r4.2
theorem o_X5_sets_27 {E : GE} {Q : Option Value → Mem → Prop} {p1 : Int32} : ∀ (n : Nat) {x2 : Int32} {x3 : Int32} {M : Mem}, wp (f_X5_sets_27 p1 n x2 x3 M) gIM Q → Ev E mi_X5_sets 27 [(0, .ref (ad E 0)), (1, .int p1), (2, .int x2), (3, .int x3)] [] M Q := by
  intro n
  induction n with
  | zero => intro _ _ _ h; exact absurd h wp_none
  | succ n ih =>
    intro x2 x3 M h
    unfold f_X5_sets_27 at h
    refine Ev.iload_n dX5_sets_27 rfl 3 rfl ?_
    refine Ev.iconst (v := 5) dX5_sets_28 rfl ?_
    refine Ev.icmp_ge (tgt := 65) dX5_sets_29 (by decide) (fun c1 => ?_) (fun c1 => ?_)
    · replace h := wp_t c1 h
      refine Ev.iload_n dX5_sets_65 rfl 2 rfl ?_
      exact Ev.ret dX5_sets_66 rfl rfl (wp_ret h)
    · replace h := wp_f c1 h
      refine Ev.aload_n dX5_sets_32 rfl 0 rfl ?_
      refine Ev.get dX5_sets_33 fl_X5_28 rfl (Nat.le_of_ble_eq_true rfl) (v := .ref (ad E 14)) rfl ?_
      refine Ev.getN dX5_sets_36 nl_X5_140 rfl (Nat.le_of_ble_eq_true rfl) (v := .ref (ad E 17)) rfl ?_
      refine Ev.iload_n dX5_sets_39 rfl 1 rfl ?_
      refine Ev.iload_n dX5_sets_40 rfl 3 rfl ?_
      obtain ⟨g2, h⟩ := wp_inb h
      refine Ev.iast dX5_sets_41 rfl (Nat.le_of_ble_eq_true rfl) rfl g2 ?_
      refine Ev.topM (fun M3 eM3 => ?_)
      replace h := wp_lm h M3 eM3
      refine Ev.aload_n dX5_sets_42 rfl 0 rfl ?_
      refine Ev.aload_n dX5_sets_43 rfl 0 rfl ?_
      refine Ev.get dX5_sets_44 fl_X5_28 rfl (Nat.le_of_ble_eq_true rfl) (v := .ref (ad E 14)) rfl ?_
      obtain ⟨r4, er4, h⟩ := wp_bind h
      refine Ev.callV (k := 0) (as := [.ref (ad E 14)]) (rest := []) dX5_sets_47 cl_X5_252 mok_X5_isAsSeen rfl (Nat.le_of_ble_eq_true rfl) (Nat.le_of_ble_eq_true rfl) ⟨Nat.le_of_ble_eq_true rfl, Nat.le_of_ble_eq_true rfl⟩ (Nat.le_of_ble_eq_true rfl) rfl rfl (o_X5_isAsSeen sea_14 ⟨r4, er4, ?_⟩)
      show Ev E mi_X5_sets 50 [(0, .ref (ad E 0)), (1, .int p1), (2, .int x2), (3, .int x3)] [.int r4.1] r4.2 Q
      refine Ev.if_eq (tgt := 59) dX5_sets_50 (by decide) (fun c5 => ?_) (fun c5 => ?_)
      · replace h := wp_t c5 h
        exact o_X5_sets_59 (fun _ _ _ h => ih h) h
      · replace h := wp_f c5 h
        refine Ev.iload_n dX5_sets_53 rfl 2 rfl ?_
        refine Ev.iconst (v := 1) dX5_sets_54 rfl ?_
        refine Ev.iload_n dX5_sets_55 rfl 3 rfl ?_
        refine Ev.ishl dX5_sets_56 ?_
        refine Ev.ior dX5_sets_57 ?_
        refine Ev.topi (fun y6 ey6 => ?_)
        replace h := wp_li h y6 ey6
        refine Ev.istore_n dX5_sets_58 rfl (Nat.le_of_ble_eq_true rfl) rfl ?_
        show Ev E mi_X5_sets 59 [(2, .int y6), (0, .ref (ad E 0)), (1, .int p1), (3, .int x3)] [] r4.2 Q
        refine Ev.sub [1, 2, 0, 3] rfl ?_
        exact o_X5_sets_59 (fun _ _ _ h => ih h) h
noncomputable def f_X5_sets (p1 : Int32) (M : Mem) : Option (Int32 × Mem) := (f_X5_within p1 0 9 M).bind fun r1 => if r1 = 0 then some ((-1), M) else (f_X2_become 14 9 M).bind fun r3 => f_X5_sets_27 p1 FU 0 0 r3
theorem o_X5_sets {E : GE} {Q : Option Value → Mem → Prop} {p1 : Int32} {M : Mem} (h : wp (f_X5_sets p1 M) gIM Q) : Runs E mi_X5_sets [.ref (ad E 0), .int p1] M Q := by
  refine Runs.ofEv (by decide +kernel) (Nat.le_of_ble_eq_true rfl) ?_
  show Ev E mi_X5_sets 0 [(0, .ref (ad E 0)), (1, .int p1)] [] M Q
  unfold f_X5_sets at h
  refine Ev.iload_n dX5_sets_0 rfl 1 rfl ?_
  refine Ev.iconst (v := 0) dX5_sets_1 rfl ?_
  refine Ev.bipush (v := 9) dX5_sets_2 rfl ?_
  obtain ⟨r1, er1, h⟩ := wp_bind h
  refine Ev.callS (as := [.int p1, .int 0, .int 9]) (rest := []) dX5_sets_4 cl_X5_75 mos_X5_within ⟨Nat.le_of_ble_eq_true rfl, Nat.le_of_ble_eq_true rfl⟩ (Nat.le_of_ble_eq_true rfl) rfl rfl (o_X5_within ⟨r1, er1, ?_⟩)
  show Ev E mi_X5_sets 7 [(0, .ref (ad E 0)), (1, .int p1)] [.int r1] M Q
  refine Ev.if_ne (tgt := 12) dX5_sets_7 (by decide) (fun c2 => ?_) (fun c2 => ?_)
  · replace h := wp_t c2 h
    refine Ev.iconst (v := (-1)) dX5_sets_10 rfl ?_
    exact Ev.ret dX5_sets_11 rfl rfl (wp_ret h)
  · replace h := wp_f c2 h
    refine Ev.aload_n dX5_sets_12 rfl 0 rfl ?_
    refine Ev.get dX5_sets_13 fl_X5_28 rfl (Nat.le_of_ble_eq_true rfl) (v := .ref (ad E 14)) rfl ?_
    refine Ev.aload_n dX5_sets_16 rfl 0 rfl ?_
    refine Ev.get dX5_sets_17 fl_X5_24 rfl (Nat.le_of_ble_eq_true rfl) (v := .ref (ad E 9)) rfl ?_
    obtain ⟨r3, er3, h⟩ := wp_bind h
    refine Ev.callN (k := 14) (as := [.ref (ad E 9)]) (rest := []) dX5_sets_20 cn_X5_102 mok_X2_become rfl (Nat.le_of_ble_eq_true rfl) (Nat.le_of_ble_eq_true rfl) ⟨Nat.le_of_ble_eq_true rfl, Nat.le_of_ble_eq_true rfl⟩ (Nat.le_of_ble_eq_true rfl) rfl rfl (o_X2_become sea_14 sea_9 ⟨r3, er3, ?_⟩)
    show Ev E mi_X5_sets 23 [(0, .ref (ad E 0)), (1, .int p1)] [] r3 Q
    refine Ev.iconst (v := 0) dX5_sets_23 rfl ?_
    refine Ev.istore_n dX5_sets_24 rfl (Nat.le_of_ble_eq_true rfl) rfl ?_
    show Ev E mi_X5_sets 25 [(2, .int 0), (0, .ref (ad E 0)), (1, .int p1)] [] r3 Q
    refine Ev.iconst (v := 0) dX5_sets_25 rfl ?_
    refine Ev.istore_n dX5_sets_26 rfl (Nat.le_of_ble_eq_true rfl) rfl ?_
    show Ev E mi_X5_sets 27 [(3, .int 0), (2, .int 0), (0, .ref (ad E 0)), (1, .int p1)] [] r3 Q
    refine Ev.sub [2, 3, 1, 0] rfl ?_
    exact o_X5_sets_27 FU h

noncomputable def f_X5_leftAtWorst_131 (p1 : Int32) (p2 : Int32) (p3 : Int32) (t83 : Int32 → Int32 → Int32 → Int32 → Mem → Option (Int32 × Mem)) (x4 : Int32) (x5 : Int32) (x6 : Int32) (x7 : Int32) (M : Mem) : Option (Int32 × Mem) := t83 x4 x5 x6 (x7 + 1) M
theorem o_X5_leftAtWorst_131 {E : GE} {Q : Option Value → Mem → Prop} {p1 : Int32} {p2 : Int32} {p3 : Int32} {t83 : Int32 → Int32 → Int32 → Int32 → Mem → Option (Int32 × Mem)} {x4 : Int32} {x5 : Int32} {x6 : Int32} {x7 : Int32} {M : Mem} (ht83 : ∀ (x4 : Int32) (x5 : Int32) (x6 : Int32) (x7 : Int32) (M : Mem), wp (t83 x4 x5 x6 x7 M) gIM Q → Ev E mi_X5_leftAtWorst 83 [(0, .ref (ad E 0)), (2, .int p2), (4, .int x4), (5, .int x5), (6, .int x6), (7, .int x7)] [] M Q) (h : wp (f_X5_leftAtWorst_131 p1 p2 p3 t83 x4 x5 x6 x7 M) gIM Q) : Ev E mi_X5_leftAtWorst 131 [(0, .ref (ad E 0)), (2, .int p2), (4, .int x4), (5, .int x5), (6, .int x6), (7, .int x7)] [] M Q := by
  unfold f_X5_leftAtWorst_131 at h
  refine Ev.iinc (v := x7 + 1) dX5_leftAtWorst_131 5 rfl rfl (Nat.le_of_ble_eq_true rfl) rfl ?_
  show Ev E mi_X5_leftAtWorst 134 [(7, .int (x7 + 1)), (0, .ref (ad E 0)), (2, .int p2), (4, .int x4), (5, .int x5), (6, .int x6)] [] M Q
  refine Ev.goto (tgt := 83) dX5_leftAtWorst_134 (by decide) ?_
  refine Ev.sub [1, 2, 3, 4, 5, 0] rfl ?_
  exact ht83 _ _ _ _ _ h
noncomputable def f_X5_leftAtWorst_104 (p1 : Int32) (p2 : Int32) (p3 : Int32) (t83 : Int32 → Int32 → Int32 → Int32 → Mem → Option (Int32 × Mem)) (x4 : Int32) (x5 : Int32) (x6 : Int32) (x7 : Int32) (s0 : Int32) (M : Mem) : Option (Int32 × Mem) := if s0 = 0 then f_X5_leftAtWorst_131 p1 p2 p3 t83 x4 x5 x6 x7 M else rd (M 51) 4 x7 fun r3 => rd (M 51) 4 x5 fun r5 => if r3 = r5 then f_X5_leftAtWorst_131 p1 p2 p3 t83 x4 x5 (x6 + 1) x7 M else f_X5_leftAtWorst_131 p1 p2 p3 t83 x4 x5 x6 x7 M
theorem o_X5_leftAtWorst_104 {E : GE} {Q : Option Value → Mem → Prop} {p1 : Int32} {p2 : Int32} {p3 : Int32} {t83 : Int32 → Int32 → Int32 → Int32 → Mem → Option (Int32 × Mem)} {x4 : Int32} {x5 : Int32} {x6 : Int32} {x7 : Int32} {s0 : Int32} {M : Mem} (ht83 : ∀ (x4 : Int32) (x5 : Int32) (x6 : Int32) (x7 : Int32) (M : Mem), wp (t83 x4 x5 x6 x7 M) gIM Q → Ev E mi_X5_leftAtWorst 83 [(0, .ref (ad E 0)), (2, .int p2), (4, .int x4), (5, .int x5), (6, .int x6), (7, .int x7)] [] M Q) (h : wp (f_X5_leftAtWorst_104 p1 p2 p3 t83 x4 x5 x6 x7 s0 M) gIM Q) : Ev E mi_X5_leftAtWorst 104 [(0, .ref (ad E 0)), (2, .int p2), (4, .int x4), (5, .int x5), (6, .int x6), (7, .int x7)] [.int s0] M Q := by
  unfold f_X5_leftAtWorst_104 at h
  refine Ev.istore dX5_leftAtWorst_104 (Nat.le_of_ble_eq_true rfl) rfl ?_
  show Ev E mi_X5_leftAtWorst 106 [(8, .int s0), (0, .ref (ad E 0)), (2, .int p2), (4, .int x4), (5, .int x5), (6, .int x6), (7, .int x7)] [] M Q
  refine Ev.iload dX5_leftAtWorst_106 0 rfl ?_
  refine Ev.if_eq (tgt := 131) dX5_leftAtWorst_108 (by decide) (fun c1 => ?_) (fun c1 => ?_)
  · replace h := wp_t c1 h
    refine Ev.sub [1, 2, 3, 4, 5, 6] rfl ?_
    exact o_X5_leftAtWorst_131 ht83 h
  · replace h := wp_f c1 h
    refine Ev.aload_n dX5_leftAtWorst_111 rfl 1 rfl ?_
    refine Ev.get dX5_leftAtWorst_112 fl_X5_66 rfl (Nat.le_of_ble_eq_true rfl) (v := .ref (ad E 51)) rfl ?_
    refine Ev.iload dX5_leftAtWorst_115 6 rfl ?_
    obtain ⟨g2, h⟩ := wp_rd h
    refine Ev.iald dX5_leftAtWorst_117 rfl (Nat.le_of_ble_eq_true rfl) rfl g2 ?_
    refine Ev.topi (fun r3 er3 => ?_)
    replace h := h r3 er3
    refine Ev.aload_n dX5_leftAtWorst_118 rfl 1 rfl ?_
    refine Ev.get dX5_leftAtWorst_119 fl_X5_66 rfl (Nat.le_of_ble_eq_true rfl) (v := .ref (ad E 51)) rfl ?_
    refine Ev.iload dX5_leftAtWorst_122 4 rfl ?_
    obtain ⟨g4, h⟩ := wp_rd h
    refine Ev.iald dX5_leftAtWorst_124 rfl (Nat.le_of_ble_eq_true rfl) rfl g4 ?_
    refine Ev.topi (fun r5 er5 => ?_)
    replace h := h r5 er5
    refine Ev.icmp_ne (tgt := 131) dX5_leftAtWorst_125 (by decide) (fun c6 => ?_) (fun c6 => ?_)
    · replace h := wp_t c6 h
      refine Ev.iinc (v := x6 + 1) dX5_leftAtWorst_128 5 rfl rfl (Nat.le_of_ble_eq_true rfl) rfl ?_
      show Ev E mi_X5_leftAtWorst 131 [(6, .int (x6 + 1)), (8, .int s0), (0, .ref (ad E 0)), (2, .int p2), (4, .int x4), (5, .int x5), (7, .int x7)] [] M Q
      refine Ev.sub [2, 3, 4, 5, 0, 6] rfl ?_
      exact o_X5_leftAtWorst_131 ht83 h
    · replace h := wp_f c6 h
      refine Ev.sub [1, 2, 3, 4, 5, 6] rfl ?_
      exact o_X5_leftAtWorst_131 ht83 h
noncomputable def f_X5_leftAtWorst_137 (p1 : Int32) (p2 : Int32) (p3 : Int32) (t71 : Int32 → Int32 → Mem → Option (Int32 × Mem)) (x4 : Int32) (x5 : Int32) (x6 : Int32) (M : Mem) : Option (Int32 × Mem) := li (if x4 < x6 then x6 else x4) fun y1 => t71 y1 (x5 + 1) M
theorem o_X5_leftAtWorst_137 {E : GE} {Q : Option Value → Mem → Prop} {p1 : Int32} {p2 : Int32} {p3 : Int32} {t71 : Int32 → Int32 → Mem → Option (Int32 × Mem)} {x4 : Int32} {x5 : Int32} {x6 : Int32} {M : Mem} (ht71 : ∀ (x4 : Int32) (x5 : Int32) (M : Mem), wp (t71 x4 x5 M) gIM Q → Ev E mi_X5_leftAtWorst 71 [(0, .ref (ad E 0)), (2, .int p2), (4, .int x4), (5, .int x5)] [] M Q) (h : wp (f_X5_leftAtWorst_137 p1 p2 p3 t71 x4 x5 x6 M) gIM Q) : Ev E mi_X5_leftAtWorst 137 [(0, .ref (ad E 0)), (2, .int p2), (4, .int x4), (5, .int x5), (6, .int x6)] [] M Q := by
  unfold f_X5_leftAtWorst_137 at h
  refine Ev.iload dX5_leftAtWorst_137 2 rfl ?_
  refine Ev.iload dX5_leftAtWorst_139 4 rfl ?_
  refine Ev.mmax dX5_leftAtWorst_141 mk_X5_301 mok_max ⟨Nat.le_of_ble_eq_true rfl, Nat.le_of_ble_eq_true rfl⟩ (Nat.le_of_ble_eq_true rfl) ?_
  refine Ev.topi (fun y1 ey1 => ?_)
  replace h := wp_li h y1 ey1
  refine Ev.istore dX5_leftAtWorst_144 (Nat.le_of_ble_eq_true rfl) rfl ?_
  show Ev E mi_X5_leftAtWorst 146 [(4, .int y1), (0, .ref (ad E 0)), (2, .int p2), (5, .int x5), (6, .int x6)] [] M Q
  refine Ev.iinc (v := x5 + 1) dX5_leftAtWorst_146 3 rfl rfl (Nat.le_of_ble_eq_true rfl) rfl ?_
  show Ev E mi_X5_leftAtWorst 149 [(5, .int (x5 + 1)), (4, .int y1), (0, .ref (ad E 0)), (2, .int p2), (6, .int x6)] [] M Q
  refine Ev.goto (tgt := 71) dX5_leftAtWorst_149 (by decide) ?_
  refine Ev.sub [2, 3, 1, 0] rfl ?_
  exact ht71 _ _ _ h
noncomputable def f_X5_leftAtWorst_83 (p1 : Int32) (p2 : Int32) (p3 : Int32) (t71 : Int32 → Int32 → Mem → Option (Int32 × Mem)) : Nat → Int32 → Int32 → Int32 → Int32 → Mem → Option (Int32 × Mem)
  | 0, _, _, _, _, _ => none
  | n + 1, x4, x5, x6, x7, M => if 4 ≤ x7 then f_X5_leftAtWorst_137 p1 p2 p3 t71 x4 x5 x6 M else if ((p2 >>> (x7 &&& 31)) &&& 1) = 1 then f_X5_leftAtWorst_104 p1 p2 p3 (f_X5_leftAtWorst_83 p1 p2 p3 t71 n) x4 x5 x6 x7 1 M else f_X5_leftAtWorst_104 p1 p2 p3 (f_X5_leftAtWorst_83 p1 p2 p3 t71 n) x4 x5 x6 x7 0 M
theorem o_X5_leftAtWorst_83 {E : GE} {Q : Option Value → Mem → Prop} {p1 : Int32} {p2 : Int32} {p3 : Int32} {t71 : Int32 → Int32 → Mem → Option (Int32 × Mem)} (ht71 : ∀ (x4 : Int32) (x5 : Int32) (M : Mem), wp (t71 x4 x5 M) gIM Q → Ev E mi_X5_leftAtWorst 71 [(0, .ref (ad E 0)), (2, .int p2), (4, .int x4), (5, .int x5)] [] M Q) : ∀ (n : Nat) {x4 : Int32} {x5 : Int32} {x6 : Int32} {x7 : Int32} {M : Mem}, wp (f_X5_leftAtWorst_83 p1 p2 p3 t71 n x4 x5 x6 x7 M) gIM Q → Ev E mi_X5_leftAtWorst 83 [(0, .ref (ad E 0)), (2, .int p2), (4, .int x4), (5, .int x5), (6, .int x6), (7, .int x7)] [] M Q := by
  intro n
  induction n with
  | zero => intro _ _ _ _ _ h; exact absurd h wp_none
  | succ n ih =>
    intro x4 x5 x6 x7 M h
    unfold f_X5_leftAtWorst_83 at h
    refine Ev.iload dX5_leftAtWorst_83 5 rfl ?_
    refine Ev.iconst (v := 4) dX5_leftAtWorst_85 rfl ?_
    refine Ev.icmp_ge (tgt := 137) dX5_leftAtWorst_86 (by decide) (fun c1 => ?_) (fun c1 => ?_)
    · replace h := wp_t c1 h
      refine Ev.sub [0, 1, 2, 3, 4] rfl ?_
      exact o_X5_leftAtWorst_137 ht71 h
    · replace h := wp_f c1 h
      refine Ev.iload_n dX5_leftAtWorst_89 rfl 1 rfl ?_
      refine Ev.iload dX5_leftAtWorst_90 5 rfl ?_
      refine Ev.ishr dX5_leftAtWorst_92 ?_
      refine Ev.iconst (v := 1) dX5_leftAtWorst_93 rfl ?_
      refine Ev.iand dX5_leftAtWorst_94 ?_
      refine Ev.iconst (v := 1) dX5_leftAtWorst_95 rfl ?_
      refine Ev.icmp_ne (tgt := 103) dX5_leftAtWorst_96 (by decide) (fun c2 => ?_) (fun c2 => ?_)
      · replace h := wp_t c2 h
        refine Ev.iconst (v := 1) dX5_leftAtWorst_99 rfl ?_
        refine Ev.goto (tgt := 104) dX5_leftAtWorst_100 (by decide) ?_
        exact o_X5_leftAtWorst_104 (fun _ _ _ _ _ h => ih h) h
      · replace h := wp_f c2 h
        refine Ev.iconst (v := 0) dX5_leftAtWorst_103 rfl ?_
        exact o_X5_leftAtWorst_104 (fun _ _ _ _ _ h => ih h) h
noncomputable def f_X5_leftAtWorst_71 (p1 : Int32) (p2 : Int32) (p3 : Int32) : Nat → Int32 → Int32 → Mem → Option (Int32 × Mem)
  | 0, _, _, _ => none
  | n + 1, x4, x5, M => if 4 ≤ x5 then some (x4, M) else f_X5_leftAtWorst_83 p1 p2 p3 (f_X5_leftAtWorst_71 p1 p2 p3 n) FU x4 x5 0 0 M
theorem o_X5_leftAtWorst_71 {E : GE} {Q : Option Value → Mem → Prop} {p1 : Int32} {p2 : Int32} {p3 : Int32} : ∀ (n : Nat) {x4 : Int32} {x5 : Int32} {M : Mem}, wp (f_X5_leftAtWorst_71 p1 p2 p3 n x4 x5 M) gIM Q → Ev E mi_X5_leftAtWorst 71 [(0, .ref (ad E 0)), (2, .int p2), (4, .int x4), (5, .int x5)] [] M Q := by
  intro n
  induction n with
  | zero => intro _ _ _ h; exact absurd h wp_none
  | succ n ih =>
    intro x4 x5 M h
    unfold f_X5_leftAtWorst_71 at h
    refine Ev.iload dX5_leftAtWorst_71 3 rfl ?_
    refine Ev.iconst (v := 4) dX5_leftAtWorst_73 rfl ?_
    refine Ev.icmp_ge (tgt := 152) dX5_leftAtWorst_74 (by decide) (fun c1 => ?_) (fun c1 => ?_)
    · replace h := wp_t c1 h
      refine Ev.iload dX5_leftAtWorst_152 2 rfl ?_
      exact Ev.ret dX5_leftAtWorst_154 rfl rfl (wp_ret h)
    · replace h := wp_f c1 h
      refine Ev.iconst (v := 0) dX5_leftAtWorst_77 rfl ?_
      refine Ev.istore dX5_leftAtWorst_78 (Nat.le_of_ble_eq_true rfl) rfl ?_
      show Ev E mi_X5_leftAtWorst 80 [(6, .int 0), (0, .ref (ad E 0)), (2, .int p2), (4, .int x4), (5, .int x5)] [] M Q
      refine Ev.iconst (v := 0) dX5_leftAtWorst_80 rfl ?_
      refine Ev.istore dX5_leftAtWorst_81 (Nat.le_of_ble_eq_true rfl) rfl ?_
      show Ev E mi_X5_leftAtWorst 83 [(7, .int 0), (6, .int 0), (0, .ref (ad E 0)), (2, .int p2), (4, .int x4), (5, .int x5)] [] M Q
      refine Ev.sub [2, 3, 4, 5, 1, 0] rfl ?_
      exact o_X5_leftAtWorst_83 (fun _ _ _ h => ih h) FU h
noncomputable def f_X5_leftAtWorst_65 (p1 : Int32) (p2 : Int32) (p3 : Int32) (M : Mem) : Option (Int32 × Mem) := f_X5_leftAtWorst_71 p1 p2 p3 FU 0 0 M
theorem o_X5_leftAtWorst_65 {E : GE} {Q : Option Value → Mem → Prop} {p1 : Int32} {p2 : Int32} {p3 : Int32} {M : Mem} (h : wp (f_X5_leftAtWorst_65 p1 p2 p3 M) gIM Q) : Ev E mi_X5_leftAtWorst 65 [(0, .ref (ad E 0)), (2, .int p2)] [] M Q := by
  unfold f_X5_leftAtWorst_65 at h
  refine Ev.iconst (v := 0) dX5_leftAtWorst_65 rfl ?_
  refine Ev.istore dX5_leftAtWorst_66 (Nat.le_of_ble_eq_true rfl) rfl ?_
  show Ev E mi_X5_leftAtWorst 68 [(4, .int 0), (0, .ref (ad E 0)), (2, .int p2)] [] M Q
  refine Ev.iconst (v := 0) dX5_leftAtWorst_68 rfl ?_
  refine Ev.istore dX5_leftAtWorst_69 (Nat.le_of_ble_eq_true rfl) rfl ?_
  show Ev E mi_X5_leftAtWorst 71 [(5, .int 0), (4, .int 0), (0, .ref (ad E 0)), (2, .int p2)] [] M Q
  refine Ev.sub [2, 3, 1, 0] rfl ?_
  exact o_X5_leftAtWorst_71 FU h
noncomputable def f_X5_leftAtWorst_14 (p1 : Int32) (p2 : Int32) (p3 : Int32) : Nat → Int32 → Mem → Option (Int32 × Mem)
  | 0, _, _ => none
  | n + 1, x4, M => if 4 ≤ x4 then f_X5_leftAtWorst_65 p1 p2 p3 M else (f_X2_putTub 14 p1 0 x4 M).bind fun r2 => (f_X0_sailTub 14 p1 p3 r2).bind fun r3 => (f_X0_eastOf p1 r3).bind fun r4 => inb x4 4 <| lm (up r3 51 x4.toNatClampNeg r4) fun M6 => (f_X5_leftAtWorst_14 p1 p2 p3 n) (x4 + 1) M6
theorem o_X5_leftAtWorst_14 {E : GE} {Q : Option Value → Mem → Prop} {p1 : Int32} {p2 : Int32} {p3 : Int32} : ∀ (n : Nat) {x4 : Int32} {M : Mem}, wp (f_X5_leftAtWorst_14 p1 p2 p3 n x4 M) gIM Q → Ev E mi_X5_leftAtWorst 14 [(0, .ref (ad E 0)), (1, .int p1), (2, .int p2), (3, .int p3), (4, .int x4)] [] M Q := by
  intro n
  induction n with
  | zero => intro _ _ h; exact absurd h wp_none
  | succ n ih =>
    intro x4 M h
    unfold f_X5_leftAtWorst_14 at h
    refine Ev.iload dX5_leftAtWorst_14 4 rfl ?_
    refine Ev.iconst (v := 4) dX5_leftAtWorst_16 rfl ?_
    refine Ev.icmp_ge (tgt := 65) dX5_leftAtWorst_17 (by decide) (fun c1 => ?_) (fun c1 => ?_)
    · replace h := wp_t c1 h
      refine Ev.sub [0, 2] rfl ?_
      exact o_X5_leftAtWorst_65 h
    · replace h := wp_f c1 h
      refine Ev.aload_n dX5_leftAtWorst_20 rfl 0 rfl ?_
      refine Ev.get dX5_leftAtWorst_21 fl_X5_28 rfl (Nat.le_of_ble_eq_true rfl) (v := .ref (ad E 14)) rfl ?_
      refine Ev.iload_n dX5_leftAtWorst_24 rfl 1 rfl ?_
      refine Ev.iconst (v := 0) dX5_leftAtWorst_25 rfl ?_
      refine Ev.iload dX5_leftAtWorst_26 4 rfl ?_
      obtain ⟨r2, er2, h⟩ := wp_bind h
      refine Ev.callN (k := 14) (as := [.int p1, .int 0, .int x4]) (rest := []) dX5_leftAtWorst_28 cn_X5_150 mok_X2_putTub rfl (Nat.le_of_ble_eq_true rfl) (Nat.le_of_ble_eq_true rfl) ⟨Nat.le_of_ble_eq_true rfl, Nat.le_of_ble_eq_true rfl⟩ (Nat.le_of_ble_eq_true rfl) rfl rfl (o_X2_putTub sea_14 ⟨r2, er2, ?_⟩)
      show Ev E mi_X5_leftAtWorst 31 [(0, .ref (ad E 0)), (1, .int p1), (2, .int p2), (3, .int p3), (4, .int x4)] [] r2 Q
      refine Ev.aload_n dX5_leftAtWorst_31 rfl 0 rfl ?_
      refine Ev.get dX5_leftAtWorst_32 fl_X5_49 rfl (Nat.le_of_ble_eq_true rfl) (v := .ref (ad E 40)) rfl ?_
      refine Ev.aload_n dX5_leftAtWorst_35 rfl 0 rfl ?_
      refine Ev.get dX5_leftAtWorst_36 fl_X5_28 rfl (Nat.le_of_ble_eq_true rfl) (v := .ref (ad E 14)) rfl ?_
      refine Ev.iload_n dX5_leftAtWorst_39 rfl 1 rfl ?_
      refine Ev.iload_n dX5_leftAtWorst_40 rfl 3 rfl ?_
      obtain ⟨r3, er3, h⟩ := wp_bind h
      refine Ev.callN (k := 40) (as := [.ref (ad E 14), .int p1, .int p3]) (rest := []) dX5_leftAtWorst_41 cn_X5_298 mok_X0_sailTub rfl (Nat.le_of_ble_eq_true rfl) (Nat.le_of_ble_eq_true rfl) ⟨Nat.le_of_ble_eq_true rfl, Nat.le_of_ble_eq_true rfl⟩ (Nat.le_of_ble_eq_true rfl) rfl rfl (o_X0_sailTub sea_14 ⟨r3, er3, ?_⟩)
      show Ev E mi_X5_leftAtWorst 44 [(0, .ref (ad E 0)), (1, .int p1), (2, .int p2), (3, .int p3), (4, .int x4)] [] r3 Q
      refine Ev.aload_n dX5_leftAtWorst_44 rfl 0 rfl ?_
      refine Ev.get dX5_leftAtWorst_45 fl_X5_66 rfl (Nat.le_of_ble_eq_true rfl) (v := .ref (ad E 51)) rfl ?_
      refine Ev.iload dX5_leftAtWorst_48 4 rfl ?_
      refine Ev.aload_n dX5_leftAtWorst_50 rfl 0 rfl ?_
      refine Ev.get dX5_leftAtWorst_51 fl_X5_49 rfl (Nat.le_of_ble_eq_true rfl) (v := .ref (ad E 40)) rfl ?_
      refine Ev.iload_n dX5_leftAtWorst_54 rfl 1 rfl ?_
      obtain ⟨r4, er4, h⟩ := wp_bind h
      refine Ev.callN (k := 40) (as := [.int p1]) (rest := [.int x4, .ref (ad E 51)]) dX5_leftAtWorst_55 cn_X5_181 mok_X0_eastOf rfl (Nat.le_of_ble_eq_true rfl) (Nat.le_of_ble_eq_true rfl) ⟨Nat.le_of_ble_eq_true rfl, Nat.le_of_ble_eq_true rfl⟩ (Nat.le_of_ble_eq_true rfl) rfl rfl (o_X0_eastOf ⟨r4, er4, ?_⟩)
      show Ev E mi_X5_leftAtWorst 58 [(0, .ref (ad E 0)), (1, .int p1), (2, .int p2), (3, .int p3), (4, .int x4)] [.int r4, .int x4, .ref (ad E 51)] r3 Q
      obtain ⟨g5, h⟩ := wp_inb h
      refine Ev.iast dX5_leftAtWorst_58 rfl (Nat.le_of_ble_eq_true rfl) rfl g5 ?_
      refine Ev.topM (fun M6 eM6 => ?_)
      replace h := wp_lm h M6 eM6
      refine Ev.iinc (v := x4 + 1) dX5_leftAtWorst_59 4 rfl rfl (Nat.le_of_ble_eq_true rfl) rfl ?_
      show Ev E mi_X5_leftAtWorst 62 [(4, .int (x4 + 1)), (0, .ref (ad E 0)), (1, .int p1), (2, .int p2), (3, .int p3)] [] M6 Q
      refine Ev.goto (tgt := 14) dX5_leftAtWorst_62 (by decide) ?_
      refine Ev.sub [1, 2, 3, 4, 0] rfl ?_
      exact ih h
noncomputable def f_X5_leftAtWorst (p1 : Int32) (p2 : Int32) (p3 : Int32) (M : Mem) : Option (Int32 × Mem) := (f_X2_become 14 9 M).bind fun r1 => f_X5_leftAtWorst_14 p1 p2 p3 FU 0 r1
theorem o_X5_leftAtWorst {E : GE} {Q : Option Value → Mem → Prop} {p1 : Int32} {p2 : Int32} {p3 : Int32} {M : Mem} (h : wp (f_X5_leftAtWorst p1 p2 p3 M) gIM Q) : Runs E mi_X5_leftAtWorst [.ref (ad E 0), .int p1, .int p2, .int p3] M Q := by
  refine Runs.ofEv (by decide +kernel) (Nat.le_of_ble_eq_true rfl) ?_
  show Ev E mi_X5_leftAtWorst 0 [(0, .ref (ad E 0)), (1, .int p1), (2, .int p2), (3, .int p3)] [] M Q
  unfold f_X5_leftAtWorst at h
  refine Ev.aload_n dX5_leftAtWorst_0 rfl 0 rfl ?_
  refine Ev.get dX5_leftAtWorst_1 fl_X5_28 rfl (Nat.le_of_ble_eq_true rfl) (v := .ref (ad E 14)) rfl ?_
  refine Ev.aload_n dX5_leftAtWorst_4 rfl 0 rfl ?_
  refine Ev.get dX5_leftAtWorst_5 fl_X5_24 rfl (Nat.le_of_ble_eq_true rfl) (v := .ref (ad E 9)) rfl ?_
  obtain ⟨r1, er1, h⟩ := wp_bind h
  refine Ev.callN (k := 14) (as := [.ref (ad E 9)]) (rest := []) dX5_leftAtWorst_8 cn_X5_102 mok_X2_become rfl (Nat.le_of_ble_eq_true rfl) (Nat.le_of_ble_eq_true rfl) ⟨Nat.le_of_ble_eq_true rfl, Nat.le_of_ble_eq_true rfl⟩ (Nat.le_of_ble_eq_true rfl) rfl rfl (o_X2_become sea_14 sea_9 ⟨r1, er1, ?_⟩)
  show Ev E mi_X5_leftAtWorst 11 [(0, .ref (ad E 0)), (1, .int p1), (2, .int p2), (3, .int p3)] [] r1 Q
  refine Ev.iconst (v := 0) dX5_leftAtWorst_11 rfl ?_
  refine Ev.istore dX5_leftAtWorst_12 (Nat.le_of_ble_eq_true rfl) rfl ?_
  show Ev E mi_X5_leftAtWorst 14 [(4, .int 0), (0, .ref (ad E 0)), (1, .int p1), (2, .int p2), (3, .int p3)] [] r1 Q
  refine Ev.sub [1, 2, 3, 4, 0] rfl ?_
  exact o_X5_leftAtWorst_14 FU h

noncomputable def f_X5_look_73 (p1 : Int32) (p2 : Int32) (t41 : Int32 → Int32 → Int32 → Int32 → Mem → Option (Int32 × Mem)) (x3 : Int32) (x4 : Int32) (x5 : Int32) (x6 : Int32) (M : Mem) : Option (Int32 × Mem) := t41 x3 x4 x5 (x6 + 1) M
theorem o_X5_look_73 {E : GE} {Q : Option Value → Mem → Prop} {p1 : Int32} {p2 : Int32} {t41 : Int32 → Int32 → Int32 → Int32 → Mem → Option (Int32 × Mem)} {x3 : Int32} {x4 : Int32} {x5 : Int32} {x6 : Int32} {M : Mem} (ht41 : ∀ (x3 : Int32) (x4 : Int32) (x5 : Int32) (x6 : Int32) (M : Mem), wp (t41 x3 x4 x5 x6 M) gIM Q → Ev E mi_X5_look 41 [(0, .ref (ad E 0)), (1, .int p1), (2, .int p2), (3, .int x3), (4, .int x4), (5, .int x5), (6, .int x6)] [] M Q) (h : wp (f_X5_look_73 p1 p2 t41 x3 x4 x5 x6 M) gIM Q) : Ev E mi_X5_look 73 [(0, .ref (ad E 0)), (1, .int p1), (2, .int p2), (3, .int x3), (4, .int x4), (5, .int x5), (6, .int x6)] [] M Q := by
  unfold f_X5_look_73 at h
  refine Ev.iinc (v := x6 + 1) dX5_look_73 6 rfl rfl (Nat.le_of_ble_eq_true rfl) rfl ?_
  show Ev E mi_X5_look 76 [(6, .int (x6 + 1)), (0, .ref (ad E 0)), (1, .int p1), (2, .int p2), (3, .int x3), (4, .int x4), (5, .int x5)] [] M Q
  refine Ev.goto (tgt := 41) dX5_look_76 (by decide) ?_
  refine Ev.sub [1, 2, 3, 4, 5, 6, 0] rfl ?_
  exact ht41 _ _ _ _ _ h
noncomputable def f_X5_look_79 (p1 : Int32) (p2 : Int32) (x4 : Int32) (x5 : Int32) (M : Mem) : Option (Int32 × Mem) := if x5 = (-4) then some ((-4), M) else if p2 = 0 then some (x5, M) else some (x4, M)
theorem o_X5_look_79 {E : GE} {Q : Option Value → Mem → Prop} {p1 : Int32} {p2 : Int32} {x4 : Int32} {x5 : Int32} {M : Mem} (h : wp (f_X5_look_79 p1 p2 x4 x5 M) gIM Q) : Ev E mi_X5_look 79 [(2, .int p2), (4, .int x4), (5, .int x5)] [] M Q := by
  unfold f_X5_look_79 at h
  refine Ev.iload dX5_look_79 2 rfl ?_
  refine Ev.bipush (v := (-4)) dX5_look_81 rfl ?_
  refine Ev.icmp_ne (tgt := 89) dX5_look_83 (by decide) (fun c1 => ?_) (fun c1 => ?_)
  · replace h := wp_t c1 h
    refine Ev.bipush (v := (-4)) dX5_look_86 rfl ?_
    exact Ev.ret dX5_look_88 rfl rfl (wp_ret h)
  · replace h := wp_f c1 h
    refine Ev.iload_n dX5_look_89 rfl 0 rfl ?_
    refine Ev.if_ne (tgt := 98) dX5_look_90 (by decide) (fun c2 => ?_) (fun c2 => ?_)
    · replace h := wp_t c2 h
      refine Ev.iload dX5_look_93 2 rfl ?_
      refine Ev.goto (tgt := 100) dX5_look_95 (by decide) ?_
      exact Ev.ret dX5_look_100 rfl rfl (wp_ret h)
    · replace h := wp_f c2 h
      refine Ev.iload dX5_look_98 1 rfl ?_
      exact Ev.ret dX5_look_100 rfl rfl (wp_ret h)
noncomputable def f_X5_look_41 (p1 : Int32) (p2 : Int32) : Nat → Int32 → Int32 → Int32 → Int32 → Mem → Option (Int32 × Mem)
  | 0, _, _, _, _, _ => none
  | n + 1, x3, x4, x5, x6, M => if 24 < x6 then f_X5_look_79 p1 p2 x4 x5 M else (f_X5_leftAtWorst p1 x3 x6 M).bind fun r2 => if x4 ≤ r2.1 then f_X5_look_73 p1 p2 (f_X5_look_41 p1 p2 n) x3 x4 x5 x6 r2.2 else f_X5_look_73 p1 p2 (f_X5_look_41 p1 p2 n) x3 r2.1 x6 x6 r2.2
theorem o_X5_look_41 {E : GE} {Q : Option Value → Mem → Prop} {p1 : Int32} {p2 : Int32} : ∀ (n : Nat) {x3 : Int32} {x4 : Int32} {x5 : Int32} {x6 : Int32} {M : Mem}, wp (f_X5_look_41 p1 p2 n x3 x4 x5 x6 M) gIM Q → Ev E mi_X5_look 41 [(0, .ref (ad E 0)), (1, .int p1), (2, .int p2), (3, .int x3), (4, .int x4), (5, .int x5), (6, .int x6)] [] M Q := by
  intro n
  induction n with
  | zero => intro _ _ _ _ _ h; exact absurd h wp_none
  | succ n ih =>
    intro x3 x4 x5 x6 M h
    unfold f_X5_look_41 at h
    refine Ev.iload dX5_look_41 6 rfl ?_
    refine Ev.bipush (v := 24) dX5_look_43 rfl ?_
    refine Ev.icmp_gt (tgt := 79) dX5_look_45 (by decide) (fun c1 => ?_) (fun c1 => ?_)
    · replace h := wp_t c1 h
      refine Ev.sub [2, 4, 5] rfl ?_
      exact o_X5_look_79 h
    · replace h := wp_f c1 h
      refine Ev.aload_n dX5_look_48 rfl 0 rfl ?_
      refine Ev.iload_n dX5_look_49 rfl 1 rfl ?_
      refine Ev.iload_n dX5_look_50 rfl 3 rfl ?_
      refine Ev.iload dX5_look_51 6 rfl ?_
      obtain ⟨r2, er2, h⟩ := wp_bind h
      refine Ev.callV (k := 0) (as := [.int p1, .int x3, .int x6]) (rest := []) dX5_look_53 cl_X5_261 mok_X5_leftAtWorst rfl (Nat.le_of_ble_eq_true rfl) (Nat.le_of_ble_eq_true rfl) ⟨Nat.le_of_ble_eq_true rfl, Nat.le_of_ble_eq_true rfl⟩ (Nat.le_of_ble_eq_true rfl) rfl rfl (o_X5_leftAtWorst ⟨r2, er2, ?_⟩)
      show Ev E mi_X5_look 56 [(0, .ref (ad E 0)), (1, .int p1), (2, .int p2), (3, .int x3), (4, .int x4), (5, .int x5), (6, .int x6)] [.int r2.1] r2.2 Q
      refine Ev.istore dX5_look_56 (Nat.le_of_ble_eq_true rfl) rfl ?_
      show Ev E mi_X5_look 58 [(7, .int r2.1), (0, .ref (ad E 0)), (1, .int p1), (2, .int p2), (3, .int x3), (4, .int x4), (5, .int x5), (6, .int x6)] [] r2.2 Q
      refine Ev.iload dX5_look_58 0 rfl ?_
      refine Ev.iload dX5_look_60 5 rfl ?_
      refine Ev.icmp_ge (tgt := 73) dX5_look_62 (by decide) (fun c3 => ?_) (fun c3 => ?_)
      · replace h := wp_t c3 h
        refine Ev.sub [1, 2, 3, 4, 5, 6, 7] rfl ?_
        exact o_X5_look_73 (fun _ _ _ _ _ h => ih h) h
      · replace h := wp_f c3 h
        refine Ev.iload dX5_look_65 0 rfl ?_
        refine Ev.istore dX5_look_67 (Nat.le_of_ble_eq_true rfl) rfl ?_
        show Ev E mi_X5_look 69 [(4, .int r2.1), (7, .int r2.1), (0, .ref (ad E 0)), (1, .int p1), (2, .int p2), (3, .int x3), (5, .int x5), (6, .int x6)] [] r2.2 Q
        refine Ev.iload dX5_look_69 7 rfl ?_
        refine Ev.istore dX5_look_71 (Nat.le_of_ble_eq_true rfl) rfl ?_
        show Ev E mi_X5_look 73 [(5, .int x6), (4, .int r2.1), (7, .int r2.1), (0, .ref (ad E 0)), (1, .int p1), (2, .int p2), (3, .int x3), (6, .int x6)] [] r2.2 Q
        refine Ev.sub [3, 4, 5, 6, 1, 0, 7] rfl ?_
        exact o_X5_look_73 (fun _ _ _ _ _ h => ih h) h
noncomputable def f_X5_look (p1 : Int32) (p2 : Int32) (M : Mem) : Option (Int32 × Mem) := (f_X2_isTub 9 p1 M).bind fun r1 => if r1 = 0 then some ((-1), M) else (f_X5_within p2 0 1 M).bind fun r3 => if r3 = 0 then some ((-1), M) else (f_X5_kindsAsSeen p1 M).bind fun r5 => (f_J6_bitCount_0f7a4 r5.2 r5.1).bind fun r6 => f_X5_look_41 p1 p2 FU r5.1 r6 (-4) 0 r5.2
theorem o_X5_look {E : GE} {Q : Option Value → Mem → Prop} {p1 : Int32} {p2 : Int32} {M : Mem} (h : wp (f_X5_look p1 p2 M) gIM Q) : Runs E mi_X5_look [.ref (ad E 0), .int p1, .int p2] M Q := by
  refine Runs.ofEv (by decide +kernel) (Nat.le_of_ble_eq_true rfl) ?_
  show Ev E mi_X5_look 0 [(0, .ref (ad E 0)), (1, .int p1), (2, .int p2)] [] M Q
  unfold f_X5_look at h
  refine Ev.aload_n dX5_look_0 rfl 0 rfl ?_
  refine Ev.get dX5_look_1 fl_X5_24 rfl (Nat.le_of_ble_eq_true rfl) (v := .ref (ad E 9)) rfl ?_
  refine Ev.iload_n dX5_look_4 rfl 1 rfl ?_
  obtain ⟨r1, er1, h⟩ := wp_bind h
  refine Ev.callN (k := 9) (as := [.int p1]) (rest := []) dX5_look_5 cn_X5_124 mok_X2_isTub rfl (Nat.le_of_ble_eq_true rfl) (Nat.le_of_ble_eq_true rfl) ⟨Nat.le_of_ble_eq_true rfl, Nat.le_of_ble_eq_true rfl⟩ (Nat.le_of_ble_eq_true rfl) rfl rfl (o_X2_isTub sea_9 ⟨r1, er1, ?_⟩)
  show Ev E mi_X5_look 8 [(0, .ref (ad E 0)), (1, .int p1), (2, .int p2)] [.int r1] M Q
  refine Ev.if_eq (tgt := 20) dX5_look_8 (by decide) (fun c2 => ?_) (fun c2 => ?_)
  · replace h := wp_t c2 h
    refine Ev.iconst (v := (-1)) dX5_look_20 rfl ?_
    exact Ev.ret dX5_look_21 rfl rfl (wp_ret h)
  · replace h := wp_f c2 h
    refine Ev.iload_n dX5_look_11 rfl 2 rfl ?_
    refine Ev.iconst (v := 0) dX5_look_12 rfl ?_
    refine Ev.iconst (v := 1) dX5_look_13 rfl ?_
    obtain ⟨r3, er3, h⟩ := wp_bind h
    refine Ev.callS (as := [.int p2, .int 0, .int 1]) (rest := []) dX5_look_14 cl_X5_75 mos_X5_within ⟨Nat.le_of_ble_eq_true rfl, Nat.le_of_ble_eq_true rfl⟩ (Nat.le_of_ble_eq_true rfl) rfl rfl (o_X5_within ⟨r3, er3, ?_⟩)
    show Ev E mi_X5_look 17 [(0, .ref (ad E 0)), (1, .int p1), (2, .int p2)] [.int r3] M Q
    refine Ev.if_ne (tgt := 22) dX5_look_17 (by decide) (fun c4 => ?_) (fun c4 => ?_)
    · replace h := wp_t c4 h
      refine Ev.iconst (v := (-1)) dX5_look_20 rfl ?_
      exact Ev.ret dX5_look_21 rfl rfl (wp_ret h)
    · replace h := wp_f c4 h
      refine Ev.aload_n dX5_look_22 rfl 0 rfl ?_
      refine Ev.iload_n dX5_look_23 rfl 1 rfl ?_
      obtain ⟨r5, er5, h⟩ := wp_bind h
      refine Ev.callV (k := 0) (as := [.int p1]) (rest := []) dX5_look_24 cl_X5_249 mok_X5_kindsAsSeen rfl (Nat.le_of_ble_eq_true rfl) (Nat.le_of_ble_eq_true rfl) ⟨Nat.le_of_ble_eq_true rfl, Nat.le_of_ble_eq_true rfl⟩ (Nat.le_of_ble_eq_true rfl) rfl rfl (o_X5_kindsAsSeen ⟨r5, er5, ?_⟩)
      show Ev E mi_X5_look 27 [(0, .ref (ad E 0)), (1, .int p1), (2, .int p2)] [.int r5.1] r5.2 Q
      refine Ev.istore_n dX5_look_27 rfl (Nat.le_of_ble_eq_true rfl) rfl ?_
      show Ev E mi_X5_look 28 [(3, .int r5.1), (0, .ref (ad E 0)), (1, .int p1), (2, .int p2)] [] r5.2 Q
      refine Ev.iload_n dX5_look_28 rfl 0 rfl ?_
      obtain ⟨r6, er6, h⟩ := wp_bind h
      refine Ev.callS (as := [.int r5.1]) (rest := []) dX5_look_29 cl_X5_256 mos_J6_bitCount_0f7a4 ⟨Nat.le_of_ble_eq_true rfl, Nat.le_of_ble_eq_true rfl⟩ (Nat.le_of_ble_eq_true rfl) rfl rfl (o_J6_bitCount_0f7a4 ⟨r6, er6, ?_⟩)
      show Ev E mi_X5_look 32 [(3, .int r5.1), (0, .ref (ad E 0)), (1, .int p1), (2, .int p2)] [.int r6] r5.2 Q
      refine Ev.istore dX5_look_32 (Nat.le_of_ble_eq_true rfl) rfl ?_
      show Ev E mi_X5_look 34 [(4, .int r6), (3, .int r5.1), (0, .ref (ad E 0)), (1, .int p1), (2, .int p2)] [] r5.2 Q
      refine Ev.bipush (v := (-4)) dX5_look_34 rfl ?_
      refine Ev.istore dX5_look_36 (Nat.le_of_ble_eq_true rfl) rfl ?_
      show Ev E mi_X5_look 38 [(5, .int (-4)), (4, .int r6), (3, .int r5.1), (0, .ref (ad E 0)), (1, .int p1), (2, .int p2)] [] r5.2 Q
      refine Ev.iconst (v := 0) dX5_look_38 rfl ?_
      refine Ev.istore dX5_look_39 (Nat.le_of_ble_eq_true rfl) rfl ?_
      show Ev E mi_X5_look 41 [(6, .int 0), (5, .int (-4)), (4, .int r6), (3, .int r5.1), (0, .ref (ad E 0)), (1, .int p1), (2, .int p2)] [] r5.2 Q
      refine Ev.sub [4, 5, 6, 3, 2, 1, 0] rfl ?_
      exact o_X5_look_41 FU h

noncomputable def f_X5_drift_171 (p1 : Int32) (p2 : Int32) (p3 : Int32) (x6 : Int32) (M : Mem) : Option (Int32 × Mem) := if p3 = 0 then some (x6, M) else (f_X0_tubsOfWay 14 1 M).bind fun r2 => some (r2, M)
theorem o_X5_drift_171 {E : GE} {Q : Option Value → Mem → Prop} {p1 : Int32} {p2 : Int32} {p3 : Int32} {x6 : Int32} {M : Mem} (h : wp (f_X5_drift_171 p1 p2 p3 x6 M) gIM Q) : Ev E mi_X5_drift 171 [(0, .ref (ad E 0)), (3, .int p3), (6, .int x6)] [] M Q := by
  unfold f_X5_drift_171 at h
  refine Ev.iload_n dX5_drift_171 rfl 1 rfl ?_
  refine Ev.if_ne (tgt := 180) dX5_drift_172 (by decide) (fun c1 => ?_) (fun c1 => ?_)
  · replace h := wp_t c1 h
    refine Ev.iload dX5_drift_175 2 rfl ?_
    refine Ev.goto (tgt := 192) dX5_drift_177 (by decide) ?_
    exact Ev.ret dX5_drift_192 rfl rfl (wp_ret h)
  · replace h := wp_f c1 h
    refine Ev.aload_n dX5_drift_180 rfl 0 rfl ?_
    refine Ev.get dX5_drift_181 fl_X5_49 rfl (Nat.le_of_ble_eq_true rfl) (v := .ref (ad E 40)) rfl ?_
    refine Ev.aload_n dX5_drift_184 rfl 0 rfl ?_
    refine Ev.get dX5_drift_185 fl_X5_28 rfl (Nat.le_of_ble_eq_true rfl) (v := .ref (ad E 14)) rfl ?_
    refine Ev.iconst (v := 1) dX5_drift_188 rfl ?_
    obtain ⟨r2, er2, h⟩ := wp_bind h
    refine Ev.callN (k := 40) (as := [.ref (ad E 14), .int 1]) (rest := []) dX5_drift_189 cn_X5_201 mok_X0_tubsOfWay rfl (Nat.le_of_ble_eq_true rfl) (Nat.le_of_ble_eq_true rfl) ⟨Nat.le_of_ble_eq_true rfl, Nat.le_of_ble_eq_true rfl⟩ (Nat.le_of_ble_eq_true rfl) rfl rfl (o_X0_tubsOfWay sea_14 ⟨r2, er2, ?_⟩)
    show Ev E mi_X5_drift 192 [(0, .ref (ad E 0)), (3, .int p3), (6, .int x6)] [.int r2] M Q
    exact Ev.ret dX5_drift_192 rfl rfl (wp_ret h)
noncomputable def f_X5_drift_70 (p1 : Int32) (p2 : Int32) (p3 : Int32) : Nat → Int32 → Int32 → Int32 → Int32 → Mem → Option (Int32 × Mem)
  | 0, _, _, _, _, _ => none
  | n + 1, x4, x5, x6, x7, M => if p2 ≤ x7 then f_X5_drift_171 p1 p2 p3 x6 M else li ((x5 * 1103515245) + 12345) fun y2 => li (((y2.toUInt32 >>> ((16 : Int32).toUInt32 &&& Int32.toUInt32 31)).toInt32) &&& 32767) fun y3 => nz x4 <| li (y3 - y3 / x4 * x4) fun y5 => (f_X2_moveTub 14 y5 ((y3 / 8) - (y3 / 8) / 10 * 10) (1 + ((y3 / 128) - (y3 / 128) / 9 * 9)) M).bind fun r6 => (f_X0_runTub 14 y5 24 r6).bind fun r7 => (f_X0_estatesHooked 14 r7).bind fun r8 => li (x6 + r8) fun y9 => (f_X5_drift_70 p1 p2 p3 n) x4 y2 y9 (x7 + 1) r7
theorem o_X5_drift_70 {E : GE} {Q : Option Value → Mem → Prop} {p1 : Int32} {p2 : Int32} {p3 : Int32} : ∀ (n : Nat) {x4 : Int32} {x5 : Int32} {x6 : Int32} {x7 : Int32} {M : Mem}, wp (f_X5_drift_70 p1 p2 p3 n x4 x5 x6 x7 M) gIM Q → Ev E mi_X5_drift 70 [(0, .ref (ad E 0)), (2, .int p2), (3, .int p3), (4, .int x4), (5, .int x5), (6, .int x6), (7, .int x7)] [] M Q := by
  intro n
  induction n with
  | zero => intro _ _ _ _ _ h; exact absurd h wp_none
  | succ n ih =>
    intro x4 x5 x6 x7 M h
    unfold f_X5_drift_70 at h
    refine Ev.iload dX5_drift_70 6 rfl ?_
    refine Ev.iload_n dX5_drift_72 rfl 1 rfl ?_
    refine Ev.icmp_ge (tgt := 171) dX5_drift_73 (by decide) (fun c1 => ?_) (fun c1 => ?_)
    · replace h := wp_t c1 h
      refine Ev.sub [0, 2, 5] rfl ?_
      exact o_X5_drift_171 h
    · replace h := wp_f c1 h
      refine Ev.iload dX5_drift_76 4 rfl ?_
      refine Ev.ldcw dX5_drift_78 fc_X5_264 ?_
      refine Ev.imul dX5_drift_81 ?_
      refine Ev.sipush (v := 12345) dX5_drift_82 rfl ?_
      refine Ev.iadd dX5_drift_85 ?_
      refine Ev.topi (fun y2 ey2 => ?_)
      replace h := wp_li h y2 ey2
      refine Ev.istore dX5_drift_86 (Nat.le_of_ble_eq_true rfl) rfl ?_
      show Ev E mi_X5_drift 88 [(5, .int y2), (0, .ref (ad E 0)), (2, .int p2), (3, .int p3), (4, .int x4), (6, .int x6), (7, .int x7)] [] M Q
      refine Ev.iload dX5_drift_88 0 rfl ?_
      refine Ev.bipush (v := 16) dX5_drift_90 rfl ?_
      refine Ev.iushr dX5_drift_92 ?_
      refine Ev.sipush (v := 32767) dX5_drift_93 rfl ?_
      refine Ev.iand dX5_drift_96 ?_
      refine Ev.topi (fun y3 ey3 => ?_)
      replace h := wp_li h y3 ey3
      refine Ev.istore dX5_drift_97 (Nat.le_of_ble_eq_true rfl) rfl ?_
      show Ev E mi_X5_drift 99 [(8, .int y3), (5, .int y2), (0, .ref (ad E 0)), (2, .int p2), (3, .int p3), (4, .int x4), (6, .int x6), (7, .int x7)] [] M Q
      refine Ev.iload dX5_drift_99 0 rfl ?_
      refine Ev.iload dX5_drift_101 5 rfl ?_
      obtain ⟨g4, h⟩ := wp_nz h
      refine Ev.irem dX5_drift_103 g4 ?_
      refine Ev.topi (fun y5 ey5 => ?_)
      replace h := wp_li h y5 ey5
      refine Ev.istore dX5_drift_104 (Nat.le_of_ble_eq_true rfl) rfl ?_
      show Ev E mi_X5_drift 106 [(9, .int y5), (8, .int y3), (5, .int y2), (0, .ref (ad E 0)), (2, .int p2), (3, .int p3), (4, .int x4), (6, .int x6), (7, .int x7)] [] M Q
      refine Ev.aload_n dX5_drift_106 rfl 3 rfl ?_
      refine Ev.get dX5_drift_107 fl_X5_28 rfl (Nat.le_of_ble_eq_true rfl) (v := .ref (ad E 14)) rfl ?_
      refine Ev.iload dX5_drift_110 0 rfl ?_
      refine Ev.iload dX5_drift_112 1 rfl ?_
      refine Ev.bipush (v := 8) dX5_drift_114 rfl ?_
      refine Ev.idiv dX5_drift_116 (by decide) ?_
      refine Ev.bipush (v := 10) dX5_drift_117 rfl ?_
      refine Ev.irem dX5_drift_119 (by decide) ?_
      refine Ev.iconst (v := 1) dX5_drift_120 rfl ?_
      refine Ev.iload dX5_drift_121 1 rfl ?_
      refine Ev.sipush (v := 128) dX5_drift_123 rfl ?_
      refine Ev.idiv dX5_drift_126 (by decide) ?_
      refine Ev.bipush (v := 9) dX5_drift_127 rfl ?_
      refine Ev.irem dX5_drift_129 (by decide) ?_
      refine Ev.iadd dX5_drift_130 ?_
      obtain ⟨r6, er6, h⟩ := wp_bind h
      refine Ev.callN (k := 14) (as := [.int y5, .int ((y3 / 8) - (y3 / 8) / 10 * 10), .int (1 + ((y3 / 128) - (y3 / 128) / 9 * 9))]) (rest := []) dX5_drift_131 cn_X5_214 mok_X2_moveTub rfl (Nat.le_of_ble_eq_true rfl) (Nat.le_of_ble_eq_true rfl) ⟨Nat.le_of_ble_eq_true rfl, Nat.le_of_ble_eq_true rfl⟩ (Nat.le_of_ble_eq_true rfl) rfl rfl (o_X2_moveTub sea_14 ⟨r6, er6, ?_⟩)
      show Ev E mi_X5_drift 134 [(9, .int y5), (8, .int y3), (5, .int y2), (0, .ref (ad E 0)), (2, .int p2), (3, .int p3), (4, .int x4), (6, .int x6), (7, .int x7)] [] r6 Q
      refine Ev.aload_n dX5_drift_134 rfl 3 rfl ?_
      refine Ev.get dX5_drift_135 fl_X5_49 rfl (Nat.le_of_ble_eq_true rfl) (v := .ref (ad E 40)) rfl ?_
      refine Ev.aload_n dX5_drift_138 rfl 3 rfl ?_
      refine Ev.get dX5_drift_139 fl_X5_28 rfl (Nat.le_of_ble_eq_true rfl) (v := .ref (ad E 14)) rfl ?_
      refine Ev.iload dX5_drift_142 0 rfl ?_
      refine Ev.bipush (v := 24) dX5_drift_144 rfl ?_
      obtain ⟨r7, er7, h⟩ := wp_bind h
      refine Ev.callN (k := 40) (as := [.ref (ad E 14), .int y5, .int 24]) (rest := []) dX5_drift_146 cn_X5_164 mok_X0_runTub rfl (Nat.le_of_ble_eq_true rfl) (Nat.le_of_ble_eq_true rfl) ⟨Nat.le_of_ble_eq_true rfl, Nat.le_of_ble_eq_true rfl⟩ (Nat.le_of_ble_eq_true rfl) rfl rfl (o_X0_runTub sea_14 ⟨r7, er7, ?_⟩)
      show Ev E mi_X5_drift 149 [(9, .int y5), (8, .int y3), (5, .int y2), (0, .ref (ad E 0)), (2, .int p2), (3, .int p3), (4, .int x4), (6, .int x6), (7, .int x7)] [] r7 Q
      refine Ev.iload dX5_drift_149 7 rfl ?_
      refine Ev.aload_n dX5_drift_151 rfl 3 rfl ?_
      refine Ev.get dX5_drift_152 fl_X5_49 rfl (Nat.le_of_ble_eq_true rfl) (v := .ref (ad E 40)) rfl ?_
      refine Ev.aload_n dX5_drift_155 rfl 3 rfl ?_
      refine Ev.get dX5_drift_156 fl_X5_28 rfl (Nat.le_of_ble_eq_true rfl) (v := .ref (ad E 14)) rfl ?_
      obtain ⟨r8, er8, h⟩ := wp_bind h
      refine Ev.callN (k := 40) (as := [.ref (ad E 14)]) (rest := [.int x6]) dX5_drift_159 cn_X5_197 mok_X0_estatesHooked rfl (Nat.le_of_ble_eq_true rfl) (Nat.le_of_ble_eq_true rfl) ⟨Nat.le_of_ble_eq_true rfl, Nat.le_of_ble_eq_true rfl⟩ (Nat.le_of_ble_eq_true rfl) rfl rfl (o_X0_estatesHooked sea_14 ⟨r8, er8, ?_⟩)
      show Ev E mi_X5_drift 162 [(9, .int y5), (8, .int y3), (5, .int y2), (0, .ref (ad E 0)), (2, .int p2), (3, .int p3), (4, .int x4), (6, .int x6), (7, .int x7)] [.int r8, .int x6] r7 Q
      refine Ev.iadd dX5_drift_162 ?_
      refine Ev.topi (fun y9 ey9 => ?_)
      replace h := wp_li h y9 ey9
      refine Ev.istore dX5_drift_163 (Nat.le_of_ble_eq_true rfl) rfl ?_
      show Ev E mi_X5_drift 165 [(6, .int y9), (9, .int y5), (8, .int y3), (5, .int y2), (0, .ref (ad E 0)), (2, .int p2), (3, .int p3), (4, .int x4), (7, .int x7)] [] r7 Q
      refine Ev.iinc (v := x7 + 1) dX5_drift_165 8 rfl rfl (Nat.le_of_ble_eq_true rfl) rfl ?_
      show Ev E mi_X5_drift 168 [(7, .int (x7 + 1)), (6, .int y9), (9, .int y5), (8, .int y3), (5, .int y2), (0, .ref (ad E 0)), (2, .int p2), (3, .int p3), (4, .int x4)] [] r7 Q
      refine Ev.goto (tgt := 70) dX5_drift_168 (by decide) ?_
      refine Ev.sub [5, 6, 7, 8, 4, 1, 0] rfl ?_
      exact ih h
noncomputable def f_X5_drift (p1 : Int32) (p2 : Int32) (p3 : Int32) (M : Mem) : Option (Int32 × Mem) := (f_X5_within p2 1 60 M).bind fun r1 => if r1 = 0 then some ((-1), M) else (f_X5_within p3 0 1 M).bind fun r3 => if r3 = 0 then some ((-1), M) else li (M 9 4) fun y5 => if 1 ≤ y5 then (f_X2_become 14 9 M).bind fun r7 => (f_X0_run 14 r7).bind fun r8 => f_X5_drift_70 p1 p2 p3 FU y5 p1 0 0 r8 else some ((-2), M)
theorem o_X5_drift {E : GE} {Q : Option Value → Mem → Prop} {p1 : Int32} {p2 : Int32} {p3 : Int32} {M : Mem} (h : wp (f_X5_drift p1 p2 p3 M) gIM Q) : Runs E mi_X5_drift [.ref (ad E 0), .int p1, .int p2, .int p3] M Q := by
  refine Runs.ofEv (by decide +kernel) (Nat.le_of_ble_eq_true rfl) ?_
  show Ev E mi_X5_drift 0 [(0, .ref (ad E 0)), (1, .int p1), (2, .int p2), (3, .int p3)] [] M Q
  unfold f_X5_drift at h
  refine Ev.iload_n dX5_drift_0 rfl 2 rfl ?_
  refine Ev.iconst (v := 1) dX5_drift_1 rfl ?_
  refine Ev.bipush (v := 60) dX5_drift_2 rfl ?_
  obtain ⟨r1, er1, h⟩ := wp_bind h
  refine Ev.callS (as := [.int p2, .int 1, .int 60]) (rest := []) dX5_drift_4 cl_X5_75 mos_X5_within ⟨Nat.le_of_ble_eq_true rfl, Nat.le_of_ble_eq_true rfl⟩ (Nat.le_of_ble_eq_true rfl) rfl rfl (o_X5_within ⟨r1, er1, ?_⟩)
  show Ev E mi_X5_drift 7 [(0, .ref (ad E 0)), (1, .int p1), (2, .int p2), (3, .int p3)] [.int r1] M Q
  refine Ev.if_eq (tgt := 19) dX5_drift_7 (by decide) (fun c2 => ?_) (fun c2 => ?_)
  · replace h := wp_t c2 h
    refine Ev.iconst (v := (-1)) dX5_drift_19 rfl ?_
    exact Ev.ret dX5_drift_20 rfl rfl (wp_ret h)
  · replace h := wp_f c2 h
    refine Ev.iload_n dX5_drift_10 rfl 3 rfl ?_
    refine Ev.iconst (v := 0) dX5_drift_11 rfl ?_
    refine Ev.iconst (v := 1) dX5_drift_12 rfl ?_
    obtain ⟨r3, er3, h⟩ := wp_bind h
    refine Ev.callS (as := [.int p3, .int 0, .int 1]) (rest := []) dX5_drift_13 cl_X5_75 mos_X5_within ⟨Nat.le_of_ble_eq_true rfl, Nat.le_of_ble_eq_true rfl⟩ (Nat.le_of_ble_eq_true rfl) rfl rfl (o_X5_within ⟨r3, er3, ?_⟩)
    show Ev E mi_X5_drift 16 [(0, .ref (ad E 0)), (1, .int p1), (2, .int p2), (3, .int p3)] [.int r3] M Q
    refine Ev.if_ne (tgt := 21) dX5_drift_16 (by decide) (fun c4 => ?_) (fun c4 => ?_)
    · replace h := wp_t c4 h
      refine Ev.iconst (v := (-1)) dX5_drift_19 rfl ?_
      exact Ev.ret dX5_drift_20 rfl rfl (wp_ret h)
    · replace h := wp_f c4 h
      refine Ev.aload_n dX5_drift_21 rfl 0 rfl ?_
      refine Ev.get dX5_drift_22 fl_X5_24 rfl (Nat.le_of_ble_eq_true rfl) (v := .ref (ad E 9)) rfl ?_
      refine Ev.getN dX5_drift_25 nl_X5_109 rfl (Nat.le_of_ble_eq_true rfl) rfl ?_
      refine Ev.topi (fun y5 ey5 => ?_)
      replace h := wp_li h y5 ey5
      refine Ev.istore dX5_drift_28 (Nat.le_of_ble_eq_true rfl) rfl ?_
      show Ev E mi_X5_drift 30 [(4, .int y5), (0, .ref (ad E 0)), (1, .int p1), (2, .int p2), (3, .int p3)] [] M Q
      refine Ev.iload dX5_drift_30 0 rfl ?_
      refine Ev.iconst (v := 1) dX5_drift_32 rfl ?_
      refine Ev.icmp_ge (tgt := 39) dX5_drift_33 (by decide) (fun c6 => ?_) (fun c6 => ?_)
      · replace h := wp_t c6 h
        refine Ev.aload_n dX5_drift_39 rfl 1 rfl ?_
        refine Ev.get dX5_drift_40 fl_X5_28 rfl (Nat.le_of_ble_eq_true rfl) (v := .ref (ad E 14)) rfl ?_
        refine Ev.aload_n dX5_drift_43 rfl 1 rfl ?_
        refine Ev.get dX5_drift_44 fl_X5_24 rfl (Nat.le_of_ble_eq_true rfl) (v := .ref (ad E 9)) rfl ?_
        obtain ⟨r7, er7, h⟩ := wp_bind h
        refine Ev.callN (k := 14) (as := [.ref (ad E 9)]) (rest := []) dX5_drift_47 cn_X5_102 mok_X2_become rfl (Nat.le_of_ble_eq_true rfl) (Nat.le_of_ble_eq_true rfl) ⟨Nat.le_of_ble_eq_true rfl, Nat.le_of_ble_eq_true rfl⟩ (Nat.le_of_ble_eq_true rfl) rfl rfl (o_X2_become sea_14 sea_9 ⟨r7, er7, ?_⟩)
        show Ev E mi_X5_drift 50 [(4, .int y5), (0, .ref (ad E 0)), (1, .int p1), (2, .int p2), (3, .int p3)] [] r7 Q
        refine Ev.aload_n dX5_drift_50 rfl 1 rfl ?_
        refine Ev.get dX5_drift_51 fl_X5_49 rfl (Nat.le_of_ble_eq_true rfl) (v := .ref (ad E 40)) rfl ?_
        refine Ev.aload_n dX5_drift_54 rfl 1 rfl ?_
        refine Ev.get dX5_drift_55 fl_X5_28 rfl (Nat.le_of_ble_eq_true rfl) (v := .ref (ad E 14)) rfl ?_
        obtain ⟨r8, er8, h⟩ := wp_bind h
        refine Ev.callN (k := 40) (as := [.ref (ad E 14)]) (rest := []) dX5_drift_58 cn_X5_187 mok_X0_run rfl (Nat.le_of_ble_eq_true rfl) (Nat.le_of_ble_eq_true rfl) ⟨Nat.le_of_ble_eq_true rfl, Nat.le_of_ble_eq_true rfl⟩ (Nat.le_of_ble_eq_true rfl) rfl rfl (o_X0_run sea_14 ⟨r8, er8, ?_⟩)
        show Ev E mi_X5_drift 61 [(4, .int y5), (0, .ref (ad E 0)), (1, .int p1), (2, .int p2), (3, .int p3)] [] r8 Q
        refine Ev.iload_n dX5_drift_61 rfl 2 rfl ?_
        refine Ev.istore dX5_drift_62 (Nat.le_of_ble_eq_true rfl) rfl ?_
        show Ev E mi_X5_drift 64 [(5, .int p1), (4, .int y5), (0, .ref (ad E 0)), (1, .int p1), (2, .int p2), (3, .int p3)] [] r8 Q
        refine Ev.iconst (v := 0) dX5_drift_64 rfl ?_
        refine Ev.istore dX5_drift_65 (Nat.le_of_ble_eq_true rfl) rfl ?_
        show Ev E mi_X5_drift 67 [(6, .int 0), (5, .int p1), (4, .int y5), (0, .ref (ad E 0)), (1, .int p1), (2, .int p2), (3, .int p3)] [] r8 Q
        refine Ev.iconst (v := 0) dX5_drift_67 rfl ?_
        refine Ev.istore dX5_drift_68 (Nat.le_of_ble_eq_true rfl) rfl ?_
        show Ev E mi_X5_drift 70 [(7, .int 0), (6, .int 0), (5, .int p1), (4, .int y5), (0, .ref (ad E 0)), (1, .int p1), (2, .int p2), (3, .int p3)] [] r8 Q
        refine Ev.sub [4, 6, 7, 3, 2, 1, 0] rfl ?_
        exact o_X5_drift_70 FU h
      · replace h := wp_f c6 h
        refine Ev.bipush (v := (-2)) dX5_drift_36 rfl ?_
        exact Ev.ret dX5_drift_38 rfl rfl (wp_ret h)

noncomputable def f_X5_keep_25 (p1 : Int32) (s0 : Int32) (M : Mem) : Option (Int32 × Mem) := inb p1 2 <| (f_X2_become (rf 19 p1.toNatClampNeg) 9 M).bind fun r2 => inb p1 2 <| lm (up r2 30 p1.toNatClampNeg (vp_nar .boolean 1)) fun M4 => some (s0, M4)
theorem o_X5_keep_25 {E : GE} {Q : Option Value → Mem → Prop} {p1 : Int32} {s0 : Int32} {M : Mem} (h : wp (f_X5_keep_25 p1 s0 M) gIM Q) : Ev E mi_X5_keep 25 [(0, .ref (ad E 0)), (1, .int p1)] [.int s0] M Q := by
  unfold f_X5_keep_25 at h
  refine Ev.istore_n dX5_keep_25 rfl (Nat.le_of_ble_eq_true rfl) rfl ?_
  show Ev E mi_X5_keep 26 [(2, .int s0), (0, .ref (ad E 0)), (1, .int p1)] [] M Q
  refine Ev.aload_n dX5_keep_26 rfl 1 rfl ?_
  refine Ev.get dX5_keep_27 fl_X5_31 rfl (Nat.le_of_ble_eq_true rfl) (v := .ref (ad E 19)) rfl ?_
  refine Ev.iload_n dX5_keep_30 rfl 2 rfl ?_
  obtain ⟨g1, h⟩ := wp_inb h
  refine Ev.aald dX5_keep_31 (Or.inl rfl) (Nat.le_of_ble_eq_true rfl) rfl g1 rfl ?_
  refine Ev.aload_n dX5_keep_32 rfl 1 rfl ?_
  refine Ev.get dX5_keep_33 fl_X5_24 rfl (Nat.le_of_ble_eq_true rfl) (v := .ref (ad E 9)) rfl ?_
  obtain ⟨r2, er2, h⟩ := wp_bind h
  refine Ev.callN (k := (rf 19 p1.toNatClampNeg)) (as := [.ref (ad E 9)]) (rest := []) dX5_keep_36 cn_X5_102 mok_X2_become (sea_cl (img_sea g1)) (sea_k7 (img_sea g1)) (sea_n0 (img_sea g1)) ⟨Nat.le_of_ble_eq_true rfl, Nat.le_of_ble_eq_true rfl⟩ (Nat.le_of_ble_eq_true rfl) rfl rfl (o_X2_become (img_sea g1) sea_9 ⟨r2, er2, ?_⟩)
  show Ev E mi_X5_keep 39 [(2, .int s0), (0, .ref (ad E 0)), (1, .int p1)] [] r2 Q
  refine Ev.aload_n dX5_keep_39 rfl 1 rfl ?_
  refine Ev.get dX5_keep_40 fl_X5_35 rfl (Nat.le_of_ble_eq_true rfl) (v := .ref (ad E 30)) rfl ?_
  refine Ev.iload_n dX5_keep_43 rfl 2 rfl ?_
  refine Ev.iconst (v := 1) dX5_keep_44 rfl ?_
  obtain ⟨g3, h⟩ := wp_inb h
  refine Ev.zast dX5_keep_45 rfl (Nat.le_of_ble_eq_true rfl) rfl g3 ?_
  refine Ev.topM (fun M4 eM4 => ?_)
  replace h := wp_lm h M4 eM4
  refine Ev.iload_n dX5_keep_46 rfl 0 rfl ?_
  exact Ev.ret dX5_keep_47 rfl rfl (wp_ret h)
noncomputable def f_X5_keep (p1 : Int32) (M : Mem) : Option (Int32 × Mem) := (f_X5_within p1 0 1 M).bind fun r1 => if r1 = 0 then some ((-1), M) else rd (M 30) 2 p1 fun r4 => if r4 = 0 then f_X5_keep_25 p1 0 M else f_X5_keep_25 p1 1 M
theorem o_X5_keep {E : GE} {Q : Option Value → Mem → Prop} {p1 : Int32} {M : Mem} (h : wp (f_X5_keep p1 M) gIM Q) : Runs E mi_X5_keep [.ref (ad E 0), .int p1] M Q := by
  refine Runs.ofEv (by decide +kernel) (Nat.le_of_ble_eq_true rfl) ?_
  show Ev E mi_X5_keep 0 [(0, .ref (ad E 0)), (1, .int p1)] [] M Q
  unfold f_X5_keep at h
  refine Ev.iload_n dX5_keep_0 rfl 1 rfl ?_
  refine Ev.iconst (v := 0) dX5_keep_1 rfl ?_
  refine Ev.iconst (v := 1) dX5_keep_2 rfl ?_
  obtain ⟨r1, er1, h⟩ := wp_bind h
  refine Ev.callS (as := [.int p1, .int 0, .int 1]) (rest := []) dX5_keep_3 cl_X5_75 mos_X5_within ⟨Nat.le_of_ble_eq_true rfl, Nat.le_of_ble_eq_true rfl⟩ (Nat.le_of_ble_eq_true rfl) rfl rfl (o_X5_within ⟨r1, er1, ?_⟩)
  show Ev E mi_X5_keep 6 [(0, .ref (ad E 0)), (1, .int p1)] [.int r1] M Q
  refine Ev.if_ne (tgt := 11) dX5_keep_6 (by decide) (fun c2 => ?_) (fun c2 => ?_)
  · replace h := wp_t c2 h
    refine Ev.iconst (v := (-1)) dX5_keep_9 rfl ?_
    exact Ev.ret dX5_keep_10 rfl rfl (wp_ret h)
  · replace h := wp_f c2 h
    refine Ev.aload_n dX5_keep_11 rfl 0 rfl ?_
    refine Ev.get dX5_keep_12 fl_X5_35 rfl (Nat.le_of_ble_eq_true rfl) (v := .ref (ad E 30)) rfl ?_
    refine Ev.iload_n dX5_keep_15 rfl 1 rfl ?_
    obtain ⟨g3, h⟩ := wp_rd h
    refine Ev.zald dX5_keep_16 rfl (Nat.le_of_ble_eq_true rfl) rfl g3 ?_
    refine Ev.topi (fun r4 er4 => ?_)
    replace h := h r4 er4
    refine Ev.if_eq (tgt := 24) dX5_keep_17 (by decide) (fun c5 => ?_) (fun c5 => ?_)
    · replace h := wp_t c5 h
      refine Ev.iconst (v := 0) dX5_keep_24 rfl ?_
      exact o_X5_keep_25 h
    · replace h := wp_f c5 h
      refine Ev.iconst (v := 1) dX5_keep_20 rfl ?_
      refine Ev.goto (tgt := 25) dX5_keep_21 (by decide) ?_
      exact o_X5_keep_25 h

noncomputable def f_X5_back (p1 : Int32) (M : Mem) : Option (Int32 × Mem) := (f_X5_within p1 0 1 M).bind fun r1 => if r1 = 0 then some ((-1), M) else rd (M 30) 2 p1 fun r4 => if r4 = 0 then some ((-2), M) else inb p1 2 <| (f_X2_become 9 (rf 19 p1.toNatClampNeg) M).bind fun r7 => (f_X2_estates 9 r7).bind fun r8 => some (r8, r7)
theorem o_X5_back {E : GE} {Q : Option Value → Mem → Prop} {p1 : Int32} {M : Mem} (h : wp (f_X5_back p1 M) gIM Q) : Runs E mi_X5_back [.ref (ad E 0), .int p1] M Q := by
  refine Runs.ofEv (by decide +kernel) (Nat.le_of_ble_eq_true rfl) ?_
  show Ev E mi_X5_back 0 [(0, .ref (ad E 0)), (1, .int p1)] [] M Q
  unfold f_X5_back at h
  refine Ev.iload_n dX5_back_0 rfl 1 rfl ?_
  refine Ev.iconst (v := 0) dX5_back_1 rfl ?_
  refine Ev.iconst (v := 1) dX5_back_2 rfl ?_
  obtain ⟨r1, er1, h⟩ := wp_bind h
  refine Ev.callS (as := [.int p1, .int 0, .int 1]) (rest := []) dX5_back_3 cl_X5_75 mos_X5_within ⟨Nat.le_of_ble_eq_true rfl, Nat.le_of_ble_eq_true rfl⟩ (Nat.le_of_ble_eq_true rfl) rfl rfl (o_X5_within ⟨r1, er1, ?_⟩)
  show Ev E mi_X5_back 6 [(0, .ref (ad E 0)), (1, .int p1)] [.int r1] M Q
  refine Ev.if_ne (tgt := 11) dX5_back_6 (by decide) (fun c2 => ?_) (fun c2 => ?_)
  · replace h := wp_t c2 h
    refine Ev.iconst (v := (-1)) dX5_back_9 rfl ?_
    exact Ev.ret dX5_back_10 rfl rfl (wp_ret h)
  · replace h := wp_f c2 h
    refine Ev.aload_n dX5_back_11 rfl 0 rfl ?_
    refine Ev.get dX5_back_12 fl_X5_35 rfl (Nat.le_of_ble_eq_true rfl) (v := .ref (ad E 30)) rfl ?_
    refine Ev.iload_n dX5_back_15 rfl 1 rfl ?_
    obtain ⟨g3, h⟩ := wp_rd h
    refine Ev.zald dX5_back_16 rfl (Nat.le_of_ble_eq_true rfl) rfl g3 ?_
    refine Ev.topi (fun r4 er4 => ?_)
    replace h := h r4 er4
    refine Ev.if_ne (tgt := 23) dX5_back_17 (by decide) (fun c5 => ?_) (fun c5 => ?_)
    · replace h := wp_t c5 h
      refine Ev.bipush (v := (-2)) dX5_back_20 rfl ?_
      exact Ev.ret dX5_back_22 rfl rfl (wp_ret h)
    · replace h := wp_f c5 h
      refine Ev.aload_n dX5_back_23 rfl 0 rfl ?_
      refine Ev.get dX5_back_24 fl_X5_24 rfl (Nat.le_of_ble_eq_true rfl) (v := .ref (ad E 9)) rfl ?_
      refine Ev.aload_n dX5_back_27 rfl 0 rfl ?_
      refine Ev.get dX5_back_28 fl_X5_31 rfl (Nat.le_of_ble_eq_true rfl) (v := .ref (ad E 19)) rfl ?_
      refine Ev.iload_n dX5_back_31 rfl 1 rfl ?_
      obtain ⟨g6, h⟩ := wp_inb h
      refine Ev.aald dX5_back_32 (Or.inl rfl) (Nat.le_of_ble_eq_true rfl) rfl g6 rfl ?_
      obtain ⟨r7, er7, h⟩ := wp_bind h
      refine Ev.callN (k := 9) (as := [.ref (ad E (rf 19 p1.toNatClampNeg))]) (rest := []) dX5_back_33 cn_X5_102 mok_X2_become rfl (Nat.le_of_ble_eq_true rfl) (Nat.le_of_ble_eq_true rfl) ⟨Nat.le_of_ble_eq_true rfl, Nat.le_of_ble_eq_true rfl⟩ (Nat.le_of_ble_eq_true rfl) rfl rfl (o_X2_become sea_9 (img_sea g6) ⟨r7, er7, ?_⟩)
      show Ev E mi_X5_back 36 [(0, .ref (ad E 0)), (1, .int p1)] [] r7 Q
      refine Ev.aload_n dX5_back_36 rfl 0 rfl ?_
      refine Ev.get dX5_back_37 fl_X5_24 rfl (Nat.le_of_ble_eq_true rfl) (v := .ref (ad E 9)) rfl ?_
      obtain ⟨r8, er8, h⟩ := wp_bind h
      refine Ev.callN (k := 9) (as := []) (rest := []) dX5_back_40 cn_X5_118 mok_X2_estates rfl (Nat.le_of_ble_eq_true rfl) (Nat.le_of_ble_eq_true rfl) ⟨Nat.le_of_ble_eq_true rfl, Nat.le_of_ble_eq_true rfl⟩ (Nat.le_of_ble_eq_true rfl) rfl rfl (o_X2_estates sea_9 ⟨r8, er8, ?_⟩)
      show Ev E mi_X5_back 43 [(0, .ref (ad E 0)), (1, .int p1)] [.int r8] r7 Q
      exact Ev.ret dX5_back_43 rfl rfl (wp_ret h)

noncomputable def f_X5_sheet (p1 : Int32) (p2 : Int32) (p3 : Int32) (M : Mem) : Option (Int32 × Mem) := (f_X5_within p1 0 3 M).bind fun r1 => if r1 = 0 then some ((-1), M) else (f_X5_within p2 0 2 M).bind fun r3 => if r3 = 0 then some ((-1), M) else if p3 ≤ 40 then if 0 ≤ p3 then inb p1 4 <| (f_X3_renew (rf 31 p1.toNatClampNeg) p2 p3 M).bind fun r8 => some (1, r8) else some ((-14), M) else some ((-1), M)
theorem o_X5_sheet {E : GE} {Q : Option Value → Mem → Prop} {p1 : Int32} {p2 : Int32} {p3 : Int32} {M : Mem} (h : wp (f_X5_sheet p1 p2 p3 M) gIM Q) : Runs E mi_X5_sheet [.ref (ad E 0), .int p1, .int p2, .int p3] M Q := by
  refine Runs.ofEv (by decide +kernel) (Nat.le_of_ble_eq_true rfl) ?_
  show Ev E mi_X5_sheet 0 [(0, .ref (ad E 0)), (1, .int p1), (2, .int p2), (3, .int p3)] [] M Q
  unfold f_X5_sheet at h
  refine Ev.iload_n dX5_sheet_0 rfl 1 rfl ?_
  refine Ev.iconst (v := 0) dX5_sheet_1 rfl ?_
  refine Ev.iconst (v := 3) dX5_sheet_2 rfl ?_
  obtain ⟨r1, er1, h⟩ := wp_bind h
  refine Ev.callS (as := [.int p1, .int 0, .int 3]) (rest := []) dX5_sheet_3 cl_X5_75 mos_X5_within ⟨Nat.le_of_ble_eq_true rfl, Nat.le_of_ble_eq_true rfl⟩ (Nat.le_of_ble_eq_true rfl) rfl rfl (o_X5_within ⟨r1, er1, ?_⟩)
  show Ev E mi_X5_sheet 6 [(0, .ref (ad E 0)), (1, .int p1), (2, .int p2), (3, .int p3)] [.int r1] M Q
  refine Ev.if_eq (tgt := 24) dX5_sheet_6 (by decide) (fun c2 => ?_) (fun c2 => ?_)
  · replace h := wp_t c2 h
    refine Ev.iconst (v := (-1)) dX5_sheet_24 rfl ?_
    exact Ev.ret dX5_sheet_25 rfl rfl (wp_ret h)
  · replace h := wp_f c2 h
    refine Ev.iload_n dX5_sheet_9 rfl 2 rfl ?_
    refine Ev.iconst (v := 0) dX5_sheet_10 rfl ?_
    refine Ev.iconst (v := 2) dX5_sheet_11 rfl ?_
    obtain ⟨r3, er3, h⟩ := wp_bind h
    refine Ev.callS (as := [.int p2, .int 0, .int 2]) (rest := []) dX5_sheet_12 cl_X5_75 mos_X5_within ⟨Nat.le_of_ble_eq_true rfl, Nat.le_of_ble_eq_true rfl⟩ (Nat.le_of_ble_eq_true rfl) rfl rfl (o_X5_within ⟨r3, er3, ?_⟩)
    show Ev E mi_X5_sheet 15 [(0, .ref (ad E 0)), (1, .int p1), (2, .int p2), (3, .int p3)] [.int r3] M Q
    refine Ev.if_eq (tgt := 24) dX5_sheet_15 (by decide) (fun c4 => ?_) (fun c4 => ?_)
    · replace h := wp_t c4 h
      refine Ev.iconst (v := (-1)) dX5_sheet_24 rfl ?_
      exact Ev.ret dX5_sheet_25 rfl rfl (wp_ret h)
    · replace h := wp_f c4 h
      refine Ev.iload_n dX5_sheet_18 rfl 3 rfl ?_
      refine Ev.bipush (v := 40) dX5_sheet_19 rfl ?_
      refine Ev.icmp_le (tgt := 26) dX5_sheet_21 (by decide) (fun c5 => ?_) (fun c5 => ?_)
      · replace h := wp_t c5 h
        refine Ev.iload_n dX5_sheet_26 rfl 3 rfl ?_
        refine Ev.if_ge (tgt := 33) dX5_sheet_27 (by decide) (fun c6 => ?_) (fun c6 => ?_)
        · replace h := wp_t c6 h
          refine Ev.aload_n dX5_sheet_33 rfl 0 rfl ?_
          refine Ev.get dX5_sheet_34 fl_X5_42 rfl (Nat.le_of_ble_eq_true rfl) (v := .ref (ad E 31)) rfl ?_
          refine Ev.iload_n dX5_sheet_37 rfl 1 rfl ?_
          obtain ⟨g7, h⟩ := wp_inb h
          refine Ev.aald dX5_sheet_38 (Or.inr rfl) (Nat.le_of_ble_eq_true rfl) rfl g7 rfl ?_
          refine Ev.iload_n dX5_sheet_39 rfl 2 rfl ?_
          refine Ev.iload_n dX5_sheet_40 rfl 3 rfl ?_
          obtain ⟨r8, er8, h⟩ := wp_bind h
          refine Ev.callN (k := (rf 31 p1.toNatClampNeg)) (as := [.int p2, .int p3]) (rest := []) dX5_sheet_41 cn_X5_265 mok_X3_renew (sheet_cl (shs_sheet g7)) (sheet_k7 (shs_sheet g7)) (sheet_n0 (shs_sheet g7)) ⟨Nat.le_of_ble_eq_true rfl, Nat.le_of_ble_eq_true rfl⟩ (Nat.le_of_ble_eq_true rfl) rfl rfl (o_X3_renew (shs_sheet g7) ⟨r8, er8, ?_⟩)
          show Ev E mi_X5_sheet 44 [(0, .ref (ad E 0)), (1, .int p1), (2, .int p2), (3, .int p3)] [] r8 Q
          refine Ev.iconst (v := 1) dX5_sheet_44 rfl ?_
          exact Ev.ret dX5_sheet_45 rfl rfl (wp_ret h)
        · replace h := wp_f c6 h
          refine Ev.bipush (v := (-14)) dX5_sheet_30 rfl ?_
          exact Ev.ret dX5_sheet_32 rfl rfl (wp_ret h)
      · replace h := wp_f c5 h
        refine Ev.iconst (v := (-1)) dX5_sheet_24 rfl ?_
        exact Ev.ret dX5_sheet_25 rfl rfl (wp_ret h)

noncomputable def f_X5_lay (p1 : Int32) (p2 : Int32) (p3 : Int32) (M : Mem) : Option (Int32 × Mem) := (f_X5_within p1 0 3 M).bind fun r1 => if r1 = 0 then some ((-1), M) else inb p1 4 <| (f_X3_faultOf (rf 31 p1.toNatClampNeg) (M (rf 31 p1.toNatClampNeg) 1) p2 1 M).bind fun r4 => if r4 = 0 then (f_X3_put (rf 31 p1.toNatClampNeg) p2 p3 M).bind fun r6 => some (1, r6) else some ((-10) - r4, M)
theorem o_X5_lay {E : GE} {Q : Option Value → Mem → Prop} {p1 : Int32} {p2 : Int32} {p3 : Int32} {M : Mem} (h : wp (f_X5_lay p1 p2 p3 M) gIM Q) : Runs E mi_X5_lay [.ref (ad E 0), .int p1, .int p2, .int p3] M Q := by
  refine Runs.ofEv (by decide +kernel) (Nat.le_of_ble_eq_true rfl) ?_
  show Ev E mi_X5_lay 0 [(0, .ref (ad E 0)), (1, .int p1), (2, .int p2), (3, .int p3)] [] M Q
  unfold f_X5_lay at h
  refine Ev.iload_n dX5_lay_0 rfl 1 rfl ?_
  refine Ev.iconst (v := 0) dX5_lay_1 rfl ?_
  refine Ev.iconst (v := 3) dX5_lay_2 rfl ?_
  obtain ⟨r1, er1, h⟩ := wp_bind h
  refine Ev.callS (as := [.int p1, .int 0, .int 3]) (rest := []) dX5_lay_3 cl_X5_75 mos_X5_within ⟨Nat.le_of_ble_eq_true rfl, Nat.le_of_ble_eq_true rfl⟩ (Nat.le_of_ble_eq_true rfl) rfl rfl (o_X5_within ⟨r1, er1, ?_⟩)
  show Ev E mi_X5_lay 6 [(0, .ref (ad E 0)), (1, .int p1), (2, .int p2), (3, .int p3)] [.int r1] M Q
  refine Ev.if_ne (tgt := 11) dX5_lay_6 (by decide) (fun c2 => ?_) (fun c2 => ?_)
  · replace h := wp_t c2 h
    refine Ev.iconst (v := (-1)) dX5_lay_9 rfl ?_
    exact Ev.ret dX5_lay_10 rfl rfl (wp_ret h)
  · replace h := wp_f c2 h
    refine Ev.aload_n dX5_lay_11 rfl 0 rfl ?_
    refine Ev.get dX5_lay_12 fl_X5_42 rfl (Nat.le_of_ble_eq_true rfl) (v := .ref (ad E 31)) rfl ?_
    refine Ev.iload_n dX5_lay_15 rfl 1 rfl ?_
    obtain ⟨g3, h⟩ := wp_inb h
    refine Ev.aald dX5_lay_16 (Or.inr rfl) (Nat.le_of_ble_eq_true rfl) rfl g3 rfl ?_
    refine Ev.astore dX5_lay_17 (Nat.le_of_ble_eq_true rfl) rfl ?_
    show Ev E mi_X5_lay 19 [(4, .ref (ad E (rf 31 p1.toNatClampNeg))), (0, .ref (ad E 0)), (1, .int p1), (2, .int p2), (3, .int p3)] [] M Q
    refine Ev.aload dX5_lay_19 0 rfl ?_
    refine Ev.aload dX5_lay_21 0 rfl ?_
    refine Ev.getN dX5_lay_23 nl_X5_268 (sheet_k0 (shs_sheet g3)) (sheet_n0 (shs_sheet g3)) rfl ?_
    refine Ev.iload_n dX5_lay_26 rfl 3 rfl ?_
    refine Ev.iconst (v := 1) dX5_lay_27 rfl ?_
    obtain ⟨r4, er4, h⟩ := wp_bind h
    refine Ev.callN (k := (rf 31 p1.toNatClampNeg)) (as := [.int (M (rf 31 p1.toNatClampNeg) 1), .int p2, .int 1]) (rest := []) dX5_lay_28 cn_X5_271 mok_X3_faultOf (sheet_cl (shs_sheet g3)) (sheet_k7 (shs_sheet g3)) (sheet_n0 (shs_sheet g3)) ⟨Nat.le_of_ble_eq_true rfl, Nat.le_of_ble_eq_true rfl⟩ (Nat.le_of_ble_eq_true rfl) rfl rfl (o_X3_faultOf (shs_sheet g3) ⟨r4, er4, ?_⟩)
    show Ev E mi_X5_lay 31 [(4, .ref (ad E (rf 31 p1.toNatClampNeg))), (0, .ref (ad E 0)), (1, .int p1), (2, .int p2), (3, .int p3)] [.int r4] M Q
    refine Ev.istore dX5_lay_31 (Nat.le_of_ble_eq_true rfl) rfl ?_
    show Ev E mi_X5_lay 33 [(5, .int r4), (4, .ref (ad E (rf 31 p1.toNatClampNeg))), (0, .ref (ad E 0)), (1, .int p1), (2, .int p2), (3, .int p3)] [] M Q
    refine Ev.iload dX5_lay_33 0 rfl ?_
    refine Ev.if_eq (tgt := 44) dX5_lay_35 (by decide) (fun c5 => ?_) (fun c5 => ?_)
    · replace h := wp_t c5 h
      refine Ev.aload dX5_lay_44 1 rfl ?_
      refine Ev.iload_n dX5_lay_46 rfl 4 rfl ?_
      refine Ev.iload_n dX5_lay_47 rfl 5 rfl ?_
      obtain ⟨r6, er6, h⟩ := wp_bind h
      refine Ev.callN (k := (rf 31 p1.toNatClampNeg)) (as := [.int p2, .int p3]) (rest := []) dX5_lay_48 cn_X5_274 mok_X3_put (sheet_cl (shs_sheet g3)) (sheet_k7 (shs_sheet g3)) (sheet_n0 (shs_sheet g3)) ⟨Nat.le_of_ble_eq_true rfl, Nat.le_of_ble_eq_true rfl⟩ (Nat.le_of_ble_eq_true rfl) rfl rfl (o_X3_put (shs_sheet g3) ⟨r6, er6, ?_⟩)
      show Ev E mi_X5_lay 51 [(5, .int r4), (4, .ref (ad E (rf 31 p1.toNatClampNeg))), (0, .ref (ad E 0)), (1, .int p1), (2, .int p2), (3, .int p3)] [] r6 Q
      refine Ev.iconst (v := 1) dX5_lay_51 rfl ?_
      exact Ev.ret dX5_lay_52 rfl rfl (wp_ret h)
    · replace h := wp_f c5 h
      refine Ev.bipush (v := (-10)) dX5_lay_38 rfl ?_
      refine Ev.iload dX5_lay_40 0 rfl ?_
      refine Ev.isub dX5_lay_42 ?_
      exact Ev.ret dX5_lay_43 rfl rfl (wp_ret h)

noncomputable def f_X5_read_85 (p1 : Int32) (p2 : Int32) (p3 : Int32) (p4 : Int32) (x7 : Int32) (x8 : Int32) (M : Mem) : Option (Int32 × Mem) := lm (up M 0 16 x8) fun M1 => some (x7, M1)
theorem o_X5_read_85 {E : GE} {Q : Option Value → Mem → Prop} {p1 : Int32} {p2 : Int32} {p3 : Int32} {p4 : Int32} {x7 : Int32} {x8 : Int32} {M : Mem} (h : wp (f_X5_read_85 p1 p2 p3 p4 x7 x8 M) gIM Q) : Ev E mi_X5_read 85 [(0, .ref (ad E 0)), (7, .int x7), (8, .int x8)] [] M Q := by
  unfold f_X5_read_85 at h
  refine Ev.goto (tgt := 144) dX5_read_85 (by decide) ?_
  refine Ev.aload_n dX5_read_144 rfl 0 rfl ?_
  refine Ev.iload dX5_read_145 2 rfl ?_
  refine Ev.putA dX5_read_147 fl_X5_280 rfl (Nat.le_of_ble_eq_true rfl) rfl rfl pf_I rfl rfl ?_
  refine Ev.topM (fun M1 eM1 => ?_)
  replace h := wp_lm h M1 eM1
  refine Ev.iload dX5_read_150 1 rfl ?_
  exact Ev.ret dX5_read_152 rfl rfl (wp_ret h)
noncomputable def f_X5_read_123 (p1 : Int32) (p2 : Int32) (p3 : Int32) (p4 : Int32) (x6 : Int32) (x7 : Int32) (M : Mem) : Option (Int32 × Mem) := lm (up M 9 4 x6) fun M1 => some ((-20) - x7, M1)
theorem o_X5_read_123 {E : GE} {Q : Option Value → Mem → Prop} {p1 : Int32} {p2 : Int32} {p3 : Int32} {p4 : Int32} {x6 : Int32} {x7 : Int32} {M : Mem} (h : wp (f_X5_read_123 p1 p2 p3 p4 x6 x7 M) gIM Q) : Ev E mi_X5_read 123 [(0, .ref (ad E 0)), (6, .int x6), (7, .int x7)] [] M Q := by
  unfold f_X5_read_123 at h
  refine Ev.aload_n dX5_read_123 rfl 0 rfl ?_
  refine Ev.get dX5_read_124 fl_X5_24 rfl (Nat.le_of_ble_eq_true rfl) (v := .ref (ad E 9)) rfl ?_
  refine Ev.iload dX5_read_127 1 rfl ?_
  refine Ev.putN dX5_read_129 nl_X5_109 rfl (Nat.le_of_ble_eq_true rfl) rfl rfl pf_I rfl rfl ?_
  refine Ev.topM (fun M1 eM1 => ?_)
  replace h := wp_lm h M1 eM1
  refine Ev.bipush (v := (-20)) dX5_read_132 rfl ?_
  refine Ev.iload dX5_read_134 2 rfl ?_
  refine Ev.isub dX5_read_136 ?_
  exact Ev.ret dX5_read_137 rfl rfl (wp_ret h)
noncomputable def f_X5_read_54 (p1 : Int32) (p2 : Int32) (p3 : Int32) (p4 : Int32) : Nat → Nat → Int32 → Int32 → Int32 → Mem → Option (Int32 × Mem)
  | 0, _, _, _, _, _ => none
  | n + 1, o5, x6, x7, x8, M => if p4 ≤ x7 then lm (up M 0 16 x8) fun M2 => some (x7, M2) else li (p3 + (3 * x7)) fun y3 => (f_X3_faultOf o5 p2 y3 3 M).bind fun r4 => if r4 = 0 then rd (M (o5 + 1)) 40 y3 fun r7 => rd (M (o5 + 1)) 40 (y3 + 1) fun r9 => rd (M (o5 + 1)) 40 (y3 + 2) fun r11 => (f_X5_putIn r7 r9 r11 M).bind fun r12 => if 0 ≤ r12.1 then (f_X5_read_54 p1 p2 p3 p4 n) o5 x6 (x7 + 1) r4 r12.2 else f_X5_read_123 p1 p2 p3 p4 x6 x7 r12.2 else f_X5_read_85 p1 p2 p3 p4 x7 r4 M
theorem o_X5_read_54 {E : GE} {Q : Option Value → Mem → Prop} {p1 : Int32} {p2 : Int32} {p3 : Int32} {p4 : Int32} : ∀ (n : Nat) {o5 : Nat} {x6 : Int32} {x7 : Int32} {x8 : Int32} {M : Mem} (j5 : isSheet o5), wp (f_X5_read_54 p1 p2 p3 p4 n o5 x6 x7 x8 M) gIM Q → Ev E mi_X5_read 54 [(0, .ref (ad E 0)), (2, .int p2), (3, .int p3), (4, .int p4), (5, .ref (ad E o5)), (6, .int x6), (7, .int x7), (8, .int x8)] [] M Q := by
  intro n
  induction n with
  | zero => intro _ _ _ _ _ _ h; exact absurd h wp_none
  | succ n ih =>
    intro o5 x6 x7 x8 M j5 h
    unfold f_X5_read_54 at h
    refine Ev.iload dX5_read_54 6 rfl ?_
    refine Ev.iload dX5_read_56 3 rfl ?_
    refine Ev.icmp_ge (tgt := 144) dX5_read_58 (by decide) (fun c1 => ?_) (fun c1 => ?_)
    · replace h := wp_t c1 h
      refine Ev.aload_n dX5_read_144 rfl 0 rfl ?_
      refine Ev.iload dX5_read_145 7 rfl ?_
      refine Ev.putA dX5_read_147 fl_X5_280 rfl (Nat.le_of_ble_eq_true rfl) rfl rfl pf_I rfl rfl ?_
      refine Ev.topM (fun M2 eM2 => ?_)
      replace h := wp_lm h M2 eM2
      refine Ev.iload dX5_read_150 6 rfl ?_
      exact Ev.ret dX5_read_152 rfl rfl (wp_ret h)
    · replace h := wp_f c1 h
      refine Ev.iload_n dX5_read_61 rfl 2 rfl ?_
      refine Ev.iconst (v := 3) dX5_read_62 rfl ?_
      refine Ev.iload dX5_read_63 6 rfl ?_
      refine Ev.imul dX5_read_65 ?_
      refine Ev.iadd dX5_read_66 ?_
      refine Ev.topi (fun y3 ey3 => ?_)
      replace h := wp_li h y3 ey3
      refine Ev.istore dX5_read_67 (Nat.le_of_ble_eq_true rfl) rfl ?_
      show Ev E mi_X5_read 69 [(9, .int y3), (0, .ref (ad E 0)), (2, .int p2), (3, .int p3), (4, .int p4), (5, .ref (ad E o5)), (6, .int x6), (7, .int x7), (8, .int x8)] [] M Q
      refine Ev.aload dX5_read_69 5 rfl ?_
      refine Ev.iload_n dX5_read_71 rfl 2 rfl ?_
      refine Ev.iload dX5_read_72 0 rfl ?_
      refine Ev.iconst (v := 3) dX5_read_74 rfl ?_
      obtain ⟨r4, er4, h⟩ := wp_bind h
      refine Ev.callN (k := o5) (as := [.int p2, .int y3, .int 3]) (rest := []) dX5_read_75 cn_X5_271 mok_X3_faultOf (sheet_cl j5) (sheet_k7 j5) (sheet_n0 j5) ⟨Nat.le_of_ble_eq_true rfl, Nat.le_of_ble_eq_true rfl⟩ (Nat.le_of_ble_eq_true rfl) rfl rfl (o_X3_faultOf j5 ⟨r4, er4, ?_⟩)
      show Ev E mi_X5_read 78 [(9, .int y3), (0, .ref (ad E 0)), (2, .int p2), (3, .int p3), (4, .int p4), (5, .ref (ad E o5)), (6, .int x6), (7, .int x7), (8, .int x8)] [.int r4] M Q
      refine Ev.istore dX5_read_78 (Nat.le_of_ble_eq_true rfl) rfl ?_
      show Ev E mi_X5_read 80 [(8, .int r4), (9, .int y3), (0, .ref (ad E 0)), (2, .int p2), (3, .int p3), (4, .int p4), (5, .ref (ad E o5)), (6, .int x6), (7, .int x7)] [] M Q
      refine Ev.iload dX5_read_80 0 rfl ?_
      refine Ev.if_eq (tgt := 88) dX5_read_82 (by decide) (fun c5 => ?_) (fun c5 => ?_)
      · replace h := wp_t c5 h
        refine Ev.aload_n dX5_read_88 rfl 2 rfl ?_
        refine Ev.aload dX5_read_89 6 rfl ?_
        refine Ev.getN dX5_read_91 nl_X5_277 (sheet_k0 j5) (sheet_n0 j5) (sheet_fv0 j5) ?_
        refine Ev.iload dX5_read_94 1 rfl ?_
        obtain ⟨g6, h⟩ := wp_rd h
        refine Ev.iald dX5_read_96 (sheet_k1x j5) (sheet_n1 j5) (sheet_l1 j5) g6 ?_
        refine Ev.topi (fun r7 er7 => ?_)
        replace h := h r7 er7
        refine Ev.aload dX5_read_97 6 rfl ?_
        refine Ev.getN dX5_read_99 nl_X5_277 (sheet_k0 j5) (sheet_n0 j5) (sheet_fv0 j5) ?_
        refine Ev.iload dX5_read_102 1 rfl ?_
        refine Ev.iconst (v := 1) dX5_read_104 rfl ?_
        refine Ev.iadd dX5_read_105 ?_
        obtain ⟨g8, h⟩ := wp_rd h
        refine Ev.iald dX5_read_106 (sheet_k1x j5) (sheet_n1 j5) (sheet_l1 j5) g8 ?_
        refine Ev.topi (fun r9 er9 => ?_)
        replace h := h r9 er9
        refine Ev.aload dX5_read_107 6 rfl ?_
        refine Ev.getN dX5_read_109 nl_X5_277 (sheet_k0 j5) (sheet_n0 j5) (sheet_fv0 j5) ?_
        refine Ev.iload dX5_read_112 1 rfl ?_
        refine Ev.iconst (v := 2) dX5_read_114 rfl ?_
        refine Ev.iadd dX5_read_115 ?_
        obtain ⟨g10, h⟩ := wp_rd h
        refine Ev.iald dX5_read_116 (sheet_k1x j5) (sheet_n1 j5) (sheet_l1 j5) g10 ?_
        refine Ev.topi (fun r11 er11 => ?_)
        replace h := h r11 er11
        obtain ⟨r12, er12, h⟩ := wp_bind h
        refine Ev.callV (k := 0) (as := [.int r7, .int r9, .int r11]) (rest := []) dX5_read_117 cl_X5_160 mok_X5_putIn rfl (Nat.le_of_ble_eq_true rfl) (Nat.le_of_ble_eq_true rfl) ⟨Nat.le_of_ble_eq_true rfl, Nat.le_of_ble_eq_true rfl⟩ (Nat.le_of_ble_eq_true rfl) rfl rfl (o_X5_putIn ⟨r12, er12, ?_⟩)
        show Ev E mi_X5_read 120 [(8, .int r4), (9, .int y3), (0, .ref (ad E 0)), (2, .int p2), (3, .int p3), (4, .int p4), (5, .ref (ad E o5)), (6, .int x6), (7, .int x7)] [.int r12.1] r12.2 Q
        refine Ev.if_ge (tgt := 138) dX5_read_120 (by decide) (fun c13 => ?_) (fun c13 => ?_)
        · replace h := wp_t c13 h
          refine Ev.iinc (v := x7 + 1) dX5_read_138 8 rfl rfl (Nat.le_of_ble_eq_true rfl) rfl ?_
          show Ev E mi_X5_read 141 [(7, .int (x7 + 1)), (8, .int r4), (9, .int y3), (0, .ref (ad E 0)), (2, .int p2), (3, .int p3), (4, .int p4), (5, .ref (ad E o5)), (6, .int x6)] [] r12.2 Q
          refine Ev.goto (tgt := 54) dX5_read_141 (by decide) ?_
          refine Ev.sub [3, 4, 5, 6, 7, 8, 0, 1] rfl ?_
          exact ih j5 h
        · replace h := wp_f c13 h
          refine Ev.sub [2, 7, 8] rfl ?_
          exact o_X5_read_123 h
      · replace h := wp_f c5 h
        refine Ev.sub [2, 8, 0] rfl ?_
        exact o_X5_read_85 h
noncomputable def f_X5_read (p1 : Int32) (p2 : Int32) (p3 : Int32) (p4 : Int32) (M : Mem) : Option (Int32 × Mem) := (f_X5_within p1 0 3 M).bind fun r1 => if r1 = 0 then some ((-1), M) else (f_X5_within p2 0 2 M).bind fun r3 => if r3 = 0 then some ((-1), M) else (f_X5_within p4 0 13 M).bind fun r5 => if r5 = 0 then some ((-1), M) else inb p1 4 <| li (M 9 4) fun y8 => f_X5_read_54 p1 p2 p3 p4 FU (rf 31 p1.toNatClampNeg) y8 0 0 M
theorem o_X5_read {E : GE} {Q : Option Value → Mem → Prop} {p1 : Int32} {p2 : Int32} {p3 : Int32} {p4 : Int32} {M : Mem} (h : wp (f_X5_read p1 p2 p3 p4 M) gIM Q) : Runs E mi_X5_read [.ref (ad E 0), .int p1, .int p2, .int p3, .int p4] M Q := by
  refine Runs.ofEv (by decide +kernel) (Nat.le_of_ble_eq_true rfl) ?_
  show Ev E mi_X5_read 0 [(0, .ref (ad E 0)), (1, .int p1), (2, .int p2), (3, .int p3), (4, .int p4)] [] M Q
  unfold f_X5_read at h
  refine Ev.iload_n dX5_read_0 rfl 1 rfl ?_
  refine Ev.iconst (v := 0) dX5_read_1 rfl ?_
  refine Ev.iconst (v := 3) dX5_read_2 rfl ?_
  obtain ⟨r1, er1, h⟩ := wp_bind h
  refine Ev.callS (as := [.int p1, .int 0, .int 3]) (rest := []) dX5_read_3 cl_X5_75 mos_X5_within ⟨Nat.le_of_ble_eq_true rfl, Nat.le_of_ble_eq_true rfl⟩ (Nat.le_of_ble_eq_true rfl) rfl rfl (o_X5_within ⟨r1, er1, ?_⟩)
  show Ev E mi_X5_read 6 [(0, .ref (ad E 0)), (1, .int p1), (2, .int p2), (3, .int p3), (4, .int p4)] [.int r1] M Q
  refine Ev.if_eq (tgt := 29) dX5_read_6 (by decide) (fun c2 => ?_) (fun c2 => ?_)
  · replace h := wp_t c2 h
    refine Ev.iconst (v := (-1)) dX5_read_29 rfl ?_
    exact Ev.ret dX5_read_30 rfl rfl (wp_ret h)
  · replace h := wp_f c2 h
    refine Ev.iload_n dX5_read_9 rfl 2 rfl ?_
    refine Ev.iconst (v := 0) dX5_read_10 rfl ?_
    refine Ev.iconst (v := 2) dX5_read_11 rfl ?_
    obtain ⟨r3, er3, h⟩ := wp_bind h
    refine Ev.callS (as := [.int p2, .int 0, .int 2]) (rest := []) dX5_read_12 cl_X5_75 mos_X5_within ⟨Nat.le_of_ble_eq_true rfl, Nat.le_of_ble_eq_true rfl⟩ (Nat.le_of_ble_eq_true rfl) rfl rfl (o_X5_within ⟨r3, er3, ?_⟩)
    show Ev E mi_X5_read 15 [(0, .ref (ad E 0)), (1, .int p1), (2, .int p2), (3, .int p3), (4, .int p4)] [.int r3] M Q
    refine Ev.if_eq (tgt := 29) dX5_read_15 (by decide) (fun c4 => ?_) (fun c4 => ?_)
    · replace h := wp_t c4 h
      refine Ev.iconst (v := (-1)) dX5_read_29 rfl ?_
      exact Ev.ret dX5_read_30 rfl rfl (wp_ret h)
    · replace h := wp_f c4 h
      refine Ev.iload dX5_read_18 4 rfl ?_
      refine Ev.iconst (v := 0) dX5_read_20 rfl ?_
      refine Ev.bipush (v := 13) dX5_read_21 rfl ?_
      obtain ⟨r5, er5, h⟩ := wp_bind h
      refine Ev.callS (as := [.int p4, .int 0, .int 13]) (rest := []) dX5_read_23 cl_X5_75 mos_X5_within ⟨Nat.le_of_ble_eq_true rfl, Nat.le_of_ble_eq_true rfl⟩ (Nat.le_of_ble_eq_true rfl) rfl rfl (o_X5_within ⟨r5, er5, ?_⟩)
      show Ev E mi_X5_read 26 [(0, .ref (ad E 0)), (1, .int p1), (2, .int p2), (3, .int p3), (4, .int p4)] [.int r5] M Q
      refine Ev.if_ne (tgt := 31) dX5_read_26 (by decide) (fun c6 => ?_) (fun c6 => ?_)
      · replace h := wp_t c6 h
        refine Ev.iconst (v := (-1)) dX5_read_29 rfl ?_
        exact Ev.ret dX5_read_30 rfl rfl (wp_ret h)
      · replace h := wp_f c6 h
        refine Ev.aload_n dX5_read_31 rfl 0 rfl ?_
        refine Ev.get dX5_read_32 fl_X5_42 rfl (Nat.le_of_ble_eq_true rfl) (v := .ref (ad E 31)) rfl ?_
        refine Ev.iload_n dX5_read_35 rfl 1 rfl ?_
        obtain ⟨g7, h⟩ := wp_inb h
        refine Ev.aald dX5_read_36 (Or.inr rfl) (Nat.le_of_ble_eq_true rfl) rfl g7 rfl ?_
        refine Ev.astore dX5_read_37 (Nat.le_of_ble_eq_true rfl) rfl ?_
        show Ev E mi_X5_read 39 [(5, .ref (ad E (rf 31 p1.toNatClampNeg))), (0, .ref (ad E 0)), (1, .int p1), (2, .int p2), (3, .int p3), (4, .int p4)] [] M Q
        refine Ev.aload_n dX5_read_39 rfl 1 rfl ?_
        refine Ev.get dX5_read_40 fl_X5_24 rfl (Nat.le_of_ble_eq_true rfl) (v := .ref (ad E 9)) rfl ?_
        refine Ev.getN dX5_read_43 nl_X5_109 rfl (Nat.le_of_ble_eq_true rfl) rfl ?_
        refine Ev.topi (fun y8 ey8 => ?_)
        replace h := wp_li h y8 ey8
        refine Ev.istore dX5_read_46 (Nat.le_of_ble_eq_true rfl) rfl ?_
        show Ev E mi_X5_read 48 [(6, .int y8), (5, .ref (ad E (rf 31 p1.toNatClampNeg))), (0, .ref (ad E 0)), (1, .int p1), (2, .int p2), (3, .int p3), (4, .int p4)] [] M Q
        refine Ev.iconst (v := 0) dX5_read_48 rfl ?_
        refine Ev.istore dX5_read_49 (Nat.le_of_ble_eq_true rfl) rfl ?_
        show Ev E mi_X5_read 51 [(7, .int 0), (6, .int y8), (5, .ref (ad E (rf 31 p1.toNatClampNeg))), (0, .ref (ad E 0)), (1, .int p1), (2, .int p2), (3, .int p3), (4, .int p4)] [] M Q
        refine Ev.iconst (v := 0) dX5_read_51 rfl ?_
        refine Ev.istore dX5_read_52 (Nat.le_of_ble_eq_true rfl) rfl ?_
        show Ev E mi_X5_read 54 [(8, .int 0), (7, .int 0), (6, .int y8), (5, .ref (ad E (rf 31 p1.toNatClampNeg))), (0, .ref (ad E 0)), (1, .int p1), (2, .int p2), (3, .int p3), (4, .int p4)] [] M Q
        refine Ev.sub [4, 6, 7, 8, 3, 2, 1, 0] rfl ?_
        exact o_X5_read_54 FU (shs_sheet g7) h

noncomputable def f_X5_torn (M : Mem) : Option Int32 := some (M 0 16)
theorem o_X5_torn {E : GE} {Q : Option Value → Mem → Prop} {M : Mem} (h : wp (f_X5_torn M) (gI M) Q) : Runs E mi_X5_torn [.ref (ad E 0)] M Q := by
  refine Runs.ofEv (by decide +kernel) (Nat.le_of_ble_eq_true rfl) ?_
  show Ev E mi_X5_torn 0 [(0, .ref (ad E 0))] [] M Q
  unfold f_X5_torn at h
  refine Ev.aload_n dX5_torn_0 rfl 0 rfl ?_
  refine Ev.get dX5_torn_1 fl_X5_280 rfl (Nat.le_of_ble_eq_true rfl) rfl ?_
  exact Ev.ret dX5_torn_4 rfl rfl (wp_ret h)

noncomputable def f_X5_count_59 (p1 : Int32) (M : Mem) (s0 : Int32) : Option Int32 := rd (M 30) 2 1 fun r2 => if r2 = 0 then some (s0 + 0) else some (s0 + 1)
theorem o_X5_count_59 {E : GE} {Q : Option Value → Mem → Prop} {p1 : Int32} {M : Mem} {s0 : Int32} (h : wp (f_X5_count_59 p1 M s0) (gI M) Q) : Ev E mi_X5_count 59 [(0, .ref (ad E 0))] [.int s0] M Q := by
  unfold f_X5_count_59 at h
  refine Ev.aload_n dX5_count_59 rfl 0 rfl ?_
  refine Ev.get dX5_count_60 fl_X5_35 rfl (Nat.le_of_ble_eq_true rfl) (v := .ref (ad E 30)) rfl ?_
  refine Ev.iconst (v := 1) dX5_count_63 rfl ?_
  obtain ⟨g1, h⟩ := wp_rd h
  refine Ev.zald dX5_count_64 rfl (Nat.le_of_ble_eq_true rfl) rfl g1 ?_
  refine Ev.topi (fun r2 er2 => ?_)
  replace h := h r2 er2
  refine Ev.if_eq (tgt := 72) dX5_count_65 (by decide) (fun c3 => ?_) (fun c3 => ?_)
  · replace h := wp_t c3 h
    refine Ev.iconst (v := 0) dX5_count_72 rfl ?_
    refine Ev.iadd dX5_count_73 ?_
    exact Ev.ret dX5_count_74 rfl rfl (wp_ret h)
  · replace h := wp_f c3 h
    refine Ev.iconst (v := 1) dX5_count_68 rfl ?_
    refine Ev.goto (tgt := 73) dX5_count_69 (by decide) ?_
    refine Ev.iadd dX5_count_73 ?_
    exact Ev.ret dX5_count_74 rfl rfl (wp_ret h)
noncomputable def f_X5_count (p1 : Int32) (M : Mem) : Option Int32 := if p1 = 0 then some (M 0 15) else if p1 = 1 then rd (M 30) 2 0 fun r4 => if r4 = 0 then f_X5_count_59 p1 M 0 else f_X5_count_59 p1 M 1 else if p1 = 2 then some (M 2 1) else if p1 = 3 then if (M 32 1) = (-4) then some (-4) else some (M 32 2) else if p1 = 4 then (f_X2_hooks 9 M).bind fun r10 => some r10 else if p1 = 5 then (f_X2_moving 9 M).bind fun r12 => some r12 else some (-1)
theorem o_X5_count {E : GE} {Q : Option Value → Mem → Prop} {p1 : Int32} {M : Mem} (h : wp (f_X5_count p1 M) (gI M) Q) : Runs E mi_X5_count [.ref (ad E 0), .int p1] M Q := by
  refine Runs.ofEv (by decide +kernel) (Nat.le_of_ble_eq_true rfl) ?_
  show Ev E mi_X5_count 0 [(0, .ref (ad E 0)), (1, .int p1)] [] M Q
  unfold f_X5_count at h
  refine Ev.iload_n dX5_count_0 rfl 1 rfl ?_
  by_cases c1 : p1 = 0
  · replace h := wp_t c1 h
    refine Ev.tsIn (tgt := 40) dX5_count_1 c1 (by decide) (by decide) rfl (by decide) ?_
    refine Ev.aload_n dX5_count_40 rfl 0 rfl ?_
    refine Ev.get dX5_count_41 fl_X5_106 rfl (Nat.le_of_ble_eq_true rfl) rfl ?_
    exact Ev.ret dX5_count_44 rfl rfl (wp_ret h)
  · replace h := wp_f c1 h
    by_cases c2 : p1 = 1
    · replace h := wp_t c2 h
      refine Ev.tsIn (tgt := 45) dX5_count_1 c2 (by decide) (by decide) rfl (by decide) ?_
      refine Ev.aload_n dX5_count_45 rfl 0 rfl ?_
      refine Ev.get dX5_count_46 fl_X5_35 rfl (Nat.le_of_ble_eq_true rfl) (v := .ref (ad E 30)) rfl ?_
      refine Ev.iconst (v := 0) dX5_count_49 rfl ?_
      obtain ⟨g3, h⟩ := wp_rd h
      refine Ev.zald dX5_count_50 rfl (Nat.le_of_ble_eq_true rfl) rfl g3 ?_
      refine Ev.topi (fun r4 er4 => ?_)
      replace h := h r4 er4
      refine Ev.if_eq (tgt := 58) dX5_count_51 (by decide) (fun c5 => ?_) (fun c5 => ?_)
      · replace h := wp_t c5 h
        refine Ev.iconst (v := 0) dX5_count_58 rfl ?_
        refine Ev.sub [0] rfl ?_
        exact o_X5_count_59 h
      · replace h := wp_f c5 h
        refine Ev.iconst (v := 1) dX5_count_54 rfl ?_
        refine Ev.goto (tgt := 59) dX5_count_55 (by decide) ?_
        refine Ev.sub [0] rfl ?_
        exact o_X5_count_59 h
    · replace h := wp_f c2 h
      by_cases c6 : p1 = 2
      · replace h := wp_t c6 h
        refine Ev.tsIn (tgt := 75) dX5_count_1 c6 (by decide) (by decide) rfl (by decide) ?_
        refine Ev.aload_n dX5_count_75 rfl 0 rfl ?_
        refine Ev.get dX5_count_76 fl_X5_20 rfl (Nat.le_of_ble_eq_true rfl) (v := .ref (ad E 2)) rfl ?_
        refine Ev.getN dX5_count_79 nl_X5_85 rfl (Nat.le_of_ble_eq_true rfl) rfl ?_
        exact Ev.ret dX5_count_82 rfl rfl (wp_ret h)
      · replace h := wp_f c6 h
        by_cases c7 : p1 = 3
        · replace h := wp_t c7 h
          refine Ev.tsIn (tgt := 83) dX5_count_1 c7 (by decide) (by decide) rfl (by decide) ?_
          refine Ev.aload_n dX5_count_83 rfl 0 rfl ?_
          refine Ev.get dX5_count_84 fl_X5_42 rfl (Nat.le_of_ble_eq_true rfl) (v := .ref (ad E 31)) rfl ?_
          refine Ev.iconst (v := 0) dX5_count_87 rfl ?_
          refine Ev.aald (k2 := 32) dX5_count_88 (Or.inr rfl) (Nat.le_of_ble_eq_true rfl) rfl (vp_in_nI (n := 0) (Nat.le_of_ble_eq_true rfl) (by decide)) rfl ?_
          refine Ev.getN dX5_count_89 nl_X5_268 rfl (Nat.le_of_ble_eq_true rfl) rfl ?_
          refine Ev.bipush (v := (-4)) dX5_count_92 rfl ?_
          refine Ev.icmp_ne (tgt := 102) dX5_count_94 (by decide) (fun c8 => ?_) (fun c8 => ?_)
          · replace h := wp_t c8 h
            refine Ev.bipush (v := (-4)) dX5_count_97 rfl ?_
            refine Ev.goto (tgt := 111) dX5_count_99 (by decide) ?_
            exact Ev.ret dX5_count_111 rfl rfl (wp_ret h)
          · replace h := wp_f c8 h
            refine Ev.aload_n dX5_count_102 rfl 0 rfl ?_
            refine Ev.get dX5_count_103 fl_X5_42 rfl (Nat.le_of_ble_eq_true rfl) (v := .ref (ad E 31)) rfl ?_
            refine Ev.iconst (v := 0) dX5_count_106 rfl ?_
            refine Ev.aald (k2 := 32) dX5_count_107 (Or.inr rfl) (Nat.le_of_ble_eq_true rfl) rfl (vp_in_nI (n := 0) (Nat.le_of_ble_eq_true rfl) (by decide)) rfl ?_
            refine Ev.getN dX5_count_108 nl_X5_283 rfl (Nat.le_of_ble_eq_true rfl) rfl ?_
            exact Ev.ret dX5_count_111 rfl rfl (wp_ret h)
        · replace h := wp_f c7 h
          by_cases c9 : p1 = 4
          · replace h := wp_t c9 h
            refine Ev.tsIn (tgt := 112) dX5_count_1 c9 (by decide) (by decide) rfl (by decide) ?_
            refine Ev.aload_n dX5_count_112 rfl 0 rfl ?_
            refine Ev.get dX5_count_113 fl_X5_24 rfl (Nat.le_of_ble_eq_true rfl) (v := .ref (ad E 9)) rfl ?_
            obtain ⟨r10, er10, h⟩ := wp_bind h
            refine Ev.callN (k := 9) (as := []) (rest := []) dX5_count_116 cn_X5_286 mok_X2_hooks rfl (Nat.le_of_ble_eq_true rfl) (Nat.le_of_ble_eq_true rfl) ⟨Nat.le_of_ble_eq_true rfl, Nat.le_of_ble_eq_true rfl⟩ (Nat.le_of_ble_eq_true rfl) rfl rfl (o_X2_hooks sea_9 ⟨r10, er10, ?_⟩)
            show Ev E mi_X5_count 119 [(0, .ref (ad E 0)), (1, .int p1)] [.int r10] M Q
            exact Ev.ret dX5_count_119 rfl rfl (wp_ret h)
          · replace h := wp_f c9 h
            by_cases c11 : p1 = 5
            · replace h := wp_t c11 h
              refine Ev.tsIn (tgt := 120) dX5_count_1 c11 (by decide) (by decide) rfl (by decide) ?_
              refine Ev.aload_n dX5_count_120 rfl 0 rfl ?_
              refine Ev.get dX5_count_121 fl_X5_24 rfl (Nat.le_of_ble_eq_true rfl) (v := .ref (ad E 9)) rfl ?_
              obtain ⟨r12, er12, h⟩ := wp_bind h
              refine Ev.callN (k := 9) (as := []) (rest := []) dX5_count_124 cn_X5_289 mok_X2_moving rfl (Nat.le_of_ble_eq_true rfl) (Nat.le_of_ble_eq_true rfl) ⟨Nat.le_of_ble_eq_true rfl, Nat.le_of_ble_eq_true rfl⟩ (Nat.le_of_ble_eq_true rfl) rfl rfl (o_X2_moving sea_9 ⟨r12, er12, ?_⟩)
              show Ev E mi_X5_count 127 [(0, .ref (ad E 0)), (1, .int p1)] [.int r12] M Q
              exact Ev.ret dX5_count_127 rfl rfl (wp_ret h)
            · replace h := wp_f c11 h
              refine Ev.tsOut (tgt := 128) dX5_count_1 (by have qc1 : ¬ (p1).toInt = 0 := fun q => c1 (Int32.toInt_inj.mp q); have qc2 : ¬ (p1).toInt = 1 := fun q => c2 (Int32.toInt_inj.mp q); have qc6 : ¬ (p1).toInt = 2 := fun q => c6 (Int32.toInt_inj.mp q); have qc7 : ¬ (p1).toInt = 3 := fun q => c7 (Int32.toInt_inj.mp q); have qc9 : ¬ (p1).toInt = 4 := fun q => c9 (Int32.toInt_inj.mp q); have qc11 : ¬ (p1).toInt = 5 := fun q => c11 (Int32.toInt_inj.mp q); omega) (by decide) ?_
              refine Ev.iconst (v := (-1)) dX5_count_128 rfl ?_
              exact Ev.ret dX5_count_129 rfl rfl (wp_ret h)
