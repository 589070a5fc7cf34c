noncomputable def f_X6_estatesOf_64 (p1 : Int32) (p2 : Int32) (M : Mem) (t5 : Int32 → Int32 → Option Int32) (x4 : Int32) (s0 : Int32) (s1 : Int32) : Option Int32 := li (s0 + s1) fun y1 => t5 y1 (x4 + 1)
theorem o_X6_estatesOf_64 {E : GE} {Q : Option Value → Mem → Prop} {p1 : Int32} {p2 : Int32} {M : Mem} {t5 : Int32 → Int32 → Option Int32} {x4 : Int32} {s0 : Int32} {s1 : Int32} (ht5 : ∀ (x3 : Int32) (x4 : Int32), wp (t5 x3 x4) (gI M) Q → Ev E mi_X6_estatesOf 5 [(0, .ref (ad E 54)), (1, .int p1), (2, .int p2), (3, .int x3), (4, .int x4)] [] M Q) (h : wp (f_X6_estatesOf_64 p1 p2 M t5 x4 s0 s1) (gI M) Q) : Ev E mi_X6_estatesOf 64 [(0, .ref (ad E 54)), (1, .int p1), (2, .int p2), (4, .int x4)] [.int s1, .int s0] M Q := by
  unfold f_X6_estatesOf_64 at h
  refine Ev.iadd dX6_estatesOf_64 ?_
  refine Ev.topi (fun y1 ey1 => ?_)
  replace h := wp_li h y1 ey1
  refine Ev.istore_n dX6_estatesOf_65 rfl (Nat.le_of_ble_eq_true rfl) rfl ?_
  show Ev E mi_X6_estatesOf 66 [(3, .int y1), (0, .ref (ad E 54)), (1, .int p1), (2, .int p2), (4, .int x4)] [] M Q
  refine Ev.iinc (v := x4 + 1) dX6_estatesOf_66 4 rfl rfl (Nat.le_of_ble_eq_true rfl) rfl ?_
  show Ev E mi_X6_estatesOf 69 [(4, .int (x4 + 1)), (3, .int y1), (0, .ref (ad E 54)), (1, .int p1), (2, .int p2)] [] M Q
  refine Ev.goto (tgt := 5) dX6_estatesOf_69 (by decide) ?_
  refine Ev.sub [2, 3, 4, 1, 0] rfl ?_
  exact ht5 _ _ h
noncomputable def f_X6_estatesOf_48 (p1 : Int32) (p2 : Int32) (M : Mem) (t5 : Int32 → Int32 → Option Int32) (x4 : Int32) (s0 : Int32) : Option Int32 := rd (M 55) 360 ((p1 + 16) + x4) fun r2 => f_X6_estatesOf_64 p1 p2 M t5 x4 s0 r2
theorem o_X6_estatesOf_48 {E : GE} {Q : Option Value → Mem → Prop} {p1 : Int32} {p2 : Int32} {M : Mem} {t5 : Int32 → Int32 → Option Int32} {x4 : Int32} {s0 : Int32} (ht5 : ∀ (x3 : Int32) (x4 : Int32), wp (t5 x3 x4) (gI M) Q → Ev E mi_X6_estatesOf 5 [(0, .ref (ad E 54)), (1, .int p1), (2, .int p2), (3, .int x3), (4, .int x4)] [] M Q) (h : wp (f_X6_estatesOf_48 p1 p2 M t5 x4 s0) (gI M) Q) : Ev E mi_X6_estatesOf 48 [(0, .ref (ad E 54)), (1, .int p1), (2, .int p2), (4, .int x4)] [.int s0] M Q := by
  unfold f_X6_estatesOf_48 at h
  refine Ev.aload_n dX6_estatesOf_48 rfl 0 rfl ?_
  refine Ev.get dX6_estatesOf_49 fl_X6_7 rfl (Nat.le_of_ble_eq_true rfl) (v := .ref (ad E 55)) rfl ?_
  refine Ev.iload_n dX6_estatesOf_52 rfl 1 rfl ?_
  refine Ev.bipush (v := 16) dX6_estatesOf_53 rfl ?_
  refine Ev.iadd dX6_estatesOf_55 ?_
  refine Ev.iload dX6_estatesOf_56 3 rfl ?_
  refine Ev.iadd dX6_estatesOf_58 ?_
  obtain ⟨g1, h⟩ := wp_rd h
  refine Ev.iald dX6_estatesOf_59 rfl (Nat.le_of_ble_eq_true rfl) rfl g1 ?_
  refine Ev.topi (fun r2 er2 => ?_)
  replace h := h r2 er2
  refine Ev.goto (tgt := 64) dX6_estatesOf_60 (by decide) ?_
  exact o_X6_estatesOf_64 ht5 h
noncomputable def f_X6_estatesOf_63 (p1 : Int32) (p2 : Int32) (M : Mem) (t5 : Int32 → Int32 → Option Int32) (x4 : Int32) (s0 : Int32) : Option Int32 := f_X6_estatesOf_64 p1 p2 M t5 x4 s0 0
theorem o_X6_estatesOf_63 {E : GE} {Q : Option Value → Mem → Prop} {p1 : Int32} {p2 : Int32} {M : Mem} {t5 : Int32 → Int32 → Option Int32} {x4 : Int32} {s0 : Int32} (ht5 : ∀ (x3 : Int32) (x4 : Int32), wp (t5 x3 x4) (gI M) Q → Ev E mi_X6_estatesOf 5 [(0, .ref (ad E 54)), (1, .int p1), (2, .int p2), (3, .int x3), (4, .int x4)] [] M Q) (h : wp (f_X6_estatesOf_63 p1 p2 M t5 x4 s0) (gI M) Q) : Ev E mi_X6_estatesOf 63 [(0, .ref (ad E 54)), (1, .int p1), (2, .int p2), (4, .int x4)] [.int s0] M Q := by
  unfold f_X6_estatesOf_63 at h
  refine Ev.iconst (v := 0) dX6_estatesOf_63 rfl ?_
  exact o_X6_estatesOf_64 ht5 h
noncomputable def f_X6_estatesOf_5 (p1 : Int32) (p2 : Int32) (M : Mem) : Nat → Int32 → Int32 → Option Int32
  | 0, _, _ => none
  | n + 1, x3, x4 => rd (M 55) 360 (p1 + 20) fun r2 => if r2 ≤ x4 then some x3 else rd (M 63) 4 x4 fun r5 => if r5 = 1 then if p2 = (-4) then f_X6_estatesOf_48 p1 p2 M (f_X6_estatesOf_5 p1 p2 M n) x4 x3 else rd (M 65) 4 x4 fun r9 => if r9 = p2 then f_X6_estatesOf_48 p1 p2 M (f_X6_estatesOf_5 p1 p2 M n) x4 x3 else f_X6_estatesOf_63 p1 p2 M (f_X6_estatesOf_5 p1 p2 M n) x4 x3 else f_X6_estatesOf_63 p1 p2 M (f_X6_estatesOf_5 p1 p2 M n) x4 x3
theorem o_X6_estatesOf_5 {E : GE} {Q : Option Value → Mem → Prop} {p1 : Int32} {p2 : Int32} {M : Mem} : ∀ (n : Nat) {x3 : Int32} {x4 : Int32}, wp (f_X6_estatesOf_5 p1 p2 M n x3 x4) (gI M) Q → Ev E mi_X6_estatesOf 5 [(0, .ref (ad E 54)), (1, .int p1), (2, .int p2), (3, .int x3), (4, .int x4)] [] M Q := by
  intro n
  induction n with
  | zero => intro _ _ h; exact absurd h wp_none
  | succ n ih =>
    intro x3 x4 h
    unfold f_X6_estatesOf_5 at h
    refine Ev.iload dX6_estatesOf_5 4 rfl ?_
    refine Ev.aload_n dX6_estatesOf_7 rfl 0 rfl ?_
    refine Ev.get dX6_estatesOf_8 fl_X6_7 rfl (Nat.le_of_ble_eq_true rfl) (v := .ref (ad E 55)) rfl ?_
    refine Ev.iload_n dX6_estatesOf_11 rfl 1 rfl ?_
    refine Ev.bipush (v := 20) dX6_estatesOf_12 rfl ?_
    refine Ev.iadd dX6_estatesOf_14 ?_
    obtain ⟨g1, h⟩ := wp_rd h
    refine Ev.iald dX6_estatesOf_15 rfl (Nat.le_of_ble_eq_true rfl) rfl g1 ?_
    refine Ev.topi (fun r2 er2 => ?_)
    replace h := h r2 er2
    refine Ev.icmp_ge (tgt := 72) dX6_estatesOf_16 (by decide) (fun c3 => ?_) (fun c3 => ?_)
    · replace h := wp_t c3 h
      refine Ev.iload_n dX6_estatesOf_72 rfl 3 rfl ?_
      exact Ev.ret dX6_estatesOf_73 rfl rfl (wp_ret h)
    · replace h := wp_f c3 h
      refine Ev.iload_n dX6_estatesOf_19 rfl 3 rfl ?_
      refine Ev.aload_n dX6_estatesOf_20 rfl 0 rfl ?_
      refine Ev.get dX6_estatesOf_21 fl_X6_34 rfl (Nat.le_of_ble_eq_true rfl) (v := .ref (ad E 63)) rfl ?_
      refine Ev.iload dX6_estatesOf_24 4 rfl ?_
      obtain ⟨g4, h⟩ := wp_rd h
      refine Ev.iald dX6_estatesOf_26 rfl (Nat.le_of_ble_eq_true rfl) rfl g4 ?_
      refine Ev.topi (fun r5 er5 => ?_)
      replace h := h r5 er5
      refine Ev.iconst (v := 1) dX6_estatesOf_27 rfl ?_
      refine Ev.icmp_ne (tgt := 63) dX6_estatesOf_28 (by decide) (fun c6 => ?_) (fun c6 => ?_)
      · replace h := wp_t c6 h
        refine Ev.iload_n dX6_estatesOf_31 rfl 2 rfl ?_
        refine Ev.bipush (v := (-4)) dX6_estatesOf_32 rfl ?_
        refine Ev.icmp_eq (tgt := 48) dX6_estatesOf_34 (by decide) (fun c7 => ?_) (fun c7 => ?_)
        · replace h := wp_t c7 h
          refine Ev.sub [0, 1, 2, 4] rfl ?_
          exact o_X6_estatesOf_48 (fun _ _ h => ih h) h
        · replace h := wp_f c7 h
          refine Ev.aload_n dX6_estatesOf_37 rfl 0 rfl ?_
          refine Ev.get dX6_estatesOf_38 fl_X6_40 rfl (Nat.le_of_ble_eq_true rfl) (v := .ref (ad E 65)) rfl ?_
          refine Ev.iload dX6_estatesOf_41 4 rfl ?_
          obtain ⟨g8, h⟩ := wp_rd h
          refine Ev.iald dX6_estatesOf_43 rfl (Nat.le_of_ble_eq_true rfl) rfl g8 ?_
          refine Ev.topi (fun r9 er9 => ?_)
          replace h := h r9 er9
          refine Ev.iload_n dX6_estatesOf_44 rfl 2 rfl ?_
          refine Ev.icmp_ne (tgt := 63) dX6_estatesOf_45 (by decide) (fun c10 => ?_) (fun c10 => ?_)
          · replace h := wp_t c10 h
            refine Ev.sub [0, 1, 2, 4] rfl ?_
            exact o_X6_estatesOf_48 (fun _ _ h => ih h) h
          · replace h := wp_f c10 h
            refine Ev.sub [0, 1, 2, 4] rfl ?_
            exact o_X6_estatesOf_63 (fun _ _ h => ih h) h
      · replace h := wp_f c6 h
        refine Ev.sub [0, 1, 2, 4] rfl ?_
        exact o_X6_estatesOf_63 (fun _ _ h => ih h) h
noncomputable def f_X6_estatesOf (p1 : Int32) (p2 : Int32) (M : Mem) : Option Int32 := f_X6_estatesOf_5 p1 p2 M FU 0 0
theorem o_X6_estatesOf {E : GE} {Q : Option Value → Mem → Prop} {p1 : Int32} {p2 : Int32} {M : Mem} (h : wp (f_X6_estatesOf p1 p2 M) (gI M) Q) : Runs E mi_X6_estatesOf [.ref (ad E 54), .int p1, .int p2] M Q := by
  refine Runs.ofEv (by decide +kernel) (Nat.le_of_ble_eq_true rfl) ?_
  show Ev E mi_X6_estatesOf 0 [(0, .ref (ad E 54)), (1, .int p1), (2, .int p2)] [] M Q
  unfold f_X6_estatesOf at h
  refine Ev.iconst (v := 0) dX6_estatesOf_0 rfl ?_
  refine Ev.istore_n dX6_estatesOf_1 rfl (Nat.le_of_ble_eq_true rfl) rfl ?_
  show Ev E mi_X6_estatesOf 2 [(3, .int 0), (0, .ref (ad E 54)), (1, .int p1), (2, .int p2)] [] M Q
  refine Ev.iconst (v := 0) dX6_estatesOf_2 rfl ?_
  refine Ev.istore dX6_estatesOf_3 (Nat.le_of_ble_eq_true rfl) rfl ?_
  show Ev E mi_X6_estatesOf 5 [(4, .int 0), (3, .int 0), (0, .ref (ad E 54)), (1, .int p1), (2, .int p2)] [] M Q
  refine Ev.sub [2, 3, 4, 1, 0] rfl ?_
  exact o_X6_estatesOf_5 FU h

noncomputable def f_X6_worth (p1 : Int32) (p2 : Int32) (M : Mem) : Option (Int32 × Mem) := (f_X6_dayGoes p1 24 M).bind fun r1 => (f_X6_estatesOf p1 p2 r1).bind fun r2 => some (r2, r1)
theorem o_X6_worth {E : GE} {Q : Option Value → Mem → Prop} {p1 : Int32} {p2 : Int32} {M : Mem} (h : wp (f_X6_worth p1 p2 M) gIM Q) : Runs E mi_X6_worth [.ref (ad E 54), .int p1, .int p2] M Q := by
  refine Runs.ofEv (by decide +kernel) (Nat.le_of_ble_eq_true rfl) ?_
  show Ev E mi_X6_worth 0 [(0, .ref (ad E 54)), (1, .int p1), (2, .int p2)] [] M Q
  unfold f_X6_worth at h
  refine Ev.aload_n dX6_worth_0 rfl 0 rfl ?_
  refine Ev.iload_n dX6_worth_1 rfl 1 rfl ?_
  refine Ev.bipush (v := 24) dX6_worth_2 rfl ?_
  obtain ⟨r1, er1, h⟩ := wp_bind h
  refine Ev.callV (k := 54) (as := [.int p1, .int 24]) (rest := []) dX6_worth_4 cl_X6_208 mok_X6_dayGoes rfl (Nat.le_of_ble_eq_true rfl) (Nat.le_of_ble_eq_true rfl) ⟨Nat.le_of_ble_eq_true rfl, Nat.le_of_ble_eq_true rfl⟩ (Nat.le_of_ble_eq_true rfl) rfl rfl (o_X6_dayGoes ⟨r1, er1, ?_⟩)
  show Ev E mi_X6_worth 7 [(0, .ref (ad E 54)), (1, .int p1), (2, .int p2)] [] r1 Q
  refine Ev.aload_n dX6_worth_7 rfl 0 rfl ?_
  refine Ev.iload_n dX6_worth_8 rfl 1 rfl ?_
  refine Ev.iload_n dX6_worth_9 rfl 2 rfl ?_
  obtain ⟨r2, er2, h⟩ := wp_bind h
  refine Ev.callV (k := 54) (as := [.int p1, .int p2]) (rest := []) dX6_worth_10 cl_X6_212 mok_X6_estatesOf rfl (Nat.le_of_ble_eq_true rfl) (Nat.le_of_ble_eq_true rfl) ⟨Nat.le_of_ble_eq_true rfl, Nat.le_of_ble_eq_true rfl⟩ (Nat.le_of_ble_eq_true rfl) rfl rfl (o_X6_estatesOf ⟨r2, er2, ?_⟩)
  show Ev E mi_X6_worth 13 [(0, .ref (ad E 54)), (1, .int p1), (2, .int p2)] [.int r2] r1 Q
  exact Ev.ret dX6_worth_13 rfl rfl (wp_ret h)

noncomputable def f_X6_tubsOf_54 (p1 : Int32) (p2 : Int32) (M : Mem) (t5 : Int32 → Int32 → Option Int32) (x4 : Int32) (s0 : Int32) (s1 : Int32) : Option Int32 := li (s0 ||| s1) fun y1 => t5 y1 (x4 + 1)
theorem o_X6_tubsOf_54 {E : GE} {Q : Option Value → Mem → Prop} {p1 : Int32} {p2 : Int32} {M : Mem} {t5 : Int32 → Int32 → Option Int32} {x4 : Int32} {s0 : Int32} {s1 : Int32} (ht5 : ∀ (x3 : Int32) (x4 : Int32), wp (t5 x3 x4) (gI M) Q → Ev E mi_X6_tubsOf 5 [(0, .ref (ad E 54)), (1, .int p1), (2, .int p2), (3, .int x3), (4, .int x4)] [] M Q) (h : wp (f_X6_tubsOf_54 p1 p2 M t5 x4 s0 s1) (gI M) Q) : Ev E mi_X6_tubsOf 54 [(0, .ref (ad E 54)), (1, .int p1), (2, .int p2), (4, .int x4)] [.int s1, .int s0] M Q := by
  unfold f_X6_tubsOf_54 at h
  refine Ev.ior dX6_tubsOf_54 ?_
  refine Ev.topi (fun y1 ey1 => ?_)
  replace h := wp_li h y1 ey1
  refine Ev.istore_n dX6_tubsOf_55 rfl (Nat.le_of_ble_eq_true rfl) rfl ?_
  show Ev E mi_X6_tubsOf 56 [(3, .int y1), (0, .ref (ad E 54)), (1, .int p1), (2, .int p2), (4, .int x4)] [] M Q
  refine Ev.iinc (v := x4 + 1) dX6_tubsOf_56 4 rfl rfl (Nat.le_of_ble_eq_true rfl) rfl ?_
  show Ev E mi_X6_tubsOf 59 [(4, .int (x4 + 1)), (3, .int y1), (0, .ref (ad E 54)), (1, .int p1), (2, .int p2)] [] M Q
  refine Ev.goto (tgt := 5) dX6_tubsOf_59 (by decide) ?_
  refine Ev.sub [2, 3, 4, 1, 0] rfl ?_
  exact ht5 _ _ h
noncomputable def f_X6_tubsOf_46 (p1 : Int32) (p2 : Int32) (M : Mem) (t5 : Int32 → Int32 → Option Int32) (x4 : Int32) (s0 : Int32) : Option Int32 := f_X6_tubsOf_54 p1 p2 M t5 x4 s0 (1 <<< (x4 &&& 31))
theorem o_X6_tubsOf_46 {E : GE} {Q : Option Value → Mem → Prop} {p1 : Int32} {p2 : Int32} {M : Mem} {t5 : Int32 → Int32 → Option Int32} {x4 : Int32} {s0 : Int32} (ht5 : ∀ (x3 : Int32) (x4 : Int32), wp (t5 x3 x4) (gI M) Q → Ev E mi_X6_tubsOf 5 [(0, .ref (ad E 54)), (1, .int p1), (2, .int p2), (3, .int x3), (4, .int x4)] [] M Q) (h : wp (f_X6_tubsOf_46 p1 p2 M t5 x4 s0) (gI M) Q) : Ev E mi_X6_tubsOf 46 [(0, .ref (ad E 54)), (1, .int p1), (2, .int p2), (4, .int x4)] [.int s0] M Q := by
  unfold f_X6_tubsOf_46 at h
  refine Ev.iconst (v := 1) dX6_tubsOf_46 rfl ?_
  refine Ev.iload dX6_tubsOf_47 3 rfl ?_
  refine Ev.ishl dX6_tubsOf_49 ?_
  refine Ev.goto (tgt := 54) dX6_tubsOf_50 (by decide) ?_
  exact o_X6_tubsOf_54 ht5 h
noncomputable def f_X6_tubsOf_53 (p1 : Int32) (p2 : Int32) (M : Mem) (t5 : Int32 → Int32 → Option Int32) (x4 : Int32) (s0 : Int32) : Option Int32 := f_X6_tubsOf_54 p1 p2 M t5 x4 s0 0
theorem o_X6_tubsOf_53 {E : GE} {Q : Option Value → Mem → Prop} {p1 : Int32} {p2 : Int32} {M : Mem} {t5 : Int32 → Int32 → Option Int32} {x4 : Int32} {s0 : Int32} (ht5 : ∀ (x3 : Int32) (x4 : Int32), wp (t5 x3 x4) (gI M) Q → Ev E mi_X6_tubsOf 5 [(0, .ref (ad E 54)), (1, .int p1), (2, .int p2), (3, .int x3), (4, .int x4)] [] M Q) (h : wp (f_X6_tubsOf_53 p1 p2 M t5 x4 s0) (gI M) Q) : Ev E mi_X6_tubsOf 53 [(0, .ref (ad E 54)), (1, .int p1), (2, .int p2), (4, .int x4)] [.int s0] M Q := by
  unfold f_X6_tubsOf_53 at h
  refine Ev.iconst (v := 0) dX6_tubsOf_53 rfl ?_
  exact o_X6_tubsOf_54 ht5 h
noncomputable def f_X6_tubsOf_5 (p1 : Int32) (p2 : Int32) (M : Mem) : Nat → Int32 → Int32 → Option Int32
  | 0, _, _ => none
  | n + 1, x3, x4 => rd (M 55) 360 20 fun r2 => if r2 ≤ x4 then some x3 else rd (M 63) 4 x4 fun r5 => if r5 = p1 then if p2 = (-4) then f_X6_tubsOf_46 p1 p2 M (f_X6_tubsOf_5 p1 p2 M n) x4 x3 else rd (M 65) 4 x4 fun r9 => if r9 = p2 then f_X6_tubsOf_46 p1 p2 M (f_X6_tubsOf_5 p1 p2 M n) x4 x3 else f_X6_tubsOf_53 p1 p2 M (f_X6_tubsOf_5 p1 p2 M n) x4 x3 else f_X6_tubsOf_53 p1 p2 M (f_X6_tubsOf_5 p1 p2 M n) x4 x3
theorem o_X6_tubsOf_5 {E : GE} {Q : Option Value → Mem → Prop} {p1 : Int32} {p2 : Int32} {M : Mem} : ∀ (n : Nat) {x3 : Int32} {x4 : Int32}, wp (f_X6_tubsOf_5 p1 p2 M n x3 x4) (gI M) Q → Ev E mi_X6_tubsOf 5 [(0, .ref (ad E 54)), (1, .int p1), (2, .int p2), (3, .int x3), (4, .int x4)] [] M Q := by
  intro n
  induction n with
  | zero => intro _ _ h; exact absurd h wp_none
  | succ n ih =>
    intro x3 x4 h
    unfold f_X6_tubsOf_5 at h
    refine Ev.iload dX6_tubsOf_5 4 rfl ?_
    refine Ev.aload_n dX6_tubsOf_7 rfl 0 rfl ?_
    refine Ev.get dX6_tubsOf_8 fl_X6_7 rfl (Nat.le_of_ble_eq_true rfl) (v := .ref (ad E 55)) rfl ?_
    refine Ev.bipush (v := 20) dX6_tubsOf_11 rfl ?_
    obtain ⟨g1, h⟩ := wp_rd h
    refine Ev.iald dX6_tubsOf_13 rfl (Nat.le_of_ble_eq_true rfl) rfl g1 ?_
    refine Ev.topi (fun r2 er2 => ?_)
    replace h := h r2 er2
    refine Ev.icmp_ge (tgt := 62) dX6_tubsOf_14 (by decide) (fun c3 => ?_) (fun c3 => ?_)
    · replace h := wp_t c3 h
      refine Ev.iload_n dX6_tubsOf_62 rfl 3 rfl ?_
      exact Ev.ret dX6_tubsOf_63 rfl rfl (wp_ret h)
    · replace h := wp_f c3 h
      refine Ev.iload_n dX6_tubsOf_17 rfl 3 rfl ?_
      refine Ev.aload_n dX6_tubsOf_18 rfl 0 rfl ?_
      refine Ev.get dX6_tubsOf_19 fl_X6_34 rfl (Nat.le_of_ble_eq_true rfl) (v := .ref (ad E 63)) rfl ?_
      refine Ev.iload dX6_tubsOf_22 4 rfl ?_
      obtain ⟨g4, h⟩ := wp_rd h
      refine Ev.iald dX6_tubsOf_24 rfl (Nat.le_of_ble_eq_true rfl) rfl g4 ?_
      refine Ev.topi (fun r5 er5 => ?_)
      replace h := h r5 er5
      refine Ev.iload_n dX6_tubsOf_25 rfl 1 rfl ?_
      refine Ev.icmp_ne (tgt := 53) dX6_tubsOf_26 (by decide) (fun c6 => ?_) (fun c6 => ?_)
      · replace h := wp_t c6 h
        refine Ev.iload_n dX6_tubsOf_29 rfl 2 rfl ?_
        refine Ev.bipush (v := (-4)) dX6_tubsOf_30 rfl ?_
        refine Ev.icmp_eq (tgt := 46) dX6_tubsOf_32 (by decide) (fun c7 => ?_) (fun c7 => ?_)
        · replace h := wp_t c7 h
          refine Ev.sub [0, 1, 2, 4] rfl ?_
          exact o_X6_tubsOf_46 (fun _ _ h => ih h) h
        · replace h := wp_f c7 h
          refine Ev.aload_n dX6_tubsOf_35 rfl 0 rfl ?_
          refine Ev.get dX6_tubsOf_36 fl_X6_40 rfl (Nat.le_of_ble_eq_true rfl) (v := .ref (ad E 65)) rfl ?_
          refine Ev.iload dX6_tubsOf_39 4 rfl ?_
          obtain ⟨g8, h⟩ := wp_rd h
          refine Ev.iald dX6_tubsOf_41 rfl (Nat.le_of_ble_eq_true rfl) rfl g8 ?_
          refine Ev.topi (fun r9 er9 => ?_)
          replace h := h r9 er9
          refine Ev.iload_n dX6_tubsOf_42 rfl 2 rfl ?_
          refine Ev.icmp_ne (tgt := 53) dX6_tubsOf_43 (by decide) (fun c10 => ?_) (fun c10 => ?_)
          · replace h := wp_t c10 h
            refine Ev.sub [0, 1, 2, 4] rfl ?_
            exact o_X6_tubsOf_46 (fun _ _ h => ih h) h
          · replace h := wp_f c10 h
            refine Ev.sub [0, 1, 2, 4] rfl ?_
            exact o_X6_tubsOf_53 (fun _ _ h => ih h) h
      · replace h := wp_f c6 h
        refine Ev.sub [0, 1, 2, 4] rfl ?_
        exact o_X6_tubsOf_53 (fun _ _ h => ih h) h
noncomputable def f_X6_tubsOf (p1 : Int32) (p2 : Int32) (M : Mem) : Option Int32 := f_X6_tubsOf_5 p1 p2 M FU 0 0
theorem o_X6_tubsOf {E : GE} {Q : Option Value → Mem → Prop} {p1 : Int32} {p2 : Int32} {M : Mem} (h : wp (f_X6_tubsOf p1 p2 M) (gI M) Q) : Runs E mi_X6_tubsOf [.ref (ad E 54), .int p1, .int p2] M Q := by
  refine Runs.ofEv (by decide +kernel) (Nat.le_of_ble_eq_true rfl) ?_
  show Ev E mi_X6_tubsOf 0 [(0, .ref (ad E 54)), (1, .int p1), (2, .int p2)] [] M Q
  unfold f_X6_tubsOf at h
  refine Ev.iconst (v := 0) dX6_tubsOf_0 rfl ?_
  refine Ev.istore_n dX6_tubsOf_1 rfl (Nat.le_of_ble_eq_true rfl) rfl ?_
  show Ev E mi_X6_tubsOf 2 [(3, .int 0), (0, .ref (ad E 54)), (1, .int p1), (2, .int p2)] [] M Q
  refine Ev.iconst (v := 0) dX6_tubsOf_2 rfl ?_
  refine Ev.istore dX6_tubsOf_3 (Nat.le_of_ble_eq_true rfl) rfl ?_
  show Ev E mi_X6_tubsOf 5 [(4, .int 0), (3, .int 0), (0, .ref (ad E 54)), (1, .int p1), (2, .int p2)] [] M Q
  refine Ev.sub [2, 3, 4, 1, 0] rfl ?_
  exact o_X6_tubsOf_5 FU h

noncomputable def f_X6_fate (p1 : Int32) (p2 : Int32) (M : Mem) : Option (Int32 × Mem) := (f_X6_isTub p1 M).bind fun r1 => if r1 = 0 then some ((-1), M) else (f_X6_in p2.toInt64 0 3 M).bind fun r3 => if r3 = 0 then some ((-1), M) else (f_X6_dayGoes 0 24 M).bind fun r5 => if p2 = 0 then rd (r5 63) 4 p1 fun r8 => some (r8, r5) else if p2 = 1 then rd (r5 65) 4 p1 fun r11 => some (r11, r5) else if p2 = 2 then rd (r5 64) 4 p1 fun r14 => some (r14, r5) else rd (r5 66) 4 p1 fun r16 => some (r16, r5)
theorem o_X6_fate {E : GE} {Q : Option Value → Mem → Prop} {p1 : Int32} {p2 : Int32} {M : Mem} (h : wp (f_X6_fate p1 p2 M) gIM Q) : Runs E mi_X6_fate [.ref (ad E 54), .int p1, .int p2] M Q := by
  refine Runs.ofEv (by decide +kernel) (Nat.le_of_ble_eq_true rfl) ?_
  show Ev E mi_X6_fate 0 [(0, .ref (ad E 54)), (1, .int p1), (2, .int p2)] [] M Q
  unfold f_X6_fate at h
  refine Ev.aload_n dX6_fate_0 rfl 0 rfl ?_
  refine Ev.iload_n dX6_fate_1 rfl 1 rfl ?_
  obtain ⟨r1, er1, h⟩ := wp_bind h
  refine Ev.callV (k := 54) (as := [.int p1]) (rest := []) dX6_fate_2 cl_X6_173 mok_X6_isTub rfl (Nat.le_of_ble_eq_true rfl) (Nat.le_of_ble_eq_true rfl) ⟨Nat.le_of_ble_eq_true rfl, Nat.le_of_ble_eq_true rfl⟩ (Nat.le_of_ble_eq_true rfl) rfl rfl (o_X6_isTub ⟨r1, er1, ?_⟩)
  show Ev E mi_X6_fate 5 [(0, .ref (ad E 54)), (1, .int p1), (2, .int p2)] [.int r1] M Q
  refine Ev.if_eq (tgt := 20) dX6_fate_5 (by decide) (fun c2 => ?_) (fun c2 => ?_)
  · replace h := wp_t c2 h
    refine Ev.iconst (v := (-1)) dX6_fate_20 rfl ?_
    exact Ev.ret dX6_fate_21 rfl rfl (wp_ret h)
  · replace h := wp_f c2 h
    refine Ev.iload_n dX6_fate_8 rfl 2 rfl ?_
    refine Ev.i2l dX6_fate_9 ?_
    refine Ev.lconst (v := 0) dX6_fate_10 rfl ?_
    refine Ev.ldc2 dX6_fate_11 fc_X6_182 ?_
    obtain ⟨r3, er3, h⟩ := wp_bind h
    refine Ev.callS (as := [.long p2.toInt64, .long 0, .long 3]) (rest := []) dX6_fate_14 cl_X6_73 mos_X6_in ⟨Nat.le_of_ble_eq_true rfl, Nat.le_of_ble_eq_true rfl⟩ (Nat.le_of_ble_eq_true rfl) rfl rfl (o_X6_in ⟨r3, er3, ?_⟩)
    show Ev E mi_X6_fate 17 [(0, .ref (ad E 54)), (1, .int p1), (2, .int p2)] [.int r3] M Q
    refine Ev.if_ne (tgt := 22) dX6_fate_17 (by decide) (fun c4 => ?_) (fun c4 => ?_)
    · replace h := wp_t c4 h
      refine Ev.iconst (v := (-1)) dX6_fate_20 rfl ?_
      exact Ev.ret dX6_fate_21 rfl rfl (wp_ret h)
    · replace h := wp_f c4 h
      refine Ev.aload_n dX6_fate_22 rfl 0 rfl ?_
      refine Ev.iconst (v := 0) dX6_fate_23 rfl ?_
      refine Ev.bipush (v := 24) dX6_fate_24 rfl ?_
      obtain ⟨r5, er5, h⟩ := wp_bind h
      refine Ev.callV (k := 54) (as := [.int 0, .int 24]) (rest := []) dX6_fate_26 cl_X6_208 mok_X6_dayGoes rfl (Nat.le_of_ble_eq_true rfl) (Nat.le_of_ble_eq_true rfl) ⟨Nat.le_of_ble_eq_true rfl, Nat.le_of_ble_eq_true rfl⟩ (Nat.le_of_ble_eq_true rfl) rfl rfl (o_X6_dayGoes ⟨r5, er5, ?_⟩)
      show Ev E mi_X6_fate 29 [(0, .ref (ad E 54)), (1, .int p1), (2, .int p2)] [] r5 Q
      refine Ev.iload_n dX6_fate_29 rfl 2 rfl ?_
      refine Ev.if_ne (tgt := 42) dX6_fate_30 (by decide) (fun c6 => ?_) (fun c6 => ?_)
      · replace h := wp_t c6 h
        refine Ev.aload_n dX6_fate_33 rfl 0 rfl ?_
        refine Ev.get dX6_fate_34 fl_X6_34 rfl (Nat.le_of_ble_eq_true rfl) (v := .ref (ad E 63)) rfl ?_
        refine Ev.iload_n dX6_fate_37 rfl 1 rfl ?_
        obtain ⟨g7, h⟩ := wp_rd h
        refine Ev.iald dX6_fate_38 rfl (Nat.le_of_ble_eq_true rfl) rfl g7 ?_
        refine Ev.topi (fun r8 er8 => ?_)
        replace h := h r8 er8
        refine Ev.goto (tgt := 76) dX6_fate_39 (by decide) ?_
        exact Ev.ret dX6_fate_76 rfl rfl (wp_ret h)
      · replace h := wp_f c6 h
        refine Ev.iload_n dX6_fate_42 rfl 2 rfl ?_
        refine Ev.iconst (v := 1) dX6_fate_43 rfl ?_
        refine Ev.icmp_ne (tgt := 56) dX6_fate_44 (by decide) (fun c9 => ?_) (fun c9 => ?_)
        · replace h := wp_t c9 h
          refine Ev.aload_n dX6_fate_47 rfl 0 rfl ?_
          refine Ev.get dX6_fate_48 fl_X6_40 rfl (Nat.le_of_ble_eq_true rfl) (v := .ref (ad E 65)) rfl ?_
          refine Ev.iload_n dX6_fate_51 rfl 1 rfl ?_
          obtain ⟨g10, h⟩ := wp_rd h
          refine Ev.iald dX6_fate_52 rfl (Nat.le_of_ble_eq_true rfl) rfl g10 ?_
          refine Ev.topi (fun r11 er11 => ?_)
          replace h := h r11 er11
          refine Ev.goto (tgt := 76) dX6_fate_53 (by decide) ?_
          exact Ev.ret dX6_fate_76 rfl rfl (wp_ret h)
        · replace h := wp_f c9 h
          refine Ev.iload_n dX6_fate_56 rfl 2 rfl ?_
          refine Ev.iconst (v := 2) dX6_fate_57 rfl ?_
          refine Ev.icmp_ne (tgt := 70) dX6_fate_58 (by decide) (fun c12 => ?_) (fun c12 => ?_)
          · replace h := wp_t c12 h
            refine Ev.aload_n dX6_fate_61 rfl 0 rfl ?_
            refine Ev.get dX6_fate_62 fl_X6_37 rfl (Nat.le_of_ble_eq_true rfl) (v := .ref (ad E 64)) rfl ?_
            refine Ev.iload_n dX6_fate_65 rfl 1 rfl ?_
            obtain ⟨g13, h⟩ := wp_rd h
            refine Ev.iald dX6_fate_66 rfl (Nat.le_of_ble_eq_true rfl) rfl g13 ?_
            refine Ev.topi (fun r14 er14 => ?_)
            replace h := h r14 er14
            refine Ev.goto (tgt := 76) dX6_fate_67 (by decide) ?_
            exact Ev.ret dX6_fate_76 rfl rfl (wp_ret h)
          · replace h := wp_f c12 h
            refine Ev.aload_n dX6_fate_70 rfl 0 rfl ?_
            refine Ev.get dX6_fate_71 fl_X6_43 rfl (Nat.le_of_ble_eq_true rfl) (v := .ref (ad E 66)) rfl ?_
            refine Ev.iload_n dX6_fate_74 rfl 1 rfl ?_
            obtain ⟨g15, h⟩ := wp_rd h
            refine Ev.iald dX6_fate_75 rfl (Nat.le_of_ble_eq_true rfl) rfl g15 ?_
            refine Ev.topi (fun r16 er16 => ?_)
            replace h := h r16 er16
            exact Ev.ret dX6_fate_76 rfl rfl (wp_ret h)

noncomputable def f_X6_where (p1 : Int32) (p2 : Int32) (p3 : Int32) (M : Mem) : Option (Int32 × Mem) := (f_X6_isTub p1 M).bind fun r1 => if r1 = 0 then some ((-1), M) else (f_X6_in p2.toInt64 0 24 M).bind fun r3 => if r3 = 0 then some ((-1), M) else (f_X6_in p3.toInt64 0 2 M).bind fun r5 => if r5 = 0 then some ((-1), M) else (f_X6_dayGoes 0 p2 M).bind fun r7 => if p3 = 0 then rd (r7 61) 4 p1 fun r10 => some (10 + r10, r7) else if p3 = 1 then rd (r7 62) 4 p1 fun r13 => some (r13, r7) else rd (r7 63) 4 p1 fun r15 => some (r15, r7)
theorem o_X6_where {E : GE} {Q : Option Value → Mem → Prop} {p1 : Int32} {p2 : Int32} {p3 : Int32} {M : Mem} (h : wp (f_X6_where p1 p2 p3 M) gIM Q) : Runs E mi_X6_where [.ref (ad E 54), .int p1, .int p2, .int p3] M Q := by
  refine Runs.ofEv (by decide +kernel) (Nat.le_of_ble_eq_true rfl) ?_
  show Ev E mi_X6_where 0 [(0, .ref (ad E 54)), (1, .int p1), (2, .int p2), (3, .int p3)] [] M Q
  unfold f_X6_where at h
  refine Ev.aload_n dX6_where_0 rfl 0 rfl ?_
  refine Ev.iload_n dX6_where_1 rfl 1 rfl ?_
  obtain ⟨r1, er1, h⟩ := wp_bind h
  refine Ev.callV (k := 54) (as := [.int p1]) (rest := []) dX6_where_2 cl_X6_173 mok_X6_isTub rfl (Nat.le_of_ble_eq_true rfl) (Nat.le_of_ble_eq_true rfl) ⟨Nat.le_of_ble_eq_true rfl, Nat.le_of_ble_eq_true rfl⟩ (Nat.le_of_ble_eq_true rfl) rfl rfl (o_X6_isTub ⟨r1, er1, ?_⟩)
  show Ev E mi_X6_where 5 [(0, .ref (ad E 54)), (1, .int p1), (2, .int p2), (3, .int p3)] [.int r1] M Q
  refine Ev.if_eq (tgt := 32) dX6_where_5 (by decide) (fun c2 => ?_) (fun c2 => ?_)
  · replace h := wp_t c2 h
    refine Ev.iconst (v := (-1)) dX6_where_32 rfl ?_
    exact Ev.ret dX6_where_33 rfl rfl (wp_ret h)
  · replace h := wp_f c2 h
    refine Ev.iload_n dX6_where_8 rfl 2 rfl ?_
    refine Ev.i2l dX6_where_9 ?_
    refine Ev.lconst (v := 0) dX6_where_10 rfl ?_
    refine Ev.ldc2 dX6_where_11 fc_X6_216 ?_
    obtain ⟨r3, er3, h⟩ := wp_bind h
    refine Ev.callS (as := [.long p2.toInt64, .long 0, .long 24]) (rest := []) dX6_where_14 cl_X6_73 mos_X6_in ⟨Nat.le_of_ble_eq_true rfl, Nat.le_of_ble_eq_true rfl⟩ (Nat.le_of_ble_eq_true rfl) rfl rfl (o_X6_in ⟨r3, er3, ?_⟩)
    show Ev E mi_X6_where 17 [(0, .ref (ad E 54)), (1, .int p1), (2, .int p2), (3, .int p3)] [.int r3] M Q
    refine Ev.if_eq (tgt := 32) dX6_where_17 (by decide) (fun c4 => ?_) (fun c4 => ?_)
    · replace h := wp_t c4 h
      refine Ev.iconst (v := (-1)) dX6_where_32 rfl ?_
      exact Ev.ret dX6_where_33 rfl rfl (wp_ret h)
    · replace h := wp_f c4 h
      refine Ev.iload_n dX6_where_20 rfl 3 rfl ?_
      refine Ev.i2l dX6_where_21 ?_
      refine Ev.lconst (v := 0) dX6_where_22 rfl ?_
      refine Ev.ldc2 dX6_where_23 fc_X6_218 ?_
      obtain ⟨r5, er5, h⟩ := wp_bind h
      refine Ev.callS (as := [.long p3.toInt64, .long 0, .long 2]) (rest := []) dX6_where_26 cl_X6_73 mos_X6_in ⟨Nat.le_of_ble_eq_true rfl, Nat.le_of_ble_eq_true rfl⟩ (Nat.le_of_ble_eq_true rfl) rfl rfl (o_X6_in ⟨r5, er5, ?_⟩)
      show Ev E mi_X6_where 29 [(0, .ref (ad E 54)), (1, .int p1), (2, .int p2), (3, .int p3)] [.int r5] M Q
      refine Ev.if_ne (tgt := 34) dX6_where_29 (by decide) (fun c6 => ?_) (fun c6 => ?_)
      · replace h := wp_t c6 h
        refine Ev.iconst (v := (-1)) dX6_where_32 rfl ?_
        exact Ev.ret dX6_where_33 rfl rfl (wp_ret h)
      · replace h := wp_f c6 h
        refine Ev.aload_n dX6_where_34 rfl 0 rfl ?_
        refine Ev.iconst (v := 0) dX6_where_35 rfl ?_
        refine Ev.iload_n dX6_where_36 rfl 2 rfl ?_
        obtain ⟨r7, er7, h⟩ := wp_bind h
        refine Ev.callV (k := 54) (as := [.int 0, .int p2]) (rest := []) dX6_where_37 cl_X6_208 mok_X6_dayGoes rfl (Nat.le_of_ble_eq_true rfl) (Nat.le_of_ble_eq_true rfl) ⟨Nat.le_of_ble_eq_true rfl, Nat.le_of_ble_eq_true rfl⟩ (Nat.le_of_ble_eq_true rfl) rfl rfl (o_X6_dayGoes ⟨r7, er7, ?_⟩)
        show Ev E mi_X6_where 40 [(0, .ref (ad E 54)), (1, .int p1), (2, .int p2), (3, .int p3)] [] r7 Q
        refine Ev.iload_n dX6_where_40 rfl 3 rfl ?_
        refine Ev.if_ne (tgt := 56) dX6_where_41 (by decide) (fun c8 => ?_) (fun c8 => ?_)
        · replace h := wp_t c8 h
          refine Ev.bipush (v := 10) dX6_where_44 rfl ?_
          refine Ev.aload_n dX6_where_46 rfl 0 rfl ?_
          refine Ev.get dX6_where_47 fl_X6_28 rfl (Nat.le_of_ble_eq_true rfl) (v := .ref (ad E 61)) rfl ?_
          refine Ev.iload_n dX6_where_50 rfl 1 rfl ?_
          obtain ⟨g9, h⟩ := wp_rd h
          refine Ev.iald dX6_where_51 rfl (Nat.le_of_ble_eq_true rfl) rfl g9 ?_
          refine Ev.topi (fun r10 er10 => ?_)
          replace h := h r10 er10
          refine Ev.iadd dX6_where_52 ?_
          refine Ev.goto (tgt := 76) dX6_where_53 (by decide) ?_
          exact Ev.ret dX6_where_76 rfl rfl (wp_ret h)
        · replace h := wp_f c8 h
          refine Ev.iload_n dX6_where_56 rfl 3 rfl ?_
          refine Ev.iconst (v := 1) dX6_where_57 rfl ?_
          refine Ev.icmp_ne (tgt := 70) dX6_where_58 (by decide) (fun c11 => ?_) (fun c11 => ?_)
          · replace h := wp_t c11 h
            refine Ev.aload_n dX6_where_61 rfl 0 rfl ?_
            refine Ev.get dX6_where_62 fl_X6_31 rfl (Nat.le_of_ble_eq_true rfl) (v := .ref (ad E 62)) rfl ?_
            refine Ev.iload_n dX6_where_65 rfl 1 rfl ?_
            obtain ⟨g12, h⟩ := wp_rd h
            refine Ev.iald dX6_where_66 rfl (Nat.le_of_ble_eq_true rfl) rfl g12 ?_
            refine Ev.topi (fun r13 er13 => ?_)
            replace h := h r13 er13
            refine Ev.goto (tgt := 76) dX6_where_67 (by decide) ?_
            exact Ev.ret dX6_where_76 rfl rfl (wp_ret h)
          · replace h := wp_f c11 h
            refine Ev.aload_n dX6_where_70 rfl 0 rfl ?_
            refine Ev.get dX6_where_71 fl_X6_34 rfl (Nat.le_of_ble_eq_true rfl) (v := .ref (ad E 63)) rfl ?_
            refine Ev.iload_n dX6_where_74 rfl 1 rfl ?_
            obtain ⟨g14, h⟩ := wp_rd h
            refine Ev.iald dX6_where_75 rfl (Nat.le_of_ble_eq_true rfl) rfl g14 ?_
            refine Ev.topi (fun r15 er15 => ?_)
            replace h := h r15 er15
            exact Ev.ret dX6_where_76 rfl rfl (wp_ret h)

noncomputable def f_X6_has (p1 : Int32) (p2 : Int32) (M : Mem) : Option (Int32 × Mem) := (f_X6_isHeir p1 M).bind fun r1 => if r1 = 0 then some ((-1), M) else (f_X6_in p2.toInt64 0 1 M).bind fun r3 => if r3 = 0 then some ((-1), M) else (f_X6_worth 0 p1 M).bind fun r5 => if p2 = 0 then some (r5.1, r5.2) else (f_X6_tubsOf 1 p1 r5.2).bind fun r7 => some (r7, r5.2)
theorem o_X6_has {E : GE} {Q : Option Value → Mem → Prop} {p1 : Int32} {p2 : Int32} {M : Mem} (h : wp (f_X6_has p1 p2 M) gIM Q) : Runs E mi_X6_has [.ref (ad E 54), .int p1, .int p2] M Q := by
  refine Runs.ofEv (by decide +kernel) (Nat.le_of_ble_eq_true rfl) ?_
  show Ev E mi_X6_has 0 [(0, .ref (ad E 54)), (1, .int p1), (2, .int p2)] [] M Q
  unfold f_X6_has at h
  refine Ev.aload_n dX6_has_0 rfl 0 rfl ?_
  refine Ev.iload_n dX6_has_1 rfl 1 rfl ?_
  obtain ⟨r1, er1, h⟩ := wp_bind h
  refine Ev.callV (k := 54) (as := [.int p1]) (rest := []) dX6_has_2 cl_X6_179 mok_X6_isHeir rfl (Nat.le_of_ble_eq_true rfl) (Nat.le_of_ble_eq_true rfl) ⟨Nat.le_of_ble_eq_true rfl, Nat.le_of_ble_eq_true rfl⟩ (Nat.le_of_ble_eq_true rfl) rfl rfl (o_X6_isHeir ⟨r1, er1, ?_⟩)
  show Ev E mi_X6_has 5 [(0, .ref (ad E 54)), (1, .int p1), (2, .int p2)] [.int r1] M Q
  refine Ev.if_eq (tgt := 18) dX6_has_5 (by decide) (fun c2 => ?_) (fun c2 => ?_)
  · replace h := wp_t c2 h
    refine Ev.iconst (v := (-1)) dX6_has_18 rfl ?_
    exact Ev.ret dX6_has_19 rfl rfl (wp_ret h)
  · replace h := wp_f c2 h
    refine Ev.iload_n dX6_has_8 rfl 2 rfl ?_
    refine Ev.i2l dX6_has_9 ?_
    refine Ev.lconst (v := 0) dX6_has_10 rfl ?_
    refine Ev.lconst (v := 1) dX6_has_11 rfl ?_
    obtain ⟨r3, er3, h⟩ := wp_bind h
    refine Ev.callS (as := [.long p2.toInt64, .long 0, .long 1]) (rest := []) dX6_has_12 cl_X6_73 mos_X6_in ⟨Nat.le_of_ble_eq_true rfl, Nat.le_of_ble_eq_true rfl⟩ (Nat.le_of_ble_eq_true rfl) rfl rfl (o_X6_in ⟨r3, er3, ?_⟩)
    show Ev E mi_X6_has 15 [(0, .ref (ad E 54)), (1, .int p1), (2, .int p2)] [.int r3] M Q
    refine Ev.if_ne (tgt := 20) dX6_has_15 (by decide) (fun c4 => ?_) (fun c4 => ?_)
    · replace h := wp_t c4 h
      refine Ev.iconst (v := (-1)) dX6_has_18 rfl ?_
      exact Ev.ret dX6_has_19 rfl rfl (wp_ret h)
    · replace h := wp_f c4 h
      refine Ev.aload_n dX6_has_20 rfl 0 rfl ?_
      refine Ev.iconst (v := 0) dX6_has_21 rfl ?_
      refine Ev.iload_n dX6_has_22 rfl 1 rfl ?_
      obtain ⟨r5, er5, h⟩ := wp_bind h
      refine Ev.callV (k := 54) (as := [.int 0, .int p1]) (rest := []) dX6_has_23 cl_X6_220 mok_X6_worth rfl (Nat.le_of_ble_eq_true rfl) (Nat.le_of_ble_eq_true rfl) ⟨Nat.le_of_ble_eq_true rfl, Nat.le_of_ble_eq_true rfl⟩ (Nat.le_of_ble_eq_true rfl) rfl rfl (o_X6_worth ⟨r5, er5, ?_⟩)
      show Ev E mi_X6_has 26 [(0, .ref (ad E 54)), (1, .int p1), (2, .int p2)] [.int r5.1] r5.2 Q
      refine Ev.istore_n dX6_has_26 rfl (Nat.le_of_ble_eq_true rfl) rfl ?_
      show Ev E mi_X6_has 27 [(3, .int r5.1), (0, .ref (ad E 54)), (1, .int p1), (2, .int p2)] [] r5.2 Q
      refine Ev.iload_n dX6_has_27 rfl 3 rfl ?_
      refine Ev.if_ne (tgt := 35) dX6_has_28 (by decide) (fun c6 => ?_) (fun c6 => ?_)
      · replace h := wp_t c6 h
        refine Ev.iload_n dX6_has_31 rfl 0 rfl ?_
        refine Ev.goto (tgt := 41) dX6_has_32 (by decide) ?_
        exact Ev.ret dX6_has_41 rfl rfl (wp_ret h)
      · replace h := wp_f c6 h
        refine Ev.aload_n dX6_has_35 rfl 1 rfl ?_
        refine Ev.iconst (v := 1) dX6_has_36 rfl ?_
        refine Ev.iload_n dX6_has_37 rfl 2 rfl ?_
        obtain ⟨r7, er7, h⟩ := wp_bind h
        refine Ev.callV (k := 54) (as := [.int 1, .int p1]) (rest := []) dX6_has_38 cl_X6_223 mok_X6_tubsOf rfl (Nat.le_of_ble_eq_true rfl) (Nat.le_of_ble_eq_true rfl) ⟨Nat.le_of_ble_eq_true rfl, Nat.le_of_ble_eq_true rfl⟩ (Nat.le_of_ble_eq_true rfl) rfl rfl (o_X6_tubsOf ⟨r7, er7, ?_⟩)
        show Ev E mi_X6_has 41 [(3, .int r5.1), (0, .ref (ad E 54)), (1, .int p1), (2, .int p2)] [.int r7] r5.2 Q
        exact Ev.ret dX6_has_41 rfl rfl (wp_ret h)

noncomputable def f_X6_all (p1 : Int32) (M : Mem) : Option (Int32 × Mem) := (f_X6_in p1.toInt64 0 4 M).bind fun r1 => if r1 = 0 then some ((-1), M) else (f_X6_worth 0 (-4) M).bind fun r3 => if p1 = 4 then some (r3.1, r3.2) else (f_X6_tubsOf p1 (-4) r3.2).bind fun r5 => some (r5, r3.2)
theorem o_X6_all {E : GE} {Q : Option Value → Mem → Prop} {p1 : Int32} {M : Mem} (h : wp (f_X6_all p1 M) gIM Q) : Runs E mi_X6_all [.ref (ad E 54), .int p1] M Q := by
  refine Runs.ofEv (by decide +kernel) (Nat.le_of_ble_eq_true rfl) ?_
  show Ev E mi_X6_all 0 [(0, .ref (ad E 54)), (1, .int p1)] [] M Q
  unfold f_X6_all at h
  refine Ev.iload_n dX6_all_0 rfl 1 rfl ?_
  refine Ev.i2l dX6_all_1 ?_
  refine Ev.lconst (v := 0) dX6_all_2 rfl ?_
  refine Ev.ldc2 dX6_all_3 fc_X6_189 ?_
  obtain ⟨r1, er1, h⟩ := wp_bind h
  refine Ev.callS (as := [.long p1.toInt64, .long 0, .long 4]) (rest := []) dX6_all_6 cl_X6_73 mos_X6_in ⟨Nat.le_of_ble_eq_true rfl, Nat.le_of_ble_eq_true rfl⟩ (Nat.le_of_ble_eq_true rfl) rfl rfl (o_X6_in ⟨r1, er1, ?_⟩)
  show Ev E mi_X6_all 9 [(0, .ref (ad E 54)), (1, .int p1)] [.int r1] M Q
  refine Ev.if_ne (tgt := 14) dX6_all_9 (by decide) (fun c2 => ?_) (fun c2 => ?_)
  · replace h := wp_t c2 h
    refine Ev.iconst (v := (-1)) dX6_all_12 rfl ?_
    exact Ev.ret dX6_all_13 rfl rfl (wp_ret h)
  · replace h := wp_f c2 h
    refine Ev.aload_n dX6_all_14 rfl 0 rfl ?_
    refine Ev.iconst (v := 0) dX6_all_15 rfl ?_
    refine Ev.bipush (v := (-4)) dX6_all_16 rfl ?_
    obtain ⟨r3, er3, h⟩ := wp_bind h
    refine Ev.callV (k := 54) (as := [.int 0, .int (-4)]) (rest := []) dX6_all_18 cl_X6_220 mok_X6_worth rfl (Nat.le_of_ble_eq_true rfl) (Nat.le_of_ble_eq_true rfl) ⟨Nat.le_of_ble_eq_true rfl, Nat.le_of_ble_eq_true rfl⟩ (Nat.le_of_ble_eq_true rfl) rfl rfl (o_X6_worth ⟨r3, er3, ?_⟩)
    show Ev E mi_X6_all 21 [(0, .ref (ad E 54)), (1, .int p1)] [.int r3.1] r3.2 Q
    refine Ev.istore_n dX6_all_21 rfl (Nat.le_of_ble_eq_true rfl) rfl ?_
    show Ev E mi_X6_all 22 [(2, .int r3.1), (0, .ref (ad E 54)), (1, .int p1)] [] r3.2 Q
    refine Ev.iload_n dX6_all_22 rfl 2 rfl ?_
    refine Ev.iconst (v := 4) dX6_all_23 rfl ?_
    refine Ev.icmp_ne (tgt := 31) dX6_all_24 (by decide) (fun c4 => ?_) (fun c4 => ?_)
    · replace h := wp_t c4 h
      refine Ev.iload_n dX6_all_27 rfl 0 rfl ?_
      refine Ev.goto (tgt := 38) dX6_all_28 (by decide) ?_
      exact Ev.ret dX6_all_38 rfl rfl (wp_ret h)
    · replace h := wp_f c4 h
      refine Ev.aload_n dX6_all_31 rfl 1 rfl ?_
      refine Ev.iload_n dX6_all_32 rfl 2 rfl ?_
      refine Ev.bipush (v := (-4)) dX6_all_33 rfl ?_
      obtain ⟨r5, er5, h⟩ := wp_bind h
      refine Ev.callV (k := 54) (as := [.int p1, .int (-4)]) (rest := []) dX6_all_35 cl_X6_223 mok_X6_tubsOf rfl (Nat.le_of_ble_eq_true rfl) (Nat.le_of_ble_eq_true rfl) ⟨Nat.le_of_ble_eq_true rfl, Nat.le_of_ble_eq_true rfl⟩ (Nat.le_of_ble_eq_true rfl) rfl rfl (o_X6_tubsOf ⟨r5, er5, ?_⟩)
      show Ev E mi_X6_all 38 [(2, .int r3.1), (0, .ref (ad E 54)), (1, .int p1)] [.int r5] r3.2 Q
      exact Ev.ret dX6_all_38 rfl rfl (wp_ret h)

noncomputable def f_X6_copies_2 (p1 : Int32) (p2 : Int32) : Nat → Int32 → Mem → Option Mem
  | 0, _, _ => none
  | n + 1, x3, M => if 72 ≤ x3 then some M else rd (M 55) 360 (p1 + x3) fun r3 => inb (p2 + x3) 360 <| lm (up M 55 (p2 + x3).toNatClampNeg r3) fun M5 => (f_X6_copies_2 p1 p2 n) (x3 + 1) M5
theorem o_X6_copies_2 {E : GE} {Q : Option Value → Mem → Prop} {p1 : Int32} {p2 : Int32} : ∀ (n : Nat) {x3 : Int32} {M : Mem}, wp (f_X6_copies_2 p1 p2 n x3 M) gVM Q → Ev E mi_X6_copies 2 [(0, .ref (ad E 54)), (1, .int p1), (2, .int p2), (3, .int x3)] [] M Q := by
  intro n
  induction n with
  | zero => intro _ _ h; exact absurd h wp_none
  | succ n ih =>
    intro x3 M h
    unfold f_X6_copies_2 at h
    refine Ev.iload_n dX6_copies_2 rfl 3 rfl ?_
    refine Ev.bipush (v := 72) dX6_copies_3 rfl ?_
    refine Ev.icmp_ge (tgt := 30) dX6_copies_5 (by decide) (fun c1 => ?_) (fun c1 => ?_)
    · replace h := wp_t c1 h
      exact Ev.vret dX6_copies_30 rfl (wp_ret h)
    · replace h := wp_f c1 h
      refine Ev.aload_n dX6_copies_8 rfl 0 rfl ?_
      refine Ev.get dX6_copies_9 fl_X6_7 rfl (Nat.le_of_ble_eq_true rfl) (v := .ref (ad E 55)) rfl ?_
      refine Ev.iload_n dX6_copies_12 rfl 2 rfl ?_
      refine Ev.iload_n dX6_copies_13 rfl 3 rfl ?_
      refine Ev.iadd dX6_copies_14 ?_
      refine Ev.aload_n dX6_copies_15 rfl 0 rfl ?_
      refine Ev.get dX6_copies_16 fl_X6_7 rfl (Nat.le_of_ble_eq_true rfl) (v := .ref (ad E 55)) rfl ?_
      refine Ev.iload_n dX6_copies_19 rfl 1 rfl ?_
      refine Ev.iload_n dX6_copies_20 rfl 3 rfl ?_
      refine Ev.iadd dX6_copies_21 ?_
      obtain ⟨g2, h⟩ := wp_rd h
      refine Ev.iald dX6_copies_22 rfl (Nat.le_of_ble_eq_true rfl) rfl g2 ?_
      refine Ev.topi (fun r3 er3 => ?_)
      replace h := h r3 er3
      obtain ⟨g4, h⟩ := wp_inb h
      refine Ev.iast dX6_copies_23 rfl (Nat.le_of_ble_eq_true rfl) rfl g4 ?_
      refine Ev.topM (fun M5 eM5 => ?_)
      replace h := wp_lm h M5 eM5
      refine Ev.iinc (v := x3 + 1) dX6_copies_24 3 rfl rfl (Nat.le_of_ble_eq_true rfl) rfl ?_
      show Ev E mi_X6_copies 27 [(3, .int (x3 + 1)), (0, .ref (ad E 54)), (1, .int p1), (2, .int p2)] [] M5 Q
      refine Ev.goto (tgt := 2) dX6_copies_27 (by decide) ?_
      refine Ev.sub [1, 2, 3, 0] rfl ?_
      exact ih h
noncomputable def f_X6_copies (p1 : Int32) (p2 : Int32) (M : Mem) : Option Mem := f_X6_copies_2 p1 p2 FU 0 M
theorem o_X6_copies {E : GE} {Q : Option Value → Mem → Prop} {p1 : Int32} {p2 : Int32} {M : Mem} (h : wp (f_X6_copies p1 p2 M) gVM Q) : Runs E mi_X6_copies [.ref (ad E 54), .int p1, .int p2] M Q := by
  refine Runs.ofEv (by decide +kernel) (Nat.le_of_ble_eq_true rfl) ?_
  show Ev E mi_X6_copies 0 [(0, .ref (ad E 54)), (1, .int p1), (2, .int p2)] [] M Q
  unfold f_X6_copies at h
  refine Ev.iconst (v := 0) dX6_copies_0 rfl ?_
  refine Ev.istore_n dX6_copies_1 rfl (Nat.le_of_ble_eq_true rfl) rfl ?_
  show Ev E mi_X6_copies 2 [(3, .int 0), (0, .ref (ad E 54)), (1, .int p1), (2, .int p2)] [] M Q
  refine Ev.sub [1, 2, 3, 0] rfl ?_
  exact o_X6_copies_2 FU h

noncomputable def f_X6_isHooked (p1 : Int32) (p2 : Int32) (M : Mem) : Option (Int32 × Mem) := (f_X6_dayGoes 288 24 M).bind fun r1 => rd (r1 63) 4 p1 fun r3 => if r3 = 1 then rd (r1 65) 4 p1 fun r6 => if r6 = p2 then some (1, r1) else some (0, r1) else some (0, r1)
theorem o_X6_isHooked {E : GE} {Q : Option Value → Mem → Prop} {p1 : Int32} {p2 : Int32} {M : Mem} (h : wp (f_X6_isHooked p1 p2 M) gIM Q) : Runs E mi_X6_isHooked [.ref (ad E 54), .int p1, .int p2] M Q := by
  refine Runs.ofEv (by decide +kernel) (Nat.le_of_ble_eq_true rfl) ?_
  show Ev E mi_X6_isHooked 0 [(0, .ref (ad E 54)), (1, .int p1), (2, .int p2)] [] M Q
  unfold f_X6_isHooked at h
  refine Ev.aload_n dX6_isHooked_0 rfl 0 rfl ?_
  refine Ev.sipush (v := 288) dX6_isHooked_1 rfl ?_
  refine Ev.bipush (v := 24) dX6_isHooked_4 rfl ?_
  obtain ⟨r1, er1, h⟩ := wp_bind h
  refine Ev.callV (k := 54) (as := [.int 288, .int 24]) (rest := []) dX6_isHooked_6 cl_X6_208 mok_X6_dayGoes rfl (Nat.le_of_ble_eq_true rfl) (Nat.le_of_ble_eq_true rfl) ⟨Nat.le_of_ble_eq_true rfl, Nat.le_of_ble_eq_true rfl⟩ (Nat.le_of_ble_eq_true rfl) rfl rfl (o_X6_dayGoes ⟨r1, er1, ?_⟩)
  show Ev E mi_X6_isHooked 9 [(0, .ref (ad E 54)), (1, .int p1), (2, .int p2)] [] r1 Q
  refine Ev.aload_n dX6_isHooked_9 rfl 0 rfl ?_
  refine Ev.get dX6_isHooked_10 fl_X6_34 rfl (Nat.le_of_ble_eq_true rfl) (v := .ref (ad E 63)) rfl ?_
  refine Ev.iload_n dX6_isHooked_13 rfl 1 rfl ?_
  obtain ⟨g2, h⟩ := wp_rd h
  refine Ev.iald dX6_isHooked_14 rfl (Nat.le_of_ble_eq_true rfl) rfl g2 ?_
  refine Ev.topi (fun r3 er3 => ?_)
  replace h := h r3 er3
  refine Ev.iconst (v := 1) dX6_isHooked_15 rfl ?_
  refine Ev.icmp_ne (tgt := 33) dX6_isHooked_16 (by decide) (fun c4 => ?_) (fun c4 => ?_)
  · replace h := wp_t c4 h
    refine Ev.aload_n dX6_isHooked_19 rfl 0 rfl ?_
    refine Ev.get dX6_isHooked_20 fl_X6_40 rfl (Nat.le_of_ble_eq_true rfl) (v := .ref (ad E 65)) rfl ?_
    refine Ev.iload_n dX6_isHooked_23 rfl 1 rfl ?_
    obtain ⟨g5, h⟩ := wp_rd h
    refine Ev.iald dX6_isHooked_24 rfl (Nat.le_of_ble_eq_true rfl) rfl g5 ?_
    refine Ev.topi (fun r6 er6 => ?_)
    replace h := h r6 er6
    refine Ev.iload_n dX6_isHooked_25 rfl 2 rfl ?_
    refine Ev.icmp_ne (tgt := 33) dX6_isHooked_26 (by decide) (fun c7 => ?_) (fun c7 => ?_)
    · replace h := wp_t c7 h
      refine Ev.iconst (v := 1) dX6_isHooked_29 rfl ?_
      refine Ev.goto (tgt := 34) dX6_isHooked_30 (by decide) ?_
      exact Ev.ret dX6_isHooked_34 rfl rfl (wp_ret h)
    · replace h := wp_f c7 h
      refine Ev.iconst (v := 0) dX6_isHooked_33 rfl ?_
      exact Ev.ret dX6_isHooked_34 rfl rfl (wp_ret h)
  · replace h := wp_f c4 h
    refine Ev.iconst (v := 0) dX6_isHooked_33 rfl ?_
    exact Ev.ret dX6_isHooked_34 rfl rfl (wp_ret h)

noncomputable def f_X6_when_28 (p1 : Int32) (p2 : Int32) : Nat → Int32 → Mem → Option (Int32 × Mem)
  | 0, _, _ => none
  | n + 1, x3, M => if 24 ≤ x3 then some ((-4), M) else inb (300 + p1) 360 <| lm (up M 55 (300 + p1).toNatClampNeg x3) fun M3 => (f_X6_isHooked p1 p2 M3).bind fun r4 => if r4.1 = 0 then (f_X6_when_28 p1 p2 n) (x3 + 1) r4.2 else some (x3, r4.2)
theorem o_X6_when_28 {E : GE} {Q : Option Value → Mem → Prop} {p1 : Int32} {p2 : Int32} : ∀ (n : Nat) {x3 : Int32} {M : Mem}, wp (f_X6_when_28 p1 p2 n x3 M) gIM Q → Ev E mi_X6_when 28 [(0, .ref (ad E 54)), (1, .int p1), (2, .int p2), (3, .int x3)] [] M Q := by
  intro n
  induction n with
  | zero => intro _ _ h; exact absurd h wp_none
  | succ n ih =>
    intro x3 M h
    unfold f_X6_when_28 at h
    refine Ev.iload_n dX6_when_28 rfl 3 rfl ?_
    refine Ev.bipush (v := 24) dX6_when_29 rfl ?_
    refine Ev.icmp_ge (tgt := 62) dX6_when_31 (by decide) (fun c1 => ?_) (fun c1 => ?_)
    · replace h := wp_t c1 h
      refine Ev.bipush (v := (-4)) dX6_when_62 rfl ?_
      exact Ev.ret dX6_when_64 rfl rfl (wp_ret h)
    · replace h := wp_f c1 h
      refine Ev.aload_n dX6_when_34 rfl 0 rfl ?_
      refine Ev.get dX6_when_35 fl_X6_7 rfl (Nat.le_of_ble_eq_true rfl) (v := .ref (ad E 55)) rfl ?_
      refine Ev.sipush (v := 300) dX6_when_38 rfl ?_
      refine Ev.iload_n dX6_when_41 rfl 1 rfl ?_
      refine Ev.iadd dX6_when_42 ?_
      refine Ev.iload_n dX6_when_43 rfl 3 rfl ?_
      obtain ⟨g2, h⟩ := wp_inb h
      refine Ev.iast dX6_when_44 rfl (Nat.le_of_ble_eq_true rfl) rfl g2 ?_
      refine Ev.topM (fun M3 eM3 => ?_)
      replace h := wp_lm h M3 eM3
      refine Ev.aload_n dX6_when_45 rfl 0 rfl ?_
      refine Ev.iload_n dX6_when_46 rfl 1 rfl ?_
      refine Ev.iload_n dX6_when_47 rfl 2 rfl ?_
      obtain ⟨r4, er4, h⟩ := wp_bind h
      refine Ev.callV (k := 54) (as := [.int p1, .int p2]) (rest := []) dX6_when_48 cl_X6_229 mok_X6_isHooked rfl (Nat.le_of_ble_eq_true rfl) (Nat.le_of_ble_eq_true rfl) ⟨Nat.le_of_ble_eq_true rfl, Nat.le_of_ble_eq_true rfl⟩ (Nat.le_of_ble_eq_true rfl) rfl rfl (o_X6_isHooked ⟨r4, er4, ?_⟩)
      show Ev E mi_X6_when 51 [(0, .ref (ad E 54)), (1, .int p1), (2, .int p2), (3, .int x3)] [.int r4.1] r4.2 Q
      refine Ev.if_eq (tgt := 56) dX6_when_51 (by decide) (fun c5 => ?_) (fun c5 => ?_)
      · replace h := wp_t c5 h
        refine Ev.iinc (v := x3 + 1) dX6_when_56 3 rfl rfl (Nat.le_of_ble_eq_true rfl) rfl ?_
        show Ev E mi_X6_when 59 [(3, .int (x3 + 1)), (0, .ref (ad E 54)), (1, .int p1), (2, .int p2)] [] r4.2 Q
        refine Ev.goto (tgt := 28) dX6_when_59 (by decide) ?_
        refine Ev.sub [1, 2, 3, 0] rfl ?_
        exact ih h
      · replace h := wp_f c5 h
        refine Ev.iload_n dX6_when_54 rfl 3 rfl ?_
        exact Ev.ret dX6_when_55 rfl rfl (wp_ret h)
noncomputable def f_X6_when (p1 : Int32) (p2 : Int32) (M : Mem) : Option (Int32 × Mem) := (f_X6_isTub p1 M).bind fun r1 => if r1 = 0 then some ((-1), M) else (f_X6_isHeir p2 M).bind fun r3 => if r3 = 0 then some ((-1), M) else (f_X6_copies 0 288 M).bind fun r5 => f_X6_when_28 p1 p2 FU 0 r5
theorem o_X6_when {E : GE} {Q : Option Value → Mem → Prop} {p1 : Int32} {p2 : Int32} {M : Mem} (h : wp (f_X6_when p1 p2 M) gIM Q) : Runs E mi_X6_when [.ref (ad E 54), .int p1, .int p2] M Q := by
  refine Runs.ofEv (by decide +kernel) (Nat.le_of_ble_eq_true rfl) ?_
  show Ev E mi_X6_when 0 [(0, .ref (ad E 54)), (1, .int p1), (2, .int p2)] [] M Q
  unfold f_X6_when at h
  refine Ev.aload_n dX6_when_0 rfl 0 rfl ?_
  refine Ev.iload_n dX6_when_1 rfl 1 rfl ?_
  obtain ⟨r1, er1, h⟩ := wp_bind h
  refine Ev.callV (k := 54) (as := [.int p1]) (rest := []) dX6_when_2 cl_X6_173 mok_X6_isTub rfl (Nat.le_of_ble_eq_true rfl) (Nat.le_of_ble_eq_true rfl) ⟨Nat.le_of_ble_eq_true rfl, Nat.le_of_ble_eq_true rfl⟩ (Nat.le_of_ble_eq_true rfl) rfl rfl (o_X6_isTub ⟨r1, er1, ?_⟩)
  show Ev E mi_X6_when 5 [(0, .ref (ad E 54)), (1, .int p1), (2, .int p2)] [.int r1] M Q
  refine Ev.if_eq (tgt := 16) dX6_when_5 (by decide) (fun c2 => ?_) (fun c2 => ?_)
  · replace h := wp_t c2 h
    refine Ev.iconst (v := (-1)) dX6_when_16 rfl ?_
    exact Ev.ret dX6_when_17 rfl rfl (wp_ret h)
  · replace h := wp_f c2 h
    refine Ev.aload_n dX6_when_8 rfl 0 rfl ?_
    refine Ev.iload_n dX6_when_9 rfl 2 rfl ?_
    obtain ⟨r3, er3, h⟩ := wp_bind h
    refine Ev.callV (k := 54) (as := [.int p2]) (rest := []) dX6_when_10 cl_X6_179 mok_X6_isHeir rfl (Nat.le_of_ble_eq_true rfl) (Nat.le_of_ble_eq_true rfl) ⟨Nat.le_of_ble_eq_true rfl, Nat.le_of_ble_eq_true rfl⟩ (Nat.le_of_ble_eq_true rfl) rfl rfl (o_X6_isHeir ⟨r3, er3, ?_⟩)
    show Ev E mi_X6_when 13 [(0, .ref (ad E 54)), (1, .int p1), (2, .int p2)] [.int r3] M Q
    refine Ev.if_ne (tgt := 18) dX6_when_13 (by decide) (fun c4 => ?_) (fun c4 => ?_)
    · replace h := wp_t c4 h
      refine Ev.iconst (v := (-1)) dX6_when_16 rfl ?_
      exact Ev.ret dX6_when_17 rfl rfl (wp_ret h)
    · replace h := wp_f c4 h
      refine Ev.aload_n dX6_when_18 rfl 0 rfl ?_
      refine Ev.iconst (v := 0) dX6_when_19 rfl ?_
      refine Ev.sipush (v := 288) dX6_when_20 rfl ?_
      obtain ⟨r5, er5, h⟩ := wp_bind h
      refine Ev.callV (k := 54) (as := [.int 0, .int 288]) (rest := []) dX6_when_23 cl_X6_226 mok_X6_copies rfl (Nat.le_of_ble_eq_true rfl) (Nat.le_of_ble_eq_true rfl) ⟨Nat.le_of_ble_eq_true rfl, Nat.le_of_ble_eq_true rfl⟩ (Nat.le_of_ble_eq_true rfl) rfl rfl (o_X6_copies ⟨r5, er5, ?_⟩)
      show Ev E mi_X6_when 26 [(0, .ref (ad E 54)), (1, .int p1), (2, .int p2)] [] r5 Q
      refine Ev.iconst (v := 0) dX6_when_26 rfl ?_
      refine Ev.istore_n dX6_when_27 rfl (Nat.le_of_ble_eq_true rfl) rfl ?_
      show Ev E mi_X6_when 28 [(3, .int 0), (0, .ref (ad E 54)), (1, .int p1), (2, .int p2)] [] r5 Q
      refine Ev.sub [1, 2, 3, 0] rfl ?_
      exact o_X6_when_28 FU h

noncomputable def f_X6_aim_80 (p1 : Int32) (p2 : Int32) (t28 : Int32 → Mem → Option (Int32 × Mem)) (x3 : Int32) (M : Mem) : Option (Int32 × Mem) := t28 (x3 + 1) M
theorem o_X6_aim_80 {E : GE} {Q : Option Value → Mem → Prop} {p1 : Int32} {p2 : Int32} {t28 : Int32 → Mem → Option (Int32 × Mem)} {x3 : Int32} {M : Mem} (ht28 : ∀ (x3 : Int32) (M : Mem), wp (t28 x3 M) gIM Q → Ev E mi_X6_aim 28 [(0, .ref (ad E 54)), (1, .int p1), (2, .int p2), (3, .int x3)] [] M Q) (h : wp (f_X6_aim_80 p1 p2 t28 x3 M) gIM Q) : Ev E mi_X6_aim 80 [(0, .ref (ad E 54)), (1, .int p1), (2, .int p2), (3, .int x3)] [] M Q := by
  unfold f_X6_aim_80 at h
  refine Ev.iinc (v := x3 + 1) dX6_aim_80 3 rfl rfl (Nat.le_of_ble_eq_true rfl) rfl ?_
  show Ev E mi_X6_aim 83 [(3, .int (x3 + 1)), (0, .ref (ad E 54)), (1, .int p1), (2, .int p2)] [] M Q
  refine Ev.goto (tgt := 28) dX6_aim_83 (by decide) ?_
  refine Ev.sub [1, 2, 3, 0] rfl ?_
  exact ht28 _ _ h
noncomputable def f_X6_aim_28 (p1 : Int32) (p2 : Int32) : Nat → Int32 → Mem → Option (Int32 × Mem)
  | 0, _, _ => none
  | n + 1, x3, M => if 100 ≤ x3 then some ((-4), M) else inb (292 + p1) 360 <| lm (up M 55 (292 + p1).toNatClampNeg (x3 / 10)) fun M3 => inb (296 + p1) 360 <| lm (up M3 55 (296 + p1).toNatClampNeg (x3 - x3 / 10 * 10)) fun M5 => if (x3 - x3 / 10 * 10) ≤ 0 then f_X6_aim_80 p1 p2 (f_X6_aim_28 p1 p2 n) x3 M5 else (f_X6_isHooked p1 p2 M5).bind fun r7 => if r7.1 = 0 then f_X6_aim_80 p1 p2 (f_X6_aim_28 p1 p2 n) x3 r7.2 else some (x3, r7.2)
theorem o_X6_aim_28 {E : GE} {Q : Option Value → Mem → Prop} {p1 : Int32} {p2 : Int32} : ∀ (n : Nat) {x3 : Int32} {M : Mem}, wp (f_X6_aim_28 p1 p2 n x3 M) gIM Q → Ev E mi_X6_aim 28 [(0, .ref (ad E 54)), (1, .int p1), (2, .int p2), (3, .int x3)] [] M Q := by
  intro n
  induction n with
  | zero => intro _ _ h; exact absurd h wp_none
  | succ n ih =>
    intro x3 M h
    unfold f_X6_aim_28 at h
    refine Ev.iload_n dX6_aim_28 rfl 3 rfl ?_
    refine Ev.bipush (v := 100) dX6_aim_29 rfl ?_
    refine Ev.icmp_ge (tgt := 86) dX6_aim_31 (by decide) (fun c1 => ?_) (fun c1 => ?_)
    · replace h := wp_t c1 h
      refine Ev.bipush (v := (-4)) dX6_aim_86 rfl ?_
      exact Ev.ret dX6_aim_88 rfl rfl (wp_ret h)
    · replace h := wp_f c1 h
      refine Ev.aload_n dX6_aim_34 rfl 0 rfl ?_
      refine Ev.get dX6_aim_35 fl_X6_7 rfl (Nat.le_of_ble_eq_true rfl) (v := .ref (ad E 55)) rfl ?_
      refine Ev.sipush (v := 292) dX6_aim_38 rfl ?_
      refine Ev.iload_n dX6_aim_41 rfl 1 rfl ?_
      refine Ev.iadd dX6_aim_42 ?_
      refine Ev.iload_n dX6_aim_43 rfl 3 rfl ?_
      refine Ev.bipush (v := 10) dX6_aim_44 rfl ?_
      refine Ev.idiv dX6_aim_46 (by decide) ?_
      obtain ⟨g2, h⟩ := wp_inb h
      refine Ev.iast dX6_aim_47 rfl (Nat.le_of_ble_eq_true rfl) rfl g2 ?_
      refine Ev.topM (fun M3 eM3 => ?_)
      replace h := wp_lm h M3 eM3
      refine Ev.aload_n dX6_aim_48 rfl 0 rfl ?_
      refine Ev.get dX6_aim_49 fl_X6_7 rfl (Nat.le_of_ble_eq_true rfl) (v := .ref (ad E 55)) rfl ?_
      refine Ev.sipush (v := 296) dX6_aim_52 rfl ?_
      refine Ev.iload_n dX6_aim_55 rfl 1 rfl ?_
      refine Ev.iadd dX6_aim_56 ?_
      refine Ev.iload_n dX6_aim_57 rfl 3 rfl ?_
      refine Ev.bipush (v := 10) dX6_aim_58 rfl ?_
      refine Ev.irem dX6_aim_60 (by decide) ?_
      obtain ⟨g4, h⟩ := wp_inb h
      refine Ev.iast dX6_aim_61 rfl (Nat.le_of_ble_eq_true rfl) rfl g4 ?_
      refine Ev.topM (fun M5 eM5 => ?_)
      replace h := wp_lm h M5 eM5
      refine Ev.iload_n dX6_aim_62 rfl 3 rfl ?_
      refine Ev.bipush (v := 10) dX6_aim_63 rfl ?_
      refine Ev.irem dX6_aim_65 (by decide) ?_
      refine Ev.if_le (tgt := 80) dX6_aim_66 (by decide) (fun c6 => ?_) (fun c6 => ?_)
      · replace h := wp_t c6 h
        exact o_X6_aim_80 (fun _ _ h => ih h) h
      · replace h := wp_f c6 h
        refine Ev.aload_n dX6_aim_69 rfl 0 rfl ?_
        refine Ev.iload_n dX6_aim_70 rfl 1 rfl ?_
        refine Ev.iload_n dX6_aim_71 rfl 2 rfl ?_
        obtain ⟨r7, er7, h⟩ := wp_bind h
        refine Ev.callV (k := 54) (as := [.int p1, .int p2]) (rest := []) dX6_aim_72 cl_X6_229 mok_X6_isHooked rfl (Nat.le_of_ble_eq_true rfl) (Nat.le_of_ble_eq_true rfl) ⟨Nat.le_of_ble_eq_true rfl, Nat.le_of_ble_eq_true rfl⟩ (Nat.le_of_ble_eq_true rfl) rfl rfl (o_X6_isHooked ⟨r7, er7, ?_⟩)
        show Ev E mi_X6_aim 75 [(0, .ref (ad E 54)), (1, .int p1), (2, .int p2), (3, .int x3)] [.int r7.1] r7.2 Q
        refine Ev.if_eq (tgt := 80) dX6_aim_75 (by decide) (fun c8 => ?_) (fun c8 => ?_)
        · replace h := wp_t c8 h
          exact o_X6_aim_80 (fun _ _ h => ih h) h
        · replace h := wp_f c8 h
          refine Ev.iload_n dX6_aim_78 rfl 3 rfl ?_
          exact Ev.ret dX6_aim_79 rfl rfl (wp_ret h)
noncomputable def f_X6_aim (p1 : Int32) (p2 : Int32) (M : Mem) : Option (Int32 × Mem) := (f_X6_isTub p1 M).bind fun r1 => if r1 = 0 then some ((-1), M) else (f_X6_isHeir p2 M).bind fun r3 => if r3 = 0 then some ((-1), M) else (f_X6_copies 0 288 M).bind fun r5 => f_X6_aim_28 p1 p2 FU 0 r5
theorem o_X6_aim {E : GE} {Q : Option Value → Mem → Prop} {p1 : Int32} {p2 : Int32} {M : Mem} (h : wp (f_X6_aim p1 p2 M) gIM Q) : Runs E mi_X6_aim [.ref (ad E 54), .int p1, .int p2] M Q := by
  refine Runs.ofEv (by decide +kernel) (Nat.le_of_ble_eq_true rfl) ?_
  show Ev E mi_X6_aim 0 [(0, .ref (ad E 54)), (1, .int p1), (2, .int p2)] [] M Q
  unfold f_X6_aim at h
  refine Ev.aload_n dX6_aim_0 rfl 0 rfl ?_
  refine Ev.iload_n dX6_aim_1 rfl 1 rfl ?_
  obtain ⟨r1, er1, h⟩ := wp_bind h
  refine Ev.callV (k := 54) (as := [.int p1]) (rest := []) dX6_aim_2 cl_X6_173 mok_X6_isTub rfl (Nat.le_of_ble_eq_true rfl) (Nat.le_of_ble_eq_true rfl) ⟨Nat.le_of_ble_eq_true rfl, Nat.le_of_ble_eq_true rfl⟩ (Nat.le_of_ble_eq_true rfl) rfl rfl (o_X6_isTub ⟨r1, er1, ?_⟩)
  show Ev E mi_X6_aim 5 [(0, .ref (ad E 54)), (1, .int p1), (2, .int p2)] [.int r1] M Q
  refine Ev.if_eq (tgt := 16) dX6_aim_5 (by decide) (fun c2 => ?_) (fun c2 => ?_)
  · replace h := wp_t c2 h
    refine Ev.iconst (v := (-1)) dX6_aim_16 rfl ?_
    exact Ev.ret dX6_aim_17 rfl rfl (wp_ret h)
  · replace h := wp_f c2 h
    refine Ev.aload_n dX6_aim_8 rfl 0 rfl ?_
    refine Ev.iload_n dX6_aim_9 rfl 2 rfl ?_
    obtain ⟨r3, er3, h⟩ := wp_bind h
    refine Ev.callV (k := 54) (as := [.int p2]) (rest := []) dX6_aim_10 cl_X6_179 mok_X6_isHeir rfl (Nat.le_of_ble_eq_true rfl) (Nat.le_of_ble_eq_true rfl) ⟨Nat.le_of_ble_eq_true rfl, Nat.le_of_ble_eq_true rfl⟩ (Nat.le_of_ble_eq_true rfl) rfl rfl (o_X6_isHeir ⟨r3, er3, ?_⟩)
    show Ev E mi_X6_aim 13 [(0, .ref (ad E 54)), (1, .int p1), (2, .int p2)] [.int r3] M Q
    refine Ev.if_ne (tgt := 18) dX6_aim_13 (by decide) (fun c4 => ?_) (fun c4 => ?_)
    · replace h := wp_t c4 h
      refine Ev.iconst (v := (-1)) dX6_aim_16 rfl ?_
      exact Ev.ret dX6_aim_17 rfl rfl (wp_ret h)
    · replace h := wp_f c4 h
      refine Ev.aload_n dX6_aim_18 rfl 0 rfl ?_
      refine Ev.iconst (v := 0) dX6_aim_19 rfl ?_
      refine Ev.sipush (v := 288) dX6_aim_20 rfl ?_
      obtain ⟨r5, er5, h⟩ := wp_bind h
      refine Ev.callV (k := 54) (as := [.int 0, .int 288]) (rest := []) dX6_aim_23 cl_X6_226 mok_X6_copies rfl (Nat.le_of_ble_eq_true rfl) (Nat.le_of_ble_eq_true rfl) ⟨Nat.le_of_ble_eq_true rfl, Nat.le_of_ble_eq_true rfl⟩ (Nat.le_of_ble_eq_true rfl) rfl rfl (o_X6_copies ⟨r5, er5, ?_⟩)
      show Ev E mi_X6_aim 26 [(0, .ref (ad E 54)), (1, .int p1), (2, .int p2)] [] r5 Q
      refine Ev.iconst (v := 0) dX6_aim_26 rfl ?_
      refine Ev.istore_n dX6_aim_27 rfl (Nat.le_of_ble_eq_true rfl) rfl ?_
      show Ev E mi_X6_aim 28 [(3, .int 0), (0, .ref (ad E 54)), (1, .int p1), (2, .int p2)] [] r5 Q
      refine Ev.sub [1, 2, 3, 0] rfl ?_
      exact o_X6_aim_28 FU h

noncomputable def f_X6_ways_117 (p1 : Int32) (p2 : Int32) (t35 : Int32 → Int32 → Mem → Option (Int32 × Mem)) (x4 : Int32) (s0 : Int32) (s1 : Int32) (M : Mem) : Option (Int32 × Mem) := li (s0 + s1) fun y1 => t35 y1 (x4 + 1) M
theorem o_X6_ways_117 {E : GE} {Q : Option Value → Mem → Prop} {p1 : Int32} {p2 : Int32} {t35 : Int32 → Int32 → Mem → Option (Int32 × Mem)} {x4 : Int32} {s0 : Int32} {s1 : Int32} {M : Mem} (ht35 : ∀ (x3 : Int32) (x4 : Int32) (M : Mem), wp (t35 x3 x4 M) gIM Q → Ev E mi_X6_ways 35 [(0, .ref (ad E 54)), (1, .int p1), (2, .int p2), (3, .int x3), (4, .int x4)] [] M Q) (h : wp (f_X6_ways_117 p1 p2 t35 x4 s0 s1 M) gIM Q) : Ev E mi_X6_ways 117 [(0, .ref (ad E 54)), (1, .int p1), (2, .int p2), (4, .int x4)] [.int s1, .int s0] M Q := by
  unfold f_X6_ways_117 at h
  refine Ev.iadd dX6_ways_117 ?_
  refine Ev.topi (fun y1 ey1 => ?_)
  replace h := wp_li h y1 ey1
  refine Ev.istore_n dX6_ways_118 rfl (Nat.le_of_ble_eq_true rfl) rfl ?_
  show Ev E mi_X6_ways 119 [(3, .int y1), (0, .ref (ad E 54)), (1, .int p1), (2, .int p2), (4, .int x4)] [] M Q
  refine Ev.iinc (v := x4 + 1) dX6_ways_119 4 rfl rfl (Nat.le_of_ble_eq_true rfl) rfl ?_
  show Ev E mi_X6_ways 122 [(4, .int (x4 + 1)), (3, .int y1), (0, .ref (ad E 54)), (1, .int p1), (2, .int p2)] [] M Q
  refine Ev.goto (tgt := 35) dX6_ways_122 (by decide) ?_
  refine Ev.sub [2, 3, 4, 1, 0] rfl ?_
  exact ht35 _ _ _ h
noncomputable def f_X6_ways_116 (p1 : Int32) (p2 : Int32) (t35 : Int32 → Int32 → Mem → Option (Int32 × Mem)) (x4 : Int32) (s0 : Int32) (M : Mem) : Option (Int32 × Mem) := f_X6_ways_117 p1 p2 t35 x4 s0 0 M
theorem o_X6_ways_116 {E : GE} {Q : Option Value → Mem → Prop} {p1 : Int32} {p2 : Int32} {t35 : Int32 → Int32 → Mem → Option (Int32 × Mem)} {x4 : Int32} {s0 : Int32} {M : Mem} (ht35 : ∀ (x3 : Int32) (x4 : Int32) (M : Mem), wp (t35 x3 x4 M) gIM Q → Ev E mi_X6_ways 35 [(0, .ref (ad E 54)), (1, .int p1), (2, .int p2), (3, .int x3), (4, .int x4)] [] M Q) (h : wp (f_X6_ways_116 p1 p2 t35 x4 s0 M) gIM Q) : Ev E mi_X6_ways 116 [(0, .ref (ad E 54)), (1, .int p1), (2, .int p2), (4, .int x4)] [.int s0] M Q := by
  unfold f_X6_ways_116 at h
  refine Ev.iconst (v := 0) dX6_ways_116 rfl ?_
  exact o_X6_ways_117 ht35 h
noncomputable def f_X6_ways_83 (p1 : Int32) (p2 : Int32) (t35 : Int32 → Int32 → Mem → Option (Int32 × Mem)) (x3 : Int32) (x4 : Int32) (s1 : Int32) (s2 : Int32) (M : Mem) : Option (Int32 × Mem) := inb s1 360 <| lm (up M 55 s1.toNatClampNeg s2) fun M2 => (f_X6_dayGoes 288 24 M2).bind fun r3 => if (x4 - x4 / 10 * 10) ≤ 0 then f_X6_ways_116 p1 p2 t35 x4 x3 r3 else rd (r3 63) 4 p1 fun r6 => if r6 = p2 then f_X6_ways_117 p1 p2 t35 x4 x3 1 r3 else f_X6_ways_116 p1 p2 t35 x4 x3 r3
theorem o_X6_ways_83 {E : GE} {Q : Option Value → Mem → Prop} {p1 : Int32} {p2 : Int32} {t35 : Int32 → Int32 → Mem → Option (Int32 × Mem)} {x3 : Int32} {x4 : Int32} {s1 : Int32} {s2 : Int32} {M : Mem} (ht35 : ∀ (x3 : Int32) (x4 : Int32) (M : Mem), wp (t35 x3 x4 M) gIM Q → Ev E mi_X6_ways 35 [(0, .ref (ad E 54)), (1, .int p1), (2, .int p2), (3, .int x3), (4, .int x4)] [] M Q) (h : wp (f_X6_ways_83 p1 p2 t35 x3 x4 s1 s2 M) gIM Q) : Ev E mi_X6_ways 83 [(0, .ref (ad E 54)), (1, .int p1), (2, .int p2), (3, .int x3), (4, .int x4)] [.int s2, .int s1, .ref (ad E 55)] M Q := by
  unfold f_X6_ways_83 at h
  obtain ⟨g1, h⟩ := wp_inb h
  refine Ev.iast dX6_ways_83 rfl (Nat.le_of_ble_eq_true rfl) rfl g1 ?_
  refine Ev.topM (fun M2 eM2 => ?_)
  replace h := wp_lm h M2 eM2
  refine Ev.aload_n dX6_ways_84 rfl 0 rfl ?_
  refine Ev.sipush (v := 288) dX6_ways_85 rfl ?_
  refine Ev.bipush (v := 24) dX6_ways_88 rfl ?_
  obtain ⟨r3, er3, h⟩ := wp_bind h
  refine Ev.callV (k := 54) (as := [.int 288, .int 24]) (rest := []) dX6_ways_90 cl_X6_208 mok_X6_dayGoes rfl (Nat.le_of_ble_eq_true rfl) (Nat.le_of_ble_eq_true rfl) ⟨Nat.le_of_ble_eq_true rfl, Nat.le_of_ble_eq_true rfl⟩ (Nat.le_of_ble_eq_true rfl) rfl rfl (o_X6_dayGoes ⟨r3, er3, ?_⟩)
  show Ev E mi_X6_ways 93 [(0, .ref (ad E 54)), (1, .int p1), (2, .int p2), (3, .int x3), (4, .int x4)] [] r3 Q
  refine Ev.iload_n dX6_ways_93 rfl 3 rfl ?_
  refine Ev.iload dX6_ways_94 4 rfl ?_
  refine Ev.bipush (v := 10) dX6_ways_96 rfl ?_
  refine Ev.irem dX6_ways_98 (by decide) ?_
  refine Ev.if_le (tgt := 116) dX6_ways_99 (by decide) (fun c4 => ?_) (fun c4 => ?_)
  · replace h := wp_t c4 h
    refine Ev.sub [0, 1, 2, 4] rfl ?_
    exact o_X6_ways_116 ht35 h
  · replace h := wp_f c4 h
    refine Ev.aload_n dX6_ways_102 rfl 0 rfl ?_
    refine Ev.get dX6_ways_103 fl_X6_34 rfl (Nat.le_of_ble_eq_true rfl) (v := .ref (ad E 63)) rfl ?_
    refine Ev.iload_n dX6_ways_106 rfl 1 rfl ?_
    obtain ⟨g5, h⟩ := wp_rd h
    refine Ev.iald dX6_ways_107 rfl (Nat.le_of_ble_eq_true rfl) rfl g5 ?_
    refine Ev.topi (fun r6 er6 => ?_)
    replace h := h r6 er6
    refine Ev.iload_n dX6_ways_108 rfl 2 rfl ?_
    refine Ev.icmp_ne (tgt := 116) dX6_ways_109 (by decide) (fun c7 => ?_) (fun c7 => ?_)
    · replace h := wp_t c7 h
      refine Ev.iconst (v := 1) dX6_ways_112 rfl ?_
      refine Ev.goto (tgt := 117) dX6_ways_113 (by decide) ?_
      refine Ev.sub [0, 1, 2, 4] rfl ?_
      exact o_X6_ways_117 ht35 h
    · replace h := wp_f c7 h
      refine Ev.sub [0, 1, 2, 4] rfl ?_
      exact o_X6_ways_116 ht35 h
noncomputable def f_X6_ways_35 (p1 : Int32) (p2 : Int32) : Nat → Int32 → Int32 → Mem → Option (Int32 × Mem)
  | 0, _, _, _ => none
  | n + 1, x3, x4, M => if 100 ≤ x4 then some (x3, M) else inb (292 + p1) 360 <| lm (up M 55 (292 + p1).toNatClampNeg (x4 / 10)) fun M3 => if (x4 - x4 / 10 * 10) = 0 then f_X6_ways_83 p1 p2 (f_X6_ways_35 p1 p2 n) x3 x4 (296 + p1) 1 M3 else f_X6_ways_83 p1 p2 (f_X6_ways_35 p1 p2 n) x3 x4 (296 + p1) (x4 - x4 / 10 * 10) M3
theorem o_X6_ways_35 {E : GE} {Q : Option Value → Mem → Prop} {p1 : Int32} {p2 : Int32} : ∀ (n : Nat) {x3 : Int32} {x4 : Int32} {M : Mem}, wp (f_X6_ways_35 p1 p2 n x3 x4 M) gIM Q → Ev E mi_X6_ways 35 [(0, .ref (ad E 54)), (1, .int p1), (2, .int p2), (3, .int x3), (4, .int x4)] [] M Q := by
  intro n
  induction n with
  | zero => intro _ _ _ h; exact absurd h wp_none
  | succ n ih =>
    intro x3 x4 M h
    unfold f_X6_ways_35 at h
    refine Ev.iload dX6_ways_35 4 rfl ?_
    refine Ev.bipush (v := 100) dX6_ways_37 rfl ?_
    refine Ev.icmp_ge (tgt := 125) dX6_ways_39 (by decide) (fun c1 => ?_) (fun c1 => ?_)
    · replace h := wp_t c1 h
      refine Ev.iload_n dX6_ways_125 rfl 3 rfl ?_
      exact Ev.ret dX6_ways_126 rfl rfl (wp_ret h)
    · replace h := wp_f c1 h
      refine Ev.aload_n dX6_ways_42 rfl 0 rfl ?_
      refine Ev.get dX6_ways_43 fl_X6_7 rfl (Nat.le_of_ble_eq_true rfl) (v := .ref (ad E 55)) rfl ?_
      refine Ev.sipush (v := 292) dX6_ways_46 rfl ?_
      refine Ev.iload_n dX6_ways_49 rfl 1 rfl ?_
      refine Ev.iadd dX6_ways_50 ?_
      refine Ev.iload dX6_ways_51 4 rfl ?_
      refine Ev.bipush (v := 10) dX6_ways_53 rfl ?_
      refine Ev.idiv dX6_ways_55 (by decide) ?_
      obtain ⟨g2, h⟩ := wp_inb h
      refine Ev.iast dX6_ways_56 rfl (Nat.le_of_ble_eq_true rfl) rfl g2 ?_
      refine Ev.topM (fun M3 eM3 => ?_)
      replace h := wp_lm h M3 eM3
      refine Ev.aload_n dX6_ways_57 rfl 0 rfl ?_
      refine Ev.get dX6_ways_58 fl_X6_7 rfl (Nat.le_of_ble_eq_true rfl) (v := .ref (ad E 55)) rfl ?_
      refine Ev.sipush (v := 296) dX6_ways_61 rfl ?_
      refine Ev.iload_n dX6_ways_64 rfl 1 rfl ?_
      refine Ev.iadd dX6_ways_65 ?_
      refine Ev.iload dX6_ways_66 4 rfl ?_
      refine Ev.bipush (v := 10) dX6_ways_68 rfl ?_
      refine Ev.irem dX6_ways_70 (by decide) ?_
      refine Ev.if_ne (tgt := 78) dX6_ways_71 (by decide) (fun c4 => ?_) (fun c4 => ?_)
      · replace h := wp_t c4 h
        refine Ev.iconst (v := 1) dX6_ways_74 rfl ?_
        refine Ev.goto (tgt := 83) dX6_ways_75 (by decide) ?_
        exact o_X6_ways_83 (fun _ _ _ h => ih h) h
      · replace h := wp_f c4 h
        refine Ev.iload dX6_ways_78 4 rfl ?_
        refine Ev.bipush (v := 10) dX6_ways_80 rfl ?_
        refine Ev.irem dX6_ways_82 (by decide) ?_
        exact o_X6_ways_83 (fun _ _ _ h => ih h) h
noncomputable def f_X6_ways (p1 : Int32) (p2 : Int32) (M : Mem) : Option (Int32 × Mem) := (f_X6_isTub p1 M).bind fun r1 => if r1 = 0 then some ((-1), M) else (f_X6_in p2.toInt64 0 3 M).bind fun r3 => if r3 = 0 then some ((-1), M) else (f_X6_copies 0 288 M).bind fun r5 => f_X6_ways_35 p1 p2 FU 0 0 r5
theorem o_X6_ways {E : GE} {Q : Option Value → Mem → Prop} {p1 : Int32} {p2 : Int32} {M : Mem} (h : wp (f_X6_ways p1 p2 M) gIM Q) : Runs E mi_X6_ways [.ref (ad E 54), .int p1, .int p2] M Q := by
  refine Runs.ofEv (by decide +kernel) (Nat.le_of_ble_eq_true rfl) ?_
  show Ev E mi_X6_ways 0 [(0, .ref (ad E 54)), (1, .int p1), (2, .int p2)] [] M Q
  unfold f_X6_ways at h
  refine Ev.aload_n dX6_ways_0 rfl 0 rfl ?_
  refine Ev.iload_n dX6_ways_1 rfl 1 rfl ?_
  obtain ⟨r1, er1, h⟩ := wp_bind h
  refine Ev.callV (k := 54) (as := [.int p1]) (rest := []) dX6_ways_2 cl_X6_173 mok_X6_isTub rfl (Nat.le_of_ble_eq_true rfl) (Nat.le_of_ble_eq_true rfl) ⟨Nat.le_of_ble_eq_true rfl, Nat.le_of_ble_eq_true rfl⟩ (Nat.le_of_ble_eq_true rfl) rfl rfl (o_X6_isTub ⟨r1, er1, ?_⟩)
  show Ev E mi_X6_ways 5 [(0, .ref (ad E 54)), (1, .int p1), (2, .int p2)] [.int r1] M Q
  refine Ev.if_eq (tgt := 20) dX6_ways_5 (by decide) (fun c2 => ?_) (fun c2 => ?_)
  · replace h := wp_t c2 h
    refine Ev.iconst (v := (-1)) dX6_ways_20 rfl ?_
    exact Ev.ret dX6_ways_21 rfl rfl (wp_ret h)
  · replace h := wp_f c2 h
    refine Ev.iload_n dX6_ways_8 rfl 2 rfl ?_
    refine Ev.i2l dX6_ways_9 ?_
    refine Ev.lconst (v := 0) dX6_ways_10 rfl ?_
    refine Ev.ldc2 dX6_ways_11 fc_X6_182 ?_
    obtain ⟨r3, er3, h⟩ := wp_bind h
    refine Ev.callS (as := [.long p2.toInt64, .long 0, .long 3]) (rest := []) dX6_ways_14 cl_X6_73 mos_X6_in ⟨Nat.le_of_ble_eq_true rfl, Nat.le_of_ble_eq_true rfl⟩ (Nat.le_of_ble_eq_true rfl) rfl rfl (o_X6_in ⟨r3, er3, ?_⟩)
    show Ev E mi_X6_ways 17 [(0, .ref (ad E 54)), (1, .int p1), (2, .int p2)] [.int r3] M Q
    refine Ev.if_ne (tgt := 22) dX6_ways_17 (by decide) (fun c4 => ?_) (fun c4 => ?_)
    · replace h := wp_t c4 h
      refine Ev.iconst (v := (-1)) dX6_ways_20 rfl ?_
      exact Ev.ret dX6_ways_21 rfl rfl (wp_ret h)
    · replace h := wp_f c4 h
      refine Ev.aload_n dX6_ways_22 rfl 0 rfl ?_
      refine Ev.iconst (v := 0) dX6_ways_23 rfl ?_
      refine Ev.sipush (v := 288) dX6_ways_24 rfl ?_
      obtain ⟨r5, er5, h⟩ := wp_bind h
      refine Ev.callV (k := 54) (as := [.int 0, .int 288]) (rest := []) dX6_ways_27 cl_X6_226 mok_X6_copies rfl (Nat.le_of_ble_eq_true rfl) (Nat.le_of_ble_eq_true rfl) ⟨Nat.le_of_ble_eq_true rfl, Nat.le_of_ble_eq_true rfl⟩ (Nat.le_of_ble_eq_true rfl) rfl rfl (o_X6_copies ⟨r5, er5, ?_⟩)
      show Ev E mi_X6_ways 30 [(0, .ref (ad E 54)), (1, .int p1), (2, .int p2)] [] r5 Q
      refine Ev.iconst (v := 0) dX6_ways_30 rfl ?_
      refine Ev.istore_n dX6_ways_31 rfl (Nat.le_of_ble_eq_true rfl) rfl ?_
      show Ev E mi_X6_ways 32 [(3, .int 0), (0, .ref (ad E 54)), (1, .int p1), (2, .int p2)] [] r5 Q
      refine Ev.iconst (v := 0) dX6_ways_32 rfl ?_
      refine Ev.istore dX6_ways_33 (Nat.le_of_ble_eq_true rfl) rfl ?_
      show Ev E mi_X6_ways 35 [(4, .int 0), (3, .int 0), (0, .ref (ad E 54)), (1, .int p1), (2, .int p2)] [] r5 Q
      refine Ev.sub [2, 3, 4, 1, 0] rfl ?_
      exact o_X6_ways_35 FU h

noncomputable def f_X6_place_94 (p1 : Int32) (p2 : Int32) (t36 : Int32 → Int32 → Int32 → Mem → Option (Int32 × Mem)) (x4 : Int32) (x5 : Int32) (s0 : Int32) (M : Mem) : Option (Int32 × Mem) := t36 s0 x4 (x5 + 1) M
theorem o_X6_place_94 {E : GE} {Q : Option Value → Mem → Prop} {p1 : Int32} {p2 : Int32} {t36 : Int32 → Int32 → Int32 → Mem → Option (Int32 × Mem)} {x4 : Int32} {x5 : Int32} {s0 : Int32} {M : Mem} (ht36 : ∀ (x3 : Int32) (x4 : Int32) (x5 : Int32) (M : Mem), wp (t36 x3 x4 x5 M) gIM Q → Ev E mi_X6_place 36 [(0, .ref (ad E 54)), (1, .int p1), (2, .int p2), (3, .int x3), (4, .int x4), (5, .int x5)] [] M Q) (h : wp (f_X6_place_94 p1 p2 t36 x4 x5 s0 M) gIM Q) : Ev E mi_X6_place 94 [(0, .ref (ad E 54)), (1, .int p1), (2, .int p2), (4, .int x4), (5, .int x5)] [.int s0] M Q := by
  unfold f_X6_place_94 at h
  refine Ev.istore_n dX6_place_94 rfl (Nat.le_of_ble_eq_true rfl) rfl ?_
  show Ev E mi_X6_place 95 [(3, .int s0), (0, .ref (ad E 54)), (1, .int p1), (2, .int p2), (4, .int x4), (5, .int x5)] [] M Q
  refine Ev.iinc (v := x5 + 1) dX6_place_95 5 rfl rfl (Nat.le_of_ble_eq_true rfl) rfl ?_
  show Ev E mi_X6_place 98 [(5, .int (x5 + 1)), (3, .int s0), (0, .ref (ad E 54)), (1, .int p1), (2, .int p2), (4, .int x4)] [] M Q
  refine Ev.goto (tgt := 36) dX6_place_98 (by decide) ?_
  refine Ev.sub [2, 3, 4, 1, 5, 0] rfl ?_
  exact ht36 _ _ _ _ h
noncomputable def f_X6_place_80 (p1 : Int32) (p2 : Int32) (t36 : Int32 → Int32 → Int32 → Mem → Option (Int32 × Mem)) (x3 : Int32) (x5 : Int32) (x6 : Int32) (s0 : Int32) (M : Mem) : Option (Int32 × Mem) := if x6 ≤ x3 then f_X6_place_94 p1 p2 t36 s0 x5 x3 M else f_X6_place_94 p1 p2 t36 s0 x5 x6 M
theorem o_X6_place_80 {E : GE} {Q : Option Value → Mem → Prop} {p1 : Int32} {p2 : Int32} {t36 : Int32 → Int32 → Int32 → Mem → Option (Int32 × Mem)} {x3 : Int32} {x5 : Int32} {x6 : Int32} {s0 : Int32} {M : Mem} (ht36 : ∀ (x3 : Int32) (x4 : Int32) (x5 : Int32) (M : Mem), wp (t36 x3 x4 x5 M) gIM Q → Ev E mi_X6_place 36 [(0, .ref (ad E 54)), (1, .int p1), (2, .int p2), (3, .int x3), (4, .int x4), (5, .int x5)] [] M Q) (h : wp (f_X6_place_80 p1 p2 t36 x3 x5 x6 s0 M) gIM Q) : Ev E mi_X6_place 80 [(0, .ref (ad E 54)), (1, .int p1), (2, .int p2), (3, .int x3), (5, .int x5), (6, .int x6)] [.int s0] M Q := by
  unfold f_X6_place_80 at h
  refine Ev.istore dX6_place_80 (Nat.le_of_ble_eq_true rfl) rfl ?_
  show Ev E mi_X6_place 82 [(4, .int s0), (0, .ref (ad E 54)), (1, .int p1), (2, .int p2), (3, .int x3), (5, .int x5), (6, .int x6)] [] M Q
  refine Ev.iload dX6_place_82 6 rfl ?_
  refine Ev.iload_n dX6_place_84 rfl 4 rfl ?_
  refine Ev.icmp_le (tgt := 93) dX6_place_85 (by decide) (fun c1 => ?_) (fun c1 => ?_)
  · replace h := wp_t c1 h
    refine Ev.iload_n dX6_place_93 rfl 4 rfl ?_
    refine Ev.sub [1, 2, 3, 0, 5] rfl ?_
    exact o_X6_place_94 ht36 h
  · replace h := wp_f c1 h
    refine Ev.iload dX6_place_88 6 rfl ?_
    refine Ev.goto (tgt := 94) dX6_place_90 (by decide) ?_
    refine Ev.sub [1, 2, 3, 0, 5] rfl ?_
    exact o_X6_place_94 ht36 h
noncomputable def f_X6_place_101 (p1 : Int32) (p2 : Int32) (x3 : Int32) (x4 : Int32) (M : Mem) : Option (Int32 × Mem) := if p2 = 0 then some (x4, M) else some (x3, M)
theorem o_X6_place_101 {E : GE} {Q : Option Value → Mem → Prop} {p1 : Int32} {p2 : Int32} {x3 : Int32} {x4 : Int32} {M : Mem} (h : wp (f_X6_place_101 p1 p2 x3 x4 M) gIM Q) : Ev E mi_X6_place 101 [(2, .int p2), (3, .int x3), (4, .int x4)] [] M Q := by
  unfold f_X6_place_101 at h
  refine Ev.iload_n dX6_place_101 rfl 0 rfl ?_
  refine Ev.if_ne (tgt := 110) dX6_place_102 (by decide) (fun c1 => ?_) (fun c1 => ?_)
  · replace h := wp_t c1 h
    refine Ev.iload dX6_place_105 2 rfl ?_
    refine Ev.goto (tgt := 111) dX6_place_107 (by decide) ?_
    exact Ev.ret dX6_place_111 rfl rfl (wp_ret h)
  · replace h := wp_f c1 h
    refine Ev.iload_n dX6_place_110 rfl 1 rfl ?_
    exact Ev.ret dX6_place_111 rfl rfl (wp_ret h)
noncomputable def f_X6_place_36 (p1 : Int32) (p2 : Int32) : Nat → Int32 → Int32 → Int32 → Mem → Option (Int32 × Mem)
  | 0, _, _, _, _ => none
  | n + 1, x3, x4, x5, M => if 9 < x5 then f_X6_place_101 p1 p2 x3 x4 M else inb (309 + (4 * p1)) 360 <| lm (up M 55 (309 + (4 * p1)).toNatClampNeg x5) fun M3 => (f_X6_worth 288 p1 M3).bind fun r4 => if r4.1 ≤ x3 then f_X6_place_80 p1 p2 (f_X6_place_36 p1 p2 n) x3 x5 r4.1 x4 r4.2 else f_X6_place_80 p1 p2 (f_X6_place_36 p1 p2 n) x3 x5 r4.1 x5 r4.2
theorem o_X6_place_36 {E : GE} {Q : Option Value → Mem → Prop} {p1 : Int32} {p2 : Int32} : ∀ (n : Nat) {x3 : Int32} {x4 : Int32} {x5 : Int32} {M : Mem}, wp (f_X6_place_36 p1 p2 n x3 x4 x5 M) gIM Q → Ev E mi_X6_place 36 [(0, .ref (ad E 54)), (1, .int p1), (2, .int p2), (3, .int x3), (4, .int x4), (5, .int x5)] [] M Q := by
  intro n
  induction n with
  | zero => intro _ _ _ _ h; exact absurd h wp_none
  | succ n ih =>
    intro x3 x4 x5 M h
    unfold f_X6_place_36 at h
    refine Ev.iload dX6_place_36 5 rfl ?_
    refine Ev.bipush (v := 9) dX6_place_38 rfl ?_
    refine Ev.icmp_gt (tgt := 101) dX6_place_40 (by decide) (fun c1 => ?_) (fun c1 => ?_)
    · replace h := wp_t c1 h
      refine Ev.sub [2, 3, 4] rfl ?_
      exact o_X6_place_101 h
    · replace h := wp_f c1 h
      refine Ev.aload_n dX6_place_43 rfl 0 rfl ?_
      refine Ev.get dX6_place_44 fl_X6_7 rfl (Nat.le_of_ble_eq_true rfl) (v := .ref (ad E 55)) rfl ?_
      refine Ev.sipush (v := 309) dX6_place_47 rfl ?_
      refine Ev.iconst (v := 4) dX6_place_50 rfl ?_
      refine Ev.iload_n dX6_place_51 rfl 1 rfl ?_
      refine Ev.imul dX6_place_52 ?_
      refine Ev.iadd dX6_place_53 ?_
      refine Ev.iload dX6_place_54 5 rfl ?_
      obtain ⟨g2, h⟩ := wp_inb h
      refine Ev.iast dX6_place_56 rfl (Nat.le_of_ble_eq_true rfl) rfl g2 ?_
      refine Ev.topM (fun M3 eM3 => ?_)
      replace h := wp_lm h M3 eM3
      refine Ev.aload_n dX6_place_57 rfl 0 rfl ?_
      refine Ev.sipush (v := 288) dX6_place_58 rfl ?_
      refine Ev.iload_n dX6_place_61 rfl 1 rfl ?_
      obtain ⟨r4, er4, h⟩ := wp_bind h
      refine Ev.callV (k := 54) (as := [.int 288, .int p1]) (rest := []) dX6_place_62 cl_X6_220 mok_X6_worth rfl (Nat.le_of_ble_eq_true rfl) (Nat.le_of_ble_eq_true rfl) ⟨Nat.le_of_ble_eq_true rfl, Nat.le_of_ble_eq_true rfl⟩ (Nat.le_of_ble_eq_true rfl) rfl rfl (o_X6_worth ⟨r4, er4, ?_⟩)
      show Ev E mi_X6_place 65 [(0, .ref (ad E 54)), (1, .int p1), (2, .int p2), (3, .int x3), (4, .int x4), (5, .int x5)] [.int r4.1] r4.2 Q
      refine Ev.istore dX6_place_65 (Nat.le_of_ble_eq_true rfl) rfl ?_
      show Ev E mi_X6_place 67 [(6, .int r4.1), (0, .ref (ad E 54)), (1, .int p1), (2, .int p2), (3, .int x3), (4, .int x4), (5, .int x5)] [] r4.2 Q
      refine Ev.iload dX6_place_67 0 rfl ?_
      refine Ev.iload_n dX6_place_69 rfl 4 rfl ?_
      refine Ev.icmp_le (tgt := 78) dX6_place_70 (by decide) (fun c5 => ?_) (fun c5 => ?_)
      · replace h := wp_t c5 h
        refine Ev.iload dX6_place_78 5 rfl ?_
        refine Ev.sub [1, 2, 3, 4, 6, 0] rfl ?_
        exact o_X6_place_80 (fun _ _ _ _ h => ih h) h
      · replace h := wp_f c5 h
        refine Ev.iload dX6_place_73 6 rfl ?_
        refine Ev.goto (tgt := 80) dX6_place_75 (by decide) ?_
        refine Ev.sub [1, 2, 3, 4, 6, 0] rfl ?_
        exact o_X6_place_80 (fun _ _ _ _ h => ih h) h
noncomputable def f_X6_place (p1 : Int32) (p2 : Int32) (M : Mem) : Option (Int32 × Mem) := (f_X6_isHeir p1 M).bind fun r1 => if r1 = 0 then some ((-1), M) else (f_X6_in p2.toInt64 0 1 M).bind fun r3 => if r3 = 0 then some ((-1), M) else (f_X6_copies 0 288 M).bind fun r5 => f_X6_place_36 p1 p2 FU (-1) 0 0 r5
theorem o_X6_place {E : GE} {Q : Option Value → Mem → Prop} {p1 : Int32} {p2 : Int32} {M : Mem} (h : wp (f_X6_place p1 p2 M) gIM Q) : Runs E mi_X6_place [.ref (ad E 54), .int p1, .int p2] M Q := by
  refine Runs.ofEv (by decide +kernel) (Nat.le_of_ble_eq_true rfl) ?_
  show Ev E mi_X6_place 0 [(0, .ref (ad E 54)), (1, .int p1), (2, .int p2)] [] M Q
  unfold f_X6_place at h
  refine Ev.aload_n dX6_place_0 rfl 0 rfl ?_
  refine Ev.iload_n dX6_place_1 rfl 1 rfl ?_
  obtain ⟨r1, er1, h⟩ := wp_bind h
  refine Ev.callV (k := 54) (as := [.int p1]) (rest := []) dX6_place_2 cl_X6_179 mok_X6_isHeir rfl (Nat.le_of_ble_eq_true rfl) (Nat.le_of_ble_eq_true rfl) ⟨Nat.le_of_ble_eq_true rfl, Nat.le_of_ble_eq_true rfl⟩ (Nat.le_of_ble_eq_true rfl) rfl rfl (o_X6_isHeir ⟨r1, er1, ?_⟩)
  show Ev E mi_X6_place 5 [(0, .ref (ad E 54)), (1, .int p1), (2, .int p2)] [.int r1] M Q
  refine Ev.if_eq (tgt := 18) dX6_place_5 (by decide) (fun c2 => ?_) (fun c2 => ?_)
  · replace h := wp_t c2 h
    refine Ev.iconst (v := (-1)) dX6_place_18 rfl ?_
    exact Ev.ret dX6_place_19 rfl rfl (wp_ret h)
  · replace h := wp_f c2 h
    refine Ev.iload_n dX6_place_8 rfl 2 rfl ?_
    refine Ev.i2l dX6_place_9 ?_
    refine Ev.lconst (v := 0) dX6_place_10 rfl ?_
    refine Ev.lconst (v := 1) dX6_place_11 rfl ?_
    obtain ⟨r3, er3, h⟩ := wp_bind h
    refine Ev.callS (as := [.long p2.toInt64, .long 0, .long 1]) (rest := []) dX6_place_12 cl_X6_73 mos_X6_in ⟨Nat.le_of_ble_eq_true rfl, Nat.le_of_ble_eq_true rfl⟩ (Nat.le_of_ble_eq_true rfl) rfl rfl (o_X6_in ⟨r3, er3, ?_⟩)
    show Ev E mi_X6_place 15 [(0, .ref (ad E 54)), (1, .int p1), (2, .int p2)] [.int r3] M Q
    refine Ev.if_ne (tgt := 20) dX6_place_15 (by decide) (fun c4 => ?_) (fun c4 => ?_)
    · replace h := wp_t c4 h
      refine Ev.iconst (v := (-1)) dX6_place_18 rfl ?_
      exact Ev.ret dX6_place_19 rfl rfl (wp_ret h)
    · replace h := wp_f c4 h
      refine Ev.aload_n dX6_place_20 rfl 0 rfl ?_
      refine Ev.iconst (v := 0) dX6_place_21 rfl ?_
      refine Ev.sipush (v := 288) dX6_place_22 rfl ?_
      obtain ⟨r5, er5, h⟩ := wp_bind h
      refine Ev.callV (k := 54) (as := [.int 0, .int 288]) (rest := []) dX6_place_25 cl_X6_226 mok_X6_copies rfl (Nat.le_of_ble_eq_true rfl) (Nat.le_of_ble_eq_true rfl) ⟨Nat.le_of_ble_eq_true rfl, Nat.le_of_ble_eq_true rfl⟩ (Nat.le_of_ble_eq_true rfl) rfl rfl (o_X6_copies ⟨r5, er5, ?_⟩)
      show Ev E mi_X6_place 28 [(0, .ref (ad E 54)), (1, .int p1), (2, .int p2)] [] r5 Q
      refine Ev.iconst (v := (-1)) dX6_place_28 rfl ?_
      refine Ev.istore_n dX6_place_29 rfl (Nat.le_of_ble_eq_true rfl) rfl ?_
      show Ev E mi_X6_place 30 [(3, .int (-1)), (0, .ref (ad E 54)), (1, .int p1), (2, .int p2)] [] r5 Q
      refine Ev.iconst (v := 0) dX6_place_30 rfl ?_
      refine Ev.istore dX6_place_31 (Nat.le_of_ble_eq_true rfl) rfl ?_
      show Ev E mi_X6_place 33 [(4, .int 0), (3, .int (-1)), (0, .ref (ad E 54)), (1, .int p1), (2, .int p2)] [] r5 Q
      refine Ev.iconst (v := 0) dX6_place_33 rfl ?_
      refine Ev.istore dX6_place_34 (Nat.le_of_ble_eq_true rfl) rfl ?_
      show Ev E mi_X6_place 36 [(5, .int 0), (4, .int 0), (3, .int (-1)), (0, .ref (ad E 54)), (1, .int p1), (2, .int p2)] [] r5 Q
      refine Ev.sub [3, 4, 5, 2, 1, 0] rfl ?_
      exact o_X6_place_36 FU h

noncomputable def f_X6_hook_32 (p1 : Int32) (p2 : Int32) : Nat → Int32 → Mem → Option (Int32 × Mem)
  | 0, _, _ => none
  | n + 1, x3, M => if 9 < x3 then some ((-4), M) else inb ((309 + (4 * p1)) + 3) 360 <| lm (up M 55 ((309 + (4 * p1)) + 3).toNatClampNeg x3) fun M3 => (f_X6_worth 288 p1 M3).bind fun r4 => if r4.1 < p2 then (f_X6_hook_32 p1 p2 n) (x3 + 1) r4.2 else some (x3, r4.2)
theorem o_X6_hook_32 {E : GE} {Q : Option Value → Mem → Prop} {p1 : Int32} {p2 : Int32} : ∀ (n : Nat) {x3 : Int32} {M : Mem}, wp (f_X6_hook_32 p1 p2 n x3 M) gIM Q → Ev E mi_X6_hook 32 [(0, .ref (ad E 54)), (1, .int p1), (2, .int p2), (3, .int x3)] [] M Q := by
  intro n
  induction n with
  | zero => intro _ _ h; exact absurd h wp_none
  | succ n ih =>
    intro x3 M h
    unfold f_X6_hook_32 at h
    refine Ev.iload_n dX6_hook_32 rfl 3 rfl ?_
    refine Ev.bipush (v := 9) dX6_hook_33 rfl ?_
    refine Ev.icmp_gt (tgt := 73) dX6_hook_35 (by decide) (fun c1 => ?_) (fun c1 => ?_)
    · replace h := wp_t c1 h
      refine Ev.bipush (v := (-4)) dX6_hook_73 rfl ?_
      exact Ev.ret dX6_hook_75 rfl rfl (wp_ret h)
    · replace h := wp_f c1 h
      refine Ev.aload_n dX6_hook_38 rfl 0 rfl ?_
      refine Ev.get dX6_hook_39 fl_X6_7 rfl (Nat.le_of_ble_eq_true rfl) (v := .ref (ad E 55)) rfl ?_
      refine Ev.sipush (v := 309) dX6_hook_42 rfl ?_
      refine Ev.iconst (v := 4) dX6_hook_45 rfl ?_
      refine Ev.iload_n dX6_hook_46 rfl 1 rfl ?_
      refine Ev.imul dX6_hook_47 ?_
      refine Ev.iadd dX6_hook_48 ?_
      refine Ev.iconst (v := 3) dX6_hook_49 rfl ?_
      refine Ev.iadd dX6_hook_50 ?_
      refine Ev.iload_n dX6_hook_51 rfl 3 rfl ?_
      obtain ⟨g2, h⟩ := wp_inb h
      refine Ev.iast dX6_hook_52 rfl (Nat.le_of_ble_eq_true rfl) rfl g2 ?_
      refine Ev.topM (fun M3 eM3 => ?_)
      replace h := wp_lm h M3 eM3
      refine Ev.aload_n dX6_hook_53 rfl 0 rfl ?_
      refine Ev.sipush (v := 288) dX6_hook_54 rfl ?_
      refine Ev.iload_n dX6_hook_57 rfl 1 rfl ?_
      obtain ⟨r4, er4, h⟩ := wp_bind h
      refine Ev.callV (k := 54) (as := [.int 288, .int p1]) (rest := []) dX6_hook_58 cl_X6_220 mok_X6_worth rfl (Nat.le_of_ble_eq_true rfl) (Nat.le_of_ble_eq_true rfl) ⟨Nat.le_of_ble_eq_true rfl, Nat.le_of_ble_eq_true rfl⟩ (Nat.le_of_ble_eq_true rfl) rfl rfl (o_X6_worth ⟨r4, er4, ?_⟩)
      show Ev E mi_X6_hook 61 [(0, .ref (ad E 54)), (1, .int p1), (2, .int p2), (3, .int x3)] [.int r4.1] r4.2 Q
      refine Ev.iload_n dX6_hook_61 rfl 2 rfl ?_
      refine Ev.icmp_lt (tgt := 67) dX6_hook_62 (by decide) (fun c5 => ?_) (fun c5 => ?_)
      · replace h := wp_t c5 h
        refine Ev.iinc (v := x3 + 1) dX6_hook_67 3 rfl rfl (Nat.le_of_ble_eq_true rfl) rfl ?_
        show Ev E mi_X6_hook 70 [(3, .int (x3 + 1)), (0, .ref (ad E 54)), (1, .int p1), (2, .int p2)] [] r4.2 Q
        refine Ev.goto (tgt := 32) dX6_hook_70 (by decide) ?_
        refine Ev.sub [1, 2, 3, 0] rfl ?_
        exact ih h
      · replace h := wp_f c5 h
        refine Ev.iload_n dX6_hook_65 rfl 3 rfl ?_
        exact Ev.ret dX6_hook_66 rfl rfl (wp_ret h)
noncomputable def f_X6_hook (p1 : Int32) (p2 : Int32) (M : Mem) : Option (Int32 × Mem) := (f_X6_isHeir p1 M).bind fun r1 => if r1 = 0 then some ((-1), M) else (f_X6_in p2.toInt64 1 400 M).bind fun r3 => if r3 = 0 then some ((-1), M) else (f_X6_copies 0 288 M).bind fun r5 => f_X6_hook_32 p1 p2 FU 0 r5
theorem o_X6_hook {E : GE} {Q : Option Value → Mem → Prop} {p1 : Int32} {p2 : Int32} {M : Mem} (h : wp (f_X6_hook p1 p2 M) gIM Q) : Runs E mi_X6_hook [.ref (ad E 54), .int p1, .int p2] M Q := by
  refine Runs.ofEv (by decide +kernel) (Nat.le_of_ble_eq_true rfl) ?_
  show Ev E mi_X6_hook 0 [(0, .ref (ad E 54)), (1, .int p1), (2, .int p2)] [] M Q
  unfold f_X6_hook at h
  refine Ev.aload_n dX6_hook_0 rfl 0 rfl ?_
  refine Ev.iload_n dX6_hook_1 rfl 1 rfl ?_
  obtain ⟨r1, er1, h⟩ := wp_bind h
  refine Ev.callV (k := 54) (as := [.int p1]) (rest := []) dX6_hook_2 cl_X6_179 mok_X6_isHeir rfl (Nat.le_of_ble_eq_true rfl) (Nat.le_of_ble_eq_true rfl) ⟨Nat.le_of_ble_eq_true rfl, Nat.le_of_ble_eq_true rfl⟩ (Nat.le_of_ble_eq_true rfl) rfl rfl (o_X6_isHeir ⟨r1, er1, ?_⟩)
  show Ev E mi_X6_hook 5 [(0, .ref (ad E 54)), (1, .int p1), (2, .int p2)] [.int r1] M Q
  refine Ev.if_eq (tgt := 20) dX6_hook_5 (by decide) (fun c2 => ?_) (fun c2 => ?_)
  · replace h := wp_t c2 h
    refine Ev.iconst (v := (-1)) dX6_hook_20 rfl ?_
    exact Ev.ret dX6_hook_21 rfl rfl (wp_ret h)
  · replace h := wp_f c2 h
    refine Ev.iload_n dX6_hook_8 rfl 2 rfl ?_
    refine Ev.i2l dX6_hook_9 ?_
    refine Ev.lconst (v := 1) dX6_hook_10 rfl ?_
    refine Ev.ldc2 dX6_hook_11 fc_X6_233 ?_
    obtain ⟨r3, er3, h⟩ := wp_bind h
    refine Ev.callS (as := [.long p2.toInt64, .long 1, .long 400]) (rest := []) dX6_hook_14 cl_X6_73 mos_X6_in ⟨Nat.le_of_ble_eq_true rfl, Nat.le_of_ble_eq_true rfl⟩ (Nat.le_of_ble_eq_true rfl) rfl rfl (o_X6_in ⟨r3, er3, ?_⟩)
    show Ev E mi_X6_hook 17 [(0, .ref (ad E 54)), (1, .int p1), (2, .int p2)] [.int r3] M Q
    refine Ev.if_ne (tgt := 22) dX6_hook_17 (by decide) (fun c4 => ?_) (fun c4 => ?_)
    · replace h := wp_t c4 h
      refine Ev.iconst (v := (-1)) dX6_hook_20 rfl ?_
      exact Ev.ret dX6_hook_21 rfl rfl (wp_ret h)
    · replace h := wp_f c4 h
      refine Ev.aload_n dX6_hook_22 rfl 0 rfl ?_
      refine Ev.iconst (v := 0) dX6_hook_23 rfl ?_
      refine Ev.sipush (v := 288) dX6_hook_24 rfl ?_
      obtain ⟨r5, er5, h⟩ := wp_bind h
      refine Ev.callV (k := 54) (as := [.int 0, .int 288]) (rest := []) dX6_hook_27 cl_X6_226 mok_X6_copies rfl (Nat.le_of_ble_eq_true rfl) (Nat.le_of_ble_eq_true rfl) ⟨Nat.le_of_ble_eq_true rfl, Nat.le_of_ble_eq_true rfl⟩ (Nat.le_of_ble_eq_true rfl) rfl rfl (o_X6_copies ⟨r5, er5, ?_⟩)
      show Ev E mi_X6_hook 30 [(0, .ref (ad E 54)), (1, .int p1), (2, .int p2)] [] r5 Q
      refine Ev.iconst (v := 0) dX6_hook_30 rfl ?_
      refine Ev.istore_n dX6_hook_31 rfl (Nat.le_of_ble_eq_true rfl) rfl ?_
      show Ev E mi_X6_hook 32 [(3, .int 0), (0, .ref (ad E 54)), (1, .int p1), (2, .int p2)] [] r5 Q
      refine Ev.sub [1, 2, 3, 0] rfl ?_
      exact o_X6_hook_32 FU h

noncomputable def f_X6_fire_114 (p1 : Int32) (p2 : Int32) (t52 : Int32 → Int32 → Int32 → Int32 → Mem → Option (Int32 × Mem)) (x4 : Int32) (x5 : Int32) (x6 : Int32) (s0 : Int32) (M : Mem) : Option (Int32 × Mem) := t52 s0 x4 x5 (x6 + 1) M
theorem o_X6_fire_114 {E : GE} {Q : Option Value → Mem → Prop} {p1 : Int32} {p2 : Int32} {t52 : Int32 → Int32 → Int32 → Int32 → Mem → Option (Int32 × Mem)} {x4 : Int32} {x5 : Int32} {x6 : Int32} {s0 : Int32} {M : Mem} (ht52 : ∀ (x3 : Int32) (x4 : Int32) (x5 : Int32) (x6 : Int32) (M : Mem), wp (t52 x3 x4 x5 x6 M) gIM Q → Ev E mi_X6_fire 52 [(0, .ref (ad E 54)), (1, .int p1), (2, .int p2), (3, .int x3), (4, .int x4), (5, .int x5), (6, .int x6)] [] M Q) (h : wp (f_X6_fire_114 p1 p2 t52 x4 x5 x6 s0 M) gIM Q) : Ev E mi_X6_fire 114 [(0, .ref (ad E 54)), (1, .int p1), (2, .int p2), (4, .int x4), (5, .int x5), (6, .int x6)] [.int s0] M Q := by
  unfold f_X6_fire_114 at h
  refine Ev.istore_n dX6_fire_114 rfl (Nat.le_of_ble_eq_true rfl) rfl ?_
  show Ev E mi_X6_fire 115 [(3, .int s0), (0, .ref (ad E 54)), (1, .int p1), (2, .int p2), (4, .int x4), (5, .int x5), (6, .int x6)] [] M Q
  refine Ev.iinc (v := x6 + 1) dX6_fire_115 6 rfl rfl (Nat.le_of_ble_eq_true rfl) rfl ?_
  show Ev E mi_X6_fire 118 [(6, .int (x6 + 1)), (3, .int s0), (0, .ref (ad E 54)), (1, .int p1), (2, .int p2), (4, .int x4), (5, .int x5)] [] M Q
  refine Ev.goto (tgt := 52) dX6_fire_118 (by decide) ?_
  refine Ev.sub [2, 3, 4, 1, 5, 6, 0] rfl ?_
  exact ht52 _ _ _ _ _ h
noncomputable def f_X6_fire_100 (p1 : Int32) (p2 : Int32) (t52 : Int32 → Int32 → Int32 → Int32 → Mem → Option (Int32 × Mem)) (x3 : Int32) (x5 : Int32) (x6 : Int32) (x7 : Int32) (s0 : Int32) (M : Mem) : Option (Int32 × Mem) := if x7 ≤ x3 then f_X6_fire_114 p1 p2 t52 s0 x5 x6 x3 M else f_X6_fire_114 p1 p2 t52 s0 x5 x6 x7 M
theorem o_X6_fire_100 {E : GE} {Q : Option Value → Mem → Prop} {p1 : Int32} {p2 : Int32} {t52 : Int32 → Int32 → Int32 → Int32 → Mem → Option (Int32 × Mem)} {x3 : Int32} {x5 : Int32} {x6 : Int32} {x7 : Int32} {s0 : Int32} {M : Mem} (ht52 : ∀ (x3 : Int32) (x4 : Int32) (x5 : Int32) (x6 : Int32) (M : Mem), wp (t52 x3 x4 x5 x6 M) gIM Q → Ev E mi_X6_fire 52 [(0, .ref (ad E 54)), (1, .int p1), (2, .int p2), (3, .int x3), (4, .int x4), (5, .int x5), (6, .int x6)] [] M Q) (h : wp (f_X6_fire_100 p1 p2 t52 x3 x5 x6 x7 s0 M) gIM Q) : Ev E mi_X6_fire 100 [(0, .ref (ad E 54)), (1, .int p1), (2, .int p2), (3, .int x3), (5, .int x5), (6, .int x6), (7, .int x7)] [.int s0] M Q := by
  unfold f_X6_fire_100 at h
  refine Ev.istore dX6_fire_100 (Nat.le_of_ble_eq_true rfl) rfl ?_
  show Ev E mi_X6_fire 102 [(4, .int s0), (0, .ref (ad E 54)), (1, .int p1), (2, .int p2), (3, .int x3), (5, .int x5), (6, .int x6), (7, .int x7)] [] M Q
  refine Ev.iload dX6_fire_102 7 rfl ?_
  refine Ev.iload_n dX6_fire_104 rfl 4 rfl ?_
  refine Ev.icmp_le (tgt := 113) dX6_fire_105 (by decide) (fun c1 => ?_) (fun c1 => ?_)
  · replace h := wp_t c1 h
    refine Ev.iload_n dX6_fire_113 rfl 4 rfl ?_
    refine Ev.sub [1, 2, 3, 0, 5, 6] rfl ?_
    exact o_X6_fire_114 ht52 h
  · replace h := wp_f c1 h
    refine Ev.iload dX6_fire_108 7 rfl ?_
    refine Ev.goto (tgt := 114) dX6_fire_110 (by decide) ?_
    refine Ev.sub [1, 2, 3, 0, 5, 6] rfl ?_
    exact o_X6_fire_114 ht52 h
noncomputable def f_X6_fire_121 (p1 : Int32) (p2 : Int32) (t34 : Int32 → Int32 → Int32 → Mem → Option (Int32 × Mem)) (x3 : Int32) (x4 : Int32) (x5 : Int32) (M : Mem) : Option (Int32 × Mem) := t34 x3 x4 (x5 + 1) M
theorem o_X6_fire_121 {E : GE} {Q : Option Value → Mem → Prop} {p1 : Int32} {p2 : Int32} {t34 : Int32 → Int32 → Int32 → Mem → Option (Int32 × Mem)} {x3 : Int32} {x4 : Int32} {x5 : Int32} {M : Mem} (ht34 : ∀ (x3 : Int32) (x4 : Int32) (x5 : Int32) (M : Mem), wp (t34 x3 x4 x5 M) gIM Q → Ev E mi_X6_fire 34 [(0, .ref (ad E 54)), (1, .int p1), (2, .int p2), (3, .int x3), (4, .int x4), (5, .int x5)] [] M Q) (h : wp (f_X6_fire_121 p1 p2 t34 x3 x4 x5 M) gIM Q) : Ev E mi_X6_fire 121 [(0, .ref (ad E 54)), (1, .int p1), (2, .int p2), (3, .int x3), (4, .int x4), (5, .int x5)] [] M Q := by
  unfold f_X6_fire_121 at h
  refine Ev.iinc (v := x5 + 1) dX6_fire_121 5 rfl rfl (Nat.le_of_ble_eq_true rfl) rfl ?_
  show Ev E mi_X6_fire 124 [(5, .int (x5 + 1)), (0, .ref (ad E 54)), (1, .int p1), (2, .int p2), (3, .int x3), (4, .int x4)] [] M Q
  refine Ev.goto (tgt := 34) dX6_fire_124 (by decide) ?_
  refine Ev.sub [1, 2, 3, 4, 5, 0] rfl ?_
  exact ht34 _ _ _ _ h
noncomputable def f_X6_fire_52 (p1 : Int32) (p2 : Int32) (t34 : Int32 → Int32 → Int32 → Mem → Option (Int32 × Mem)) : Nat → Int32 → Int32 → Int32 → Int32 → Mem → Option (Int32 × Mem)
  | 0, _, _, _, _, _ => none
  | n + 1, x3, x4, x5, x6, M => if 4 < x6 then f_X6_fire_121 p1 p2 t34 x3 x4 x5 M else inb (335 + x5) 360 <| lm (up M 55 (335 + x5).toNatClampNeg x6) fun M3 => (f_X6_worth 288 p1 M3).bind fun r4 => if r4.1 ≤ x3 then f_X6_fire_100 p1 p2 (f_X6_fire_52 p1 p2 t34 n) x3 x5 x6 r4.1 x4 r4.2 else f_X6_fire_100 p1 p2 (f_X6_fire_52 p1 p2 t34 n) x3 x5 x6 r4.1 ((10 * x5) + x6) r4.2
theorem o_X6_fire_52 {E : GE} {Q : Option Value → Mem → Prop} {p1 : Int32} {p2 : Int32} {t34 : Int32 → Int32 → Int32 → Mem → Option (Int32 × Mem)} (ht34 : ∀ (x3 : Int32) (x4 : Int32) (x5 : Int32) (M : Mem), wp (t34 x3 x4 x5 M) gIM Q → Ev E mi_X6_fire 34 [(0, .ref (ad E 54)), (1, .int p1), (2, .int p2), (3, .int x3), (4, .int x4), (5, .int x5)] [] M Q) : ∀ (n : Nat) {x3 : Int32} {x4 : Int32} {x5 : Int32} {x6 : Int32} {M : Mem}, wp (f_X6_fire_52 p1 p2 t34 n x3 x4 x5 x6 M) gIM Q → Ev E mi_X6_fire 52 [(0, .ref (ad E 54)), (1, .int p1), (2, .int p2), (3, .int x3), (4, .int x4), (5, .int x5), (6, .int x6)] [] M Q := by
  intro n
  induction n with
  | zero => intro _ _ _ _ _ h; exact absurd h wp_none
  | succ n ih =>
    intro x3 x4 x5 x6 M h
    unfold f_X6_fire_52 at h
    refine Ev.iload dX6_fire_52 6 rfl ?_
    refine Ev.iconst (v := 4) dX6_fire_54 rfl ?_
    refine Ev.icmp_gt (tgt := 121) dX6_fire_55 (by decide) (fun c1 => ?_) (fun c1 => ?_)
    · replace h := wp_t c1 h
      refine Ev.sub [0, 1, 2, 3, 4, 5] rfl ?_
      exact o_X6_fire_121 ht34 h
    · replace h := wp_f c1 h
      refine Ev.aload_n dX6_fire_58 rfl 0 rfl ?_
      refine Ev.get dX6_fire_59 fl_X6_7 rfl (Nat.le_of_ble_eq_true rfl) (v := .ref (ad E 55)) rfl ?_
      refine Ev.sipush (v := 335) dX6_fire_62 rfl ?_
      refine Ev.iload dX6_fire_65 5 rfl ?_
      refine Ev.iadd dX6_fire_67 ?_
      refine Ev.iload dX6_fire_68 6 rfl ?_
      obtain ⟨g2, h⟩ := wp_inb h
      refine Ev.iast dX6_fire_70 rfl (Nat.le_of_ble_eq_true rfl) rfl g2 ?_
      refine Ev.topM (fun M3 eM3 => ?_)
      replace h := wp_lm h M3 eM3
      refine Ev.aload_n dX6_fire_71 rfl 0 rfl ?_
      refine Ev.sipush (v := 288) dX6_fire_72 rfl ?_
      refine Ev.iload_n dX6_fire_75 rfl 1 rfl ?_
      obtain ⟨r4, er4, h⟩ := wp_bind h
      refine Ev.callV (k := 54) (as := [.int 288, .int p1]) (rest := []) dX6_fire_76 cl_X6_220 mok_X6_worth rfl (Nat.le_of_ble_eq_true rfl) (Nat.le_of_ble_eq_true rfl) ⟨Nat.le_of_ble_eq_true rfl, Nat.le_of_ble_eq_true rfl⟩ (Nat.le_of_ble_eq_true rfl) rfl rfl (o_X6_worth ⟨r4, er4, ?_⟩)
      show Ev E mi_X6_fire 79 [(0, .ref (ad E 54)), (1, .int p1), (2, .int p2), (3, .int x3), (4, .int x4), (5, .int x5), (6, .int x6)] [.int r4.1] r4.2 Q
      refine Ev.istore dX6_fire_79 (Nat.le_of_ble_eq_true rfl) rfl ?_
      show Ev E mi_X6_fire 81 [(7, .int r4.1), (0, .ref (ad E 54)), (1, .int p1), (2, .int p2), (3, .int x3), (4, .int x4), (5, .int x5), (6, .int x6)] [] r4.2 Q
      refine Ev.iload dX6_fire_81 0 rfl ?_
      refine Ev.iload_n dX6_fire_83 rfl 4 rfl ?_
      refine Ev.icmp_le (tgt := 98) dX6_fire_84 (by decide) (fun c5 => ?_) (fun c5 => ?_)
      · replace h := wp_t c5 h
        refine Ev.iload dX6_fire_98 5 rfl ?_
        refine Ev.sub [1, 2, 3, 4, 6, 7, 0] rfl ?_
        exact o_X6_fire_100 (fun _ _ _ _ _ h => ih h) h
      · replace h := wp_f c5 h
        refine Ev.bipush (v := 10) dX6_fire_87 rfl ?_
        refine Ev.iload dX6_fire_89 6 rfl ?_
        refine Ev.imul dX6_fire_91 ?_
        refine Ev.iload dX6_fire_92 7 rfl ?_
        refine Ev.iadd dX6_fire_94 ?_
        refine Ev.goto (tgt := 100) dX6_fire_95 (by decide) ?_
        refine Ev.sub [1, 2, 3, 4, 6, 7, 0] rfl ?_
        exact o_X6_fire_100 (fun _ _ _ _ _ h => ih h) h
noncomputable def f_X6_fire_138 (p1 : Int32) (p2 : Int32) (x4 : Int32) (M : Mem) : Option (Int32 × Mem) := some (x4, M)
theorem o_X6_fire_138 {E : GE} {Q : Option Value → Mem → Prop} {p1 : Int32} {p2 : Int32} {x4 : Int32} {M : Mem} (h : wp (f_X6_fire_138 p1 p2 x4 M) gIM Q) : Ev E mi_X6_fire 138 [(4, .int x4)] [] M Q := by
  unfold f_X6_fire_138 at h
  refine Ev.iload dX6_fire_138 0 rfl ?_
  refine Ev.goto (tgt := 144) dX6_fire_140 (by decide) ?_
  exact Ev.ret dX6_fire_144 rfl rfl (wp_ret h)
noncomputable def f_X6_fire_127 (p1 : Int32) (p2 : Int32) (x3 : Int32) (x4 : Int32) (M : Mem) : Option (Int32 × Mem) := if x4 = (-4) then f_X6_fire_138 p1 p2 x4 M else if p2 = 0 then f_X6_fire_138 p1 p2 x4 M else some (x3, M)
theorem o_X6_fire_127 {E : GE} {Q : Option Value → Mem → Prop} {p1 : Int32} {p2 : Int32} {x3 : Int32} {x4 : Int32} {M : Mem} (h : wp (f_X6_fire_127 p1 p2 x3 x4 M) gIM Q) : Ev E mi_X6_fire 127 [(2, .int p2), (3, .int x3), (4, .int x4)] [] M Q := by
  unfold f_X6_fire_127 at h
  refine Ev.iload dX6_fire_127 2 rfl ?_
  refine Ev.bipush (v := (-4)) dX6_fire_129 rfl ?_
  refine Ev.icmp_eq (tgt := 138) dX6_fire_131 (by decide) (fun c1 => ?_) (fun c1 => ?_)
  · replace h := wp_t c1 h
    refine Ev.sub [2] rfl ?_
    exact o_X6_fire_138 h
  · replace h := wp_f c1 h
    refine Ev.iload_n dX6_fire_134 rfl 0 rfl ?_
    refine Ev.if_ne (tgt := 143) dX6_fire_135 (by decide) (fun c2 => ?_) (fun c2 => ?_)
    · replace h := wp_t c2 h
      refine Ev.sub [2] rfl ?_
      exact o_X6_fire_138 h
    · replace h := wp_f c2 h
      refine Ev.iload_n dX6_fire_143 rfl 1 rfl ?_
      exact Ev.ret dX6_fire_144 rfl rfl (wp_ret h)
noncomputable def f_X6_fire_34 (p1 : Int32) (p2 : Int32) : Nat → Int32 → Int32 → Int32 → Mem → Option (Int32 × Mem)
  | 0, _, _, _, _ => none
  | n + 1, x3, x4, x5, M => if 24 ≤ x5 then f_X6_fire_127 p1 p2 x3 x4 M else (f_X6_copies 0 288 M).bind fun r2 => f_X6_fire_52 p1 p2 (f_X6_fire_34 p1 p2 n) FU x3 x4 x5 1 r2
theorem o_X6_fire_34 {E : GE} {Q : Option Value → Mem → Prop} {p1 : Int32} {p2 : Int32} : ∀ (n : Nat) {x3 : Int32} {x4 : Int32} {x5 : Int32} {M : Mem}, wp (f_X6_fire_34 p1 p2 n x3 x4 x5 M) gIM Q → Ev E mi_X6_fire 34 [(0, .ref (ad E 54)), (1, .int p1), (2, .int p2), (3, .int x3), (4, .int x4), (5, .int x5)] [] M Q := by
  intro n
  induction n with
  | zero => intro _ _ _ _ h; exact absurd h wp_none
  | succ n ih =>
    intro x3 x4 x5 M h
    unfold f_X6_fire_34 at h
    refine Ev.iload dX6_fire_34 5 rfl ?_
    refine Ev.bipush (v := 24) dX6_fire_36 rfl ?_
    refine Ev.icmp_ge (tgt := 127) dX6_fire_38 (by decide) (fun c1 => ?_) (fun c1 => ?_)
    · replace h := wp_t c1 h
      refine Ev.sub [2, 3, 4] rfl ?_
      exact o_X6_fire_127 h
    · replace h := wp_f c1 h
      refine Ev.aload_n dX6_fire_41 rfl 0 rfl ?_
      refine Ev.iconst (v := 0) dX6_fire_42 rfl ?_
      refine Ev.sipush (v := 288) dX6_fire_43 rfl ?_
      obtain ⟨r2, er2, h⟩ := wp_bind h
      refine Ev.callV (k := 54) (as := [.int 0, .int 288]) (rest := []) dX6_fire_46 cl_X6_226 mok_X6_copies rfl (Nat.le_of_ble_eq_true rfl) (Nat.le_of_ble_eq_true rfl) ⟨Nat.le_of_ble_eq_true rfl, Nat.le_of_ble_eq_true rfl⟩ (Nat.le_of_ble_eq_true rfl) rfl rfl (o_X6_copies ⟨r2, er2, ?_⟩)
      show Ev E mi_X6_fire 49 [(0, .ref (ad E 54)), (1, .int p1), (2, .int p2), (3, .int x3), (4, .int x4), (5, .int x5)] [] r2 Q
      refine Ev.iconst (v := 1) dX6_fire_49 rfl ?_
      refine Ev.istore dX6_fire_50 (Nat.le_of_ble_eq_true rfl) rfl ?_
      show Ev E mi_X6_fire 52 [(6, .int 1), (0, .ref (ad E 54)), (1, .int p1), (2, .int p2), (3, .int x3), (4, .int x4), (5, .int x5)] [] r2 Q
      refine Ev.sub [1, 2, 3, 4, 5, 6, 0] rfl ?_
      exact o_X6_fire_52 (fun _ _ _ _ h => ih h) FU h
noncomputable def f_X6_fire (p1 : Int32) (p2 : Int32) (M : Mem) : Option (Int32 × Mem) := (f_X6_isHeir p1 M).bind fun r1 => if r1 = 0 then some ((-1), M) else (f_X6_in p2.toInt64 0 1 M).bind fun r3 => if r3 = 0 then some ((-1), M) else (f_X6_worth 0 p1 M).bind fun r5 => f_X6_fire_34 p1 p2 FU r5.1 (-4) 0 r5.2
theorem o_X6_fire {E : GE} {Q : Option Value → Mem → Prop} {p1 : Int32} {p2 : Int32} {M : Mem} (h : wp (f_X6_fire p1 p2 M) gIM Q) : Runs E mi_X6_fire [.ref (ad E 54), .int p1, .int p2] M Q := by
  refine Runs.ofEv (by decide +kernel) (Nat.le_of_ble_eq_true rfl) ?_
  show Ev E mi_X6_fire 0 [(0, .ref (ad E 54)), (1, .int p1), (2, .int p2)] [] M Q
  unfold f_X6_fire at h
  refine Ev.aload_n dX6_fire_0 rfl 0 rfl ?_
  refine Ev.iload_n dX6_fire_1 rfl 1 rfl ?_
  obtain ⟨r1, er1, h⟩ := wp_bind h
  refine Ev.callV (k := 54) (as := [.int p1]) (rest := []) dX6_fire_2 cl_X6_179 mok_X6_isHeir rfl (Nat.le_of_ble_eq_true rfl) (Nat.le_of_ble_eq_true rfl) ⟨Nat.le_of_ble_eq_true rfl, Nat.le_of_ble_eq_true rfl⟩ (Nat.le_of_ble_eq_true rfl) rfl rfl (o_X6_isHeir ⟨r1, er1, ?_⟩)
  show Ev E mi_X6_fire 5 [(0, .ref (ad E 54)), (1, .int p1), (2, .int p2)] [.int r1] M Q
  refine Ev.if_eq (tgt := 18) dX6_fire_5 (by decide) (fun c2 => ?_) (fun c2 => ?_)
  · replace h := wp_t c2 h
    refine Ev.iconst (v := (-1)) dX6_fire_18 rfl ?_
    exact Ev.ret dX6_fire_19 rfl rfl (wp_ret h)
  · replace h := wp_f c2 h
    refine Ev.iload_n dX6_fire_8 rfl 2 rfl ?_
    refine Ev.i2l dX6_fire_9 ?_
    refine Ev.lconst (v := 0) dX6_fire_10 rfl ?_
    refine Ev.lconst (v := 1) dX6_fire_11 rfl ?_
    obtain ⟨r3, er3, h⟩ := wp_bind h
    refine Ev.callS (as := [.long p2.toInt64, .long 0, .long 1]) (rest := []) dX6_fire_12 cl_X6_73 mos_X6_in ⟨Nat.le_of_ble_eq_true rfl, Nat.le_of_ble_eq_true rfl⟩ (Nat.le_of_ble_eq_true rfl) rfl rfl (o_X6_in ⟨r3, er3, ?_⟩)
    show Ev E mi_X6_fire 15 [(0, .ref (ad E 54)), (1, .int p1), (2, .int p2)] [.int r3] M Q
    refine Ev.if_ne (tgt := 20) dX6_fire_15 (by decide) (fun c4 => ?_) (fun c4 => ?_)
    · replace h := wp_t c4 h
      refine Ev.iconst (v := (-1)) dX6_fire_18 rfl ?_
      exact Ev.ret dX6_fire_19 rfl rfl (wp_ret h)
    · replace h := wp_f c4 h
      refine Ev.aload_n dX6_fire_20 rfl 0 rfl ?_
      refine Ev.iconst (v := 0) dX6_fire_21 rfl ?_
      refine Ev.iload_n dX6_fire_22 rfl 1 rfl ?_
      obtain ⟨r5, er5, h⟩ := wp_bind h
      refine Ev.callV (k := 54) (as := [.int 0, .int p1]) (rest := []) dX6_fire_23 cl_X6_220 mok_X6_worth rfl (Nat.le_of_ble_eq_true rfl) (Nat.le_of_ble_eq_true rfl) ⟨Nat.le_of_ble_eq_true rfl, Nat.le_of_ble_eq_true rfl⟩ (Nat.le_of_ble_eq_true rfl) rfl rfl (o_X6_worth ⟨r5, er5, ?_⟩)
      show Ev E mi_X6_fire 26 [(0, .ref (ad E 54)), (1, .int p1), (2, .int p2)] [.int r5.1] r5.2 Q
      refine Ev.istore_n dX6_fire_26 rfl (Nat.le_of_ble_eq_true rfl) rfl ?_
      show Ev E mi_X6_fire 27 [(3, .int r5.1), (0, .ref (ad E 54)), (1, .int p1), (2, .int p2)] [] r5.2 Q
      refine Ev.bipush (v := (-4)) dX6_fire_27 rfl ?_
      refine Ev.istore dX6_fire_29 (Nat.le_of_ble_eq_true rfl) rfl ?_
      show Ev E mi_X6_fire 31 [(4, .int (-4)), (3, .int r5.1), (0, .ref (ad E 54)), (1, .int p1), (2, .int p2)] [] r5.2 Q
      refine Ev.iconst (v := 0) dX6_fire_31 rfl ?_
      refine Ev.istore dX6_fire_32 (Nat.le_of_ble_eq_true rfl) rfl ?_
      show Ev E mi_X6_fire 34 [(5, .int 0), (4, .int (-4)), (3, .int r5.1), (0, .ref (ad E 54)), (1, .int p1), (2, .int p2)] [] r5.2 Q
      refine Ev.sub [3, 4, 5, 2, 1, 0] rfl ?_
      exact o_X6_fire_34 FU h

noncomputable def f_X6_moon_79 (p1 : Int32) (t27 : Int32 → Int32 → Int32 → Mem → Option (Int32 × Mem)) (x3 : Int32) (x4 : Int32) (s0 : Int32) (M : Mem) : Option (Int32 × Mem) := t27 s0 x3 (x4 + 1) M
theorem o_X6_moon_79 {E : GE} {Q : Option Value → Mem → Prop} {p1 : Int32} {t27 : Int32 → Int32 → Int32 → Mem → Option (Int32 × Mem)} {x3 : Int32} {x4 : Int32} {s0 : Int32} {M : Mem} (ht27 : ∀ (x2 : Int32) (x3 : Int32) (x4 : Int32) (M : Mem), wp (t27 x2 x3 x4 M) gIM Q → Ev E mi_X6_moon 27 [(0, .ref (ad E 54)), (1, .int p1), (2, .int x2), (3, .int x3), (4, .int x4)] [] M Q) (h : wp (f_X6_moon_79 p1 t27 x3 x4 s0 M) gIM Q) : Ev E mi_X6_moon 79 [(0, .ref (ad E 54)), (1, .int p1), (3, .int x3), (4, .int x4)] [.int s0] M Q := by
  unfold f_X6_moon_79 at h
  refine Ev.istore_n dX6_moon_79 rfl (Nat.le_of_ble_eq_true rfl) rfl ?_
  show Ev E mi_X6_moon 80 [(2, .int s0), (0, .ref (ad E 54)), (1, .int p1), (3, .int x3), (4, .int x4)] [] M Q
  refine Ev.iinc (v := x4 + 1) dX6_moon_80 4 rfl rfl (Nat.le_of_ble_eq_true rfl) rfl ?_
  show Ev E mi_X6_moon 83 [(4, .int (x4 + 1)), (2, .int s0), (0, .ref (ad E 54)), (1, .int p1), (3, .int x3)] [] M Q
  refine Ev.goto (tgt := 27) dX6_moon_83 (by decide) ?_
  refine Ev.sub [2, 3, 1, 4, 0] rfl ?_
  exact ht27 _ _ _ _ h
noncomputable def f_X6_moon_66 (p1 : Int32) (t27 : Int32 → Int32 → Int32 → Mem → Option (Int32 × Mem)) (x2 : Int32) (x4 : Int32) (x5 : Int32) (s0 : Int32) (M : Mem) : Option (Int32 × Mem) := if x5 ≤ x2 then f_X6_moon_79 p1 t27 s0 x4 x2 M else f_X6_moon_79 p1 t27 s0 x4 x5 M
theorem o_X6_moon_66 {E : GE} {Q : Option Value → Mem → Prop} {p1 : Int32} {t27 : Int32 → Int32 → Int32 → Mem → Option (Int32 × Mem)} {x2 : Int32} {x4 : Int32} {x5 : Int32} {s0 : Int32} {M : Mem} (ht27 : ∀ (x2 : Int32) (x3 : Int32) (x4 : Int32) (M : Mem), wp (t27 x2 x3 x4 M) gIM Q → Ev E mi_X6_moon 27 [(0, .ref (ad E 54)), (1, .int p1), (2, .int x2), (3, .int x3), (4, .int x4)] [] M Q) (h : wp (f_X6_moon_66 p1 t27 x2 x4 x5 s0 M) gIM Q) : Ev E mi_X6_moon 66 [(0, .ref (ad E 54)), (1, .int p1), (2, .int x2), (4, .int x4), (5, .int x5)] [.int s0] M Q := by
  unfold f_X6_moon_66 at h
  refine Ev.istore_n dX6_moon_66 rfl (Nat.le_of_ble_eq_true rfl) rfl ?_
  show Ev E mi_X6_moon 67 [(3, .int s0), (0, .ref (ad E 54)), (1, .int p1), (2, .int x2), (4, .int x4), (5, .int x5)] [] M Q
  refine Ev.iload dX6_moon_67 5 rfl ?_
  refine Ev.iload_n dX6_moon_69 rfl 3 rfl ?_
  refine Ev.icmp_le (tgt := 78) dX6_moon_70 (by decide) (fun c1 => ?_) (fun c1 => ?_)
  · replace h := wp_t c1 h
    refine Ev.iload_n dX6_moon_78 rfl 3 rfl ?_
    refine Ev.sub [1, 2, 0, 4] rfl ?_
    exact o_X6_moon_79 ht27 h
  · replace h := wp_f c1 h
    refine Ev.iload dX6_moon_73 5 rfl ?_
    refine Ev.goto (tgt := 79) dX6_moon_75 (by decide) ?_
    refine Ev.sub [1, 2, 0, 4] rfl ?_
    exact o_X6_moon_79 ht27 h
noncomputable def f_X6_moon_86 (p1 : Int32) (x2 : Int32) (x3 : Int32) (M : Mem) : Option (Int32 × Mem) := if p1 = 0 then some (x3, M) else some (x2, M)
theorem o_X6_moon_86 {E : GE} {Q : Option Value → Mem → Prop} {p1 : Int32} {x2 : Int32} {x3 : Int32} {M : Mem} (h : wp (f_X6_moon_86 p1 x2 x3 M) gIM Q) : Ev E mi_X6_moon 86 [(1, .int p1), (2, .int x2), (3, .int x3)] [] M Q := by
  unfold f_X6_moon_86 at h
  refine Ev.iload_n dX6_moon_86 rfl 0 rfl ?_
  refine Ev.if_ne (tgt := 94) dX6_moon_87 (by decide) (fun c1 => ?_) (fun c1 => ?_)
  · replace h := wp_t c1 h
    refine Ev.iload_n dX6_moon_90 rfl 2 rfl ?_
    refine Ev.goto (tgt := 95) dX6_moon_91 (by decide) ?_
    exact Ev.ret dX6_moon_95 rfl rfl (wp_ret h)
  · replace h := wp_f c1 h
    refine Ev.iload_n dX6_moon_94 rfl 1 rfl ?_
    exact Ev.ret dX6_moon_95 rfl rfl (wp_ret h)
noncomputable def f_X6_moon_27 (p1 : Int32) : Nat → Int32 → Int32 → Int32 → Mem → Option (Int32 × Mem)
  | 0, _, _, _, _ => none
  | n + 1, x2, x3, x4, M => if 5 < x4 then f_X6_moon_86 p1 x2 x3 M else inb 359 360 <| lm (up M 55 (359 : Int32).toNatClampNeg x4) fun M3 => (f_X6_worth 288 (-4) M3).bind fun r4 => if r4.1 ≤ x2 then f_X6_moon_66 p1 (f_X6_moon_27 p1 n) x2 x4 r4.1 x3 r4.2 else f_X6_moon_66 p1 (f_X6_moon_27 p1 n) x2 x4 r4.1 x4 r4.2
theorem o_X6_moon_27 {E : GE} {Q : Option Value → Mem → Prop} {p1 : Int32} : ∀ (n : Nat) {x2 : Int32} {x3 : Int32} {x4 : Int32} {M : Mem}, wp (f_X6_moon_27 p1 n x2 x3 x4 M) gIM Q → Ev E mi_X6_moon 27 [(0, .ref (ad E 54)), (1, .int p1), (2, .int x2), (3, .int x3), (4, .int x4)] [] M Q := by
  intro n
  induction n with
  | zero => intro _ _ _ _ h; exact absurd h wp_none
  | succ n ih =>
    intro x2 x3 x4 M h
    unfold f_X6_moon_27 at h
    refine Ev.iload dX6_moon_27 4 rfl ?_
    refine Ev.iconst (v := 5) dX6_moon_29 rfl ?_
    refine Ev.icmp_gt (tgt := 86) dX6_moon_30 (by decide) (fun c1 => ?_) (fun c1 => ?_)
    · replace h := wp_t c1 h
      refine Ev.sub [1, 2, 3] rfl ?_
      exact o_X6_moon_86 h
    · replace h := wp_f c1 h
      refine Ev.aload_n dX6_moon_33 rfl 0 rfl ?_
      refine Ev.get dX6_moon_34 fl_X6_7 rfl (Nat.le_of_ble_eq_true rfl) (v := .ref (ad E 55)) rfl ?_
      refine Ev.sipush (v := 359) dX6_moon_37 rfl ?_
      refine Ev.iload dX6_moon_40 4 rfl ?_
      obtain ⟨g2, h⟩ := wp_inb h
      refine Ev.iast dX6_moon_42 rfl (Nat.le_of_ble_eq_true rfl) rfl g2 ?_
      refine Ev.topM (fun M3 eM3 => ?_)
      replace h := wp_lm h M3 eM3
      refine Ev.aload_n dX6_moon_43 rfl 0 rfl ?_
      refine Ev.sipush (v := 288) dX6_moon_44 rfl ?_
      refine Ev.bipush (v := (-4)) dX6_moon_47 rfl ?_
      obtain ⟨r4, er4, h⟩ := wp_bind h
      refine Ev.callV (k := 54) (as := [.int 288, .int (-4)]) (rest := []) dX6_moon_49 cl_X6_220 mok_X6_worth rfl (Nat.le_of_ble_eq_true rfl) (Nat.le_of_ble_eq_true rfl) ⟨Nat.le_of_ble_eq_true rfl, Nat.le_of_ble_eq_true rfl⟩ (Nat.le_of_ble_eq_true rfl) rfl rfl (o_X6_worth ⟨r4, er4, ?_⟩)
      show Ev E mi_X6_moon 52 [(0, .ref (ad E 54)), (1, .int p1), (2, .int x2), (3, .int x3), (4, .int x4)] [.int r4.1] r4.2 Q
      refine Ev.istore dX6_moon_52 (Nat.le_of_ble_eq_true rfl) rfl ?_
      show Ev E mi_X6_moon 54 [(5, .int r4.1), (0, .ref (ad E 54)), (1, .int p1), (2, .int x2), (3, .int x3), (4, .int x4)] [] r4.2 Q
      refine Ev.iload dX6_moon_54 0 rfl ?_
      refine Ev.iload_n dX6_moon_56 rfl 3 rfl ?_
      refine Ev.icmp_le (tgt := 65) dX6_moon_57 (by decide) (fun c5 => ?_) (fun c5 => ?_)
      · replace h := wp_t c5 h
        refine Ev.iload_n dX6_moon_65 rfl 4 rfl ?_
        refine Ev.sub [1, 2, 3, 5, 0] rfl ?_
        exact o_X6_moon_66 (fun _ _ _ _ h => ih h) h
      · replace h := wp_f c5 h
        refine Ev.iload dX6_moon_60 5 rfl ?_
        refine Ev.goto (tgt := 66) dX6_moon_62 (by decide) ?_
        refine Ev.sub [1, 2, 3, 5, 0] rfl ?_
        exact o_X6_moon_66 (fun _ _ _ _ h => ih h) h
noncomputable def f_X6_moon (p1 : Int32) (M : Mem) : Option (Int32 × Mem) := (f_X6_in p1.toInt64 0 1 M).bind fun r1 => if r1 = 0 then some ((-1), M) else (f_X6_copies 0 288 M).bind fun r3 => f_X6_moon_27 p1 FU (-1) 0 0 r3
theorem o_X6_moon {E : GE} {Q : Option Value → Mem → Prop} {p1 : Int32} {M : Mem} (h : wp (f_X6_moon p1 M) gIM Q) : Runs E mi_X6_moon [.ref (ad E 54), .int p1] M Q := by
  refine Runs.ofEv (by decide +kernel) (Nat.le_of_ble_eq_true rfl) ?_
  show Ev E mi_X6_moon 0 [(0, .ref (ad E 54)), (1, .int p1)] [] M Q
  unfold f_X6_moon at h
  refine Ev.iload_n dX6_moon_0 rfl 1 rfl ?_
  refine Ev.i2l dX6_moon_1 ?_
  refine Ev.lconst (v := 0) dX6_moon_2 rfl ?_
  refine Ev.lconst (v := 1) dX6_moon_3 rfl ?_
  obtain ⟨r1, er1, h⟩ := wp_bind h
  refine Ev.callS (as := [.long p1.toInt64, .long 0, .long 1]) (rest := []) dX6_moon_4 cl_X6_73 mos_X6_in ⟨Nat.le_of_ble_eq_true rfl, Nat.le_of_ble_eq_true rfl⟩ (Nat.le_of_ble_eq_true rfl) rfl rfl (o_X6_in ⟨r1, er1, ?_⟩)
  show Ev E mi_X6_moon 7 [(0, .ref (ad E 54)), (1, .int p1)] [.int r1] M Q
  refine Ev.if_ne (tgt := 12) dX6_moon_7 (by decide) (fun c2 => ?_) (fun c2 => ?_)
  · replace h := wp_t c2 h
    refine Ev.iconst (v := (-1)) dX6_moon_10 rfl ?_
    exact Ev.ret dX6_moon_11 rfl rfl (wp_ret h)
  · replace h := wp_f c2 h
    refine Ev.aload_n dX6_moon_12 rfl 0 rfl ?_
    refine Ev.iconst (v := 0) dX6_moon_13 rfl ?_
    refine Ev.sipush (v := 288) dX6_moon_14 rfl ?_
    obtain ⟨r3, er3, h⟩ := wp_bind h
    refine Ev.callV (k := 54) (as := [.int 0, .int 288]) (rest := []) dX6_moon_17 cl_X6_226 mok_X6_copies rfl (Nat.le_of_ble_eq_true rfl) (Nat.le_of_ble_eq_true rfl) ⟨Nat.le_of_ble_eq_true rfl, Nat.le_of_ble_eq_true rfl⟩ (Nat.le_of_ble_eq_true rfl) rfl rfl (o_X6_copies ⟨r3, er3, ?_⟩)
    show Ev E mi_X6_moon 20 [(0, .ref (ad E 54)), (1, .int p1)] [] r3 Q
    refine Ev.iconst (v := (-1)) dX6_moon_20 rfl ?_
    refine Ev.istore_n dX6_moon_21 rfl (Nat.le_of_ble_eq_true rfl) rfl ?_
    show Ev E mi_X6_moon 22 [(2, .int (-1)), (0, .ref (ad E 54)), (1, .int p1)] [] r3 Q
    refine Ev.iconst (v := 0) dX6_moon_22 rfl ?_
    refine Ev.istore_n dX6_moon_23 rfl (Nat.le_of_ble_eq_true rfl) rfl ?_
    show Ev E mi_X6_moon 24 [(3, .int 0), (2, .int (-1)), (0, .ref (ad E 54)), (1, .int p1)] [] r3 Q
    refine Ev.iconst (v := 0) dX6_moon_24 rfl ?_
    refine Ev.istore dX6_moon_25 (Nat.le_of_ble_eq_true rfl) rfl ?_
    show Ev E mi_X6_moon 27 [(4, .int 0), (3, .int 0), (2, .int (-1)), (0, .ref (ad E 54)), (1, .int p1)] [] r3 Q
    refine Ev.sub [3, 4, 2, 1, 0] rfl ?_
    exact o_X6_moon_27 FU h

noncomputable def f_X6_isRest_73 (p1 : Int32) (p2 : Int32) (M : Mem) (t5 : Int32 → Int32 → Option Int32) (x4 : Int32) (s0 : Int32) : Option Int32 := t5 s0 (x4 + 1)
theorem o_X6_isRest_73 {E : GE} {Q : Option Value → Mem → Prop} {p1 : Int32} {p2 : Int32} {M : Mem} {t5 : Int32 → Int32 → Option Int32} {x4 : Int32} {s0 : Int32} (ht5 : ∀ (x3 : Int32) (x4 : Int32), wp (t5 x3 x4) (gI M) Q → Ev E mi_X6_isRest 5 [(0, .ref (ad E 54)), (1, .int p1), (2, .int p2), (3, .int x3), (4, .int x4)] [] M Q) (h : wp (f_X6_isRest_73 p1 p2 M t5 x4 s0) (gI M) Q) : Ev E mi_X6_isRest 73 [(0, .ref (ad E 54)), (1, .int p1), (2, .int p2), (4, .int x4)] [.int s0] M Q := by
  unfold f_X6_isRest_73 at h
  refine Ev.istore_n dX6_isRest_73 rfl (Nat.le_of_ble_eq_true rfl) rfl ?_
  show Ev E mi_X6_isRest 74 [(3, .int s0), (0, .ref (ad E 54)), (1, .int p1), (2, .int p2), (4, .int x4)] [] M Q
  refine Ev.iinc (v := x4 + 1) dX6_isRest_74 4 rfl rfl (Nat.le_of_ble_eq_true rfl) rfl ?_
  show Ev E mi_X6_isRest 77 [(4, .int (x4 + 1)), (3, .int s0), (0, .ref (ad E 54)), (1, .int p1), (2, .int p2)] [] M Q
  refine Ev.goto (tgt := 5) dX6_isRest_77 (by decide) ?_
  refine Ev.sub [2, 3, 4, 1, 0] rfl ?_
  exact ht5 _ _ h
noncomputable def f_X6_isRest_72 (p1 : Int32) (p2 : Int32) (M : Mem) (t5 : Int32 → Int32 → Option Int32) (x4 : Int32) : Option Int32 := f_X6_isRest_73 p1 p2 M t5 x4 0
theorem o_X6_isRest_72 {E : GE} {Q : Option Value → Mem → Prop} {p1 : Int32} {p2 : Int32} {M : Mem} {t5 : Int32 → Int32 → Option Int32} {x4 : Int32} (ht5 : ∀ (x3 : Int32) (x4 : Int32), wp (t5 x3 x4) (gI M) Q → Ev E mi_X6_isRest 5 [(0, .ref (ad E 54)), (1, .int p1), (2, .int p2), (3, .int x3), (4, .int x4)] [] M Q) (h : wp (f_X6_isRest_72 p1 p2 M t5 x4) (gI M) Q) : Ev E mi_X6_isRest 72 [(0, .ref (ad E 54)), (1, .int p1), (2, .int p2), (4, .int x4)] [] M Q := by
  unfold f_X6_isRest_72 at h
  refine Ev.iconst (v := 0) dX6_isRest_72 rfl ?_
  exact o_X6_isRest_73 ht5 h
noncomputable def f_X6_isRest_5 (p1 : Int32) (p2 : Int32) (M : Mem) : Nat → Int32 → Int32 → Option Int32
  | 0, _, _ => none
  | n + 1, x3, x4 => if 9 < x4 then ck .boolean x3 <| some x3 else if x3 = 0 then f_X6_isRest_72 p1 p2 M (f_X6_isRest_5 p1 p2 M n) x4 else rd (M 67) 100 ((10 * x4) + p2) fun r5 => rd (M 67) 100 ((10 * p1) + p2) fun r7 => if r7 < r5 then f_X6_isRest_72 p1 p2 M (f_X6_isRest_5 p1 p2 M n) x4 else rd (M 68) 100 ((10 * p1) + x4) fun r10 => rd (M 68) 100 ((10 * p1) + p2) fun r12 => if r12 < r10 then f_X6_isRest_72 p1 p2 M (f_X6_isRest_5 p1 p2 M n) x4 else f_X6_isRest_73 p1 p2 M (f_X6_isRest_5 p1 p2 M n) x4 1
theorem o_X6_isRest_5 {E : GE} {Q : Option Value → Mem → Prop} {p1 : Int32} {p2 : Int32} {M : Mem} : ∀ (n : Nat) {x3 : Int32} {x4 : Int32}, wp (f_X6_isRest_5 p1 p2 M n x3 x4) (gI M) Q → Ev E mi_X6_isRest 5 [(0, .ref (ad E 54)), (1, .int p1), (2, .int p2), (3, .int x3), (4, .int x4)] [] M Q := by
  intro n
  induction n with
  | zero => intro _ _ h; exact absurd h wp_none
  | succ n ih =>
    intro x3 x4 h
    unfold f_X6_isRest_5 at h
    refine Ev.iload dX6_isRest_5 4 rfl ?_
    refine Ev.bipush (v := 9) dX6_isRest_7 rfl ?_
    refine Ev.icmp_gt (tgt := 80) dX6_isRest_9 (by decide) (fun c1 => ?_) (fun c1 => ?_)
    · replace h := wp_t c1 h
      refine Ev.iload_n dX6_isRest_80 rfl 3 rfl ?_
      obtain ⟨g2, h⟩ := wp_ck h
      exact Ev.ret dX6_isRest_81 rfl (nar_Z g2) (wp_ret h)
    · replace h := wp_f c1 h
      refine Ev.iload_n dX6_isRest_12 rfl 3 rfl ?_
      refine Ev.if_eq (tgt := 72) dX6_isRest_13 (by decide) (fun c3 => ?_) (fun c3 => ?_)
      · replace h := wp_t c3 h
        refine Ev.sub [0, 1, 2, 4] rfl ?_
        exact o_X6_isRest_72 (fun _ _ h => ih h) h
      · replace h := wp_f c3 h
        refine Ev.aload_n dX6_isRest_16 rfl 0 rfl ?_
        refine Ev.get dX6_isRest_17 fl_X6_46 rfl (Nat.le_of_ble_eq_true rfl) (v := .ref (ad E 67)) rfl ?_
        refine Ev.bipush (v := 10) dX6_isRest_20 rfl ?_
        refine Ev.iload dX6_isRest_22 4 rfl ?_
        refine Ev.imul dX6_isRest_24 ?_
        refine Ev.iload_n dX6_isRest_25 rfl 2 rfl ?_
        refine Ev.iadd dX6_isRest_26 ?_
        obtain ⟨g4, h⟩ := wp_rd h
        refine Ev.iald dX6_isRest_27 rfl (Nat.le_of_ble_eq_true rfl) rfl g4 ?_
        refine Ev.topi (fun r5 er5 => ?_)
        replace h := h r5 er5
        refine Ev.aload_n dX6_isRest_28 rfl 0 rfl ?_
        refine Ev.get dX6_isRest_29 fl_X6_46 rfl (Nat.le_of_ble_eq_true rfl) (v := .ref (ad E 67)) rfl ?_
        refine Ev.bipush (v := 10) dX6_isRest_32 rfl ?_
        refine Ev.iload_n dX6_isRest_34 rfl 1 rfl ?_
        refine Ev.imul dX6_isRest_35 ?_
        refine Ev.iload_n dX6_isRest_36 rfl 2 rfl ?_
        refine Ev.iadd dX6_isRest_37 ?_
        obtain ⟨g6, h⟩ := wp_rd h
        refine Ev.iald dX6_isRest_38 rfl (Nat.le_of_ble_eq_true rfl) rfl g6 ?_
        refine Ev.topi (fun r7 er7 => ?_)
        replace h := h r7 er7
        refine Ev.icmp_gt (tgt := 72) dX6_isRest_39 (by decide) (fun c8 => ?_) (fun c8 => ?_)
        · replace h := wp_t c8 h
          refine Ev.sub [0, 1, 2, 4] rfl ?_
          exact o_X6_isRest_72 (fun _ _ h => ih h) h
        · replace h := wp_f c8 h
          refine Ev.aload_n dX6_isRest_42 rfl 0 rfl ?_
          refine Ev.get dX6_isRest_43 fl_X6_49 rfl (Nat.le_of_ble_eq_true rfl) (v := .ref (ad E 68)) rfl ?_
          refine Ev.bipush (v := 10) dX6_isRest_46 rfl ?_
          refine Ev.iload_n dX6_isRest_48 rfl 1 rfl ?_
          refine Ev.imul dX6_isRest_49 ?_
          refine Ev.iload dX6_isRest_50 4 rfl ?_
          refine Ev.iadd dX6_isRest_52 ?_
          obtain ⟨g9, h⟩ := wp_rd h
          refine Ev.iald dX6_isRest_53 rfl (Nat.le_of_ble_eq_true rfl) rfl g9 ?_
          refine Ev.topi (fun r10 er10 => ?_)
          replace h := h r10 er10
          refine Ev.aload_n dX6_isRest_54 rfl 0 rfl ?_
          refine Ev.get dX6_isRest_55 fl_X6_49 rfl (Nat.le_of_ble_eq_true rfl) (v := .ref (ad E 68)) rfl ?_
          refine Ev.bipush (v := 10) dX6_isRest_58 rfl ?_
          refine Ev.iload_n dX6_isRest_60 rfl 1 rfl ?_
          refine Ev.imul dX6_isRest_61 ?_
          refine Ev.iload_n dX6_isRest_62 rfl 2 rfl ?_
          refine Ev.iadd dX6_isRest_63 ?_
          obtain ⟨g11, h⟩ := wp_rd h
          refine Ev.iald dX6_isRest_64 rfl (Nat.le_of_ble_eq_true rfl) rfl g11 ?_
          refine Ev.topi (fun r12 er12 => ?_)
          replace h := h r12 er12
          refine Ev.icmp_gt (tgt := 72) dX6_isRest_65 (by decide) (fun c13 => ?_) (fun c13 => ?_)
          · replace h := wp_t c13 h
            refine Ev.sub [0, 1, 2, 4] rfl ?_
            exact o_X6_isRest_72 (fun _ _ h => ih h) h
          · replace h := wp_f c13 h
            refine Ev.iconst (v := 1) dX6_isRest_68 rfl ?_
            refine Ev.goto (tgt := 73) dX6_isRest_69 (by decide) ?_
            refine Ev.sub [0, 1, 2, 4] rfl ?_
            exact o_X6_isRest_73 (fun _ _ h => ih h) h
noncomputable def f_X6_isRest (p1 : Int32) (p2 : Int32) (M : Mem) : Option Int32 := f_X6_isRest_5 p1 p2 M FU 1 0
theorem o_X6_isRest {E : GE} {Q : Option Value → Mem → Prop} {p1 : Int32} {p2 : Int32} {M : Mem} (h : wp (f_X6_isRest p1 p2 M) (gI M) Q) : Runs E mi_X6_isRest [.ref (ad E 54), .int p1, .int p2] M Q := by
  refine Runs.ofEv (by decide +kernel) (Nat.le_of_ble_eq_true rfl) ?_
  show Ev E mi_X6_isRest 0 [(0, .ref (ad E 54)), (1, .int p1), (2, .int p2)] [] M Q
  unfold f_X6_isRest at h
  refine Ev.iconst (v := 1) dX6_isRest_0 rfl ?_
  refine Ev.istore_n dX6_isRest_1 rfl (Nat.le_of_ble_eq_true rfl) rfl ?_
  show Ev E mi_X6_isRest 2 [(3, .int 1), (0, .ref (ad E 54)), (1, .int p1), (2, .int p2)] [] M Q
  refine Ev.iconst (v := 0) dX6_isRest_2 rfl ?_
  refine Ev.istore dX6_isRest_3 (Nat.le_of_ble_eq_true rfl) rfl ?_
  show Ev E mi_X6_isRest 5 [(4, .int 0), (3, .int 1), (0, .ref (ad E 54)), (1, .int p1), (2, .int p2)] [] M Q
  refine Ev.sub [2, 3, 4, 1, 0] rfl ?_
  exact o_X6_isRest_5 FU h

noncomputable def f_X6_rest_185 (p1 : Int32) (p2 : Int32) (p3 : Int32) (t131 : Int32 → Int32 → Int32 → Mem → Option (Int32 × Mem)) (x5 : Int32) (x6 : Int32) (s0 : Int32) (s1 : Int32) (M : Mem) : Option (Int32 × Mem) := li (s0 + s1) fun y1 => t131 y1 x5 (x6 + 1) M
theorem o_X6_rest_185 {E : GE} {Q : Option Value → Mem → Prop} {p1 : Int32} {p2 : Int32} {p3 : Int32} {t131 : Int32 → Int32 → Int32 → Mem → Option (Int32 × Mem)} {x5 : Int32} {x6 : Int32} {s0 : Int32} {s1 : Int32} {M : Mem} (ht131 : ∀ (x4 : Int32) (x5 : Int32) (x6 : Int32) (M : Mem), wp (t131 x4 x5 x6 M) gIM Q → Ev E mi_X6_rest 131 [(0, .ref (ad E 54)), (3, .int p3), (4, .int x4), (5, .int x5), (6, .int x6)] [] M Q) (h : wp (f_X6_rest_185 p1 p2 p3 t131 x5 x6 s0 s1 M) gIM Q) : Ev E mi_X6_rest 185 [(0, .ref (ad E 54)), (3, .int p3), (5, .int x5), (6, .int x6)] [.int s1, .int s0] M Q := by
  unfold f_X6_rest_185 at h
  refine Ev.iadd dX6_rest_185 ?_
  refine Ev.topi (fun y1 ey1 => ?_)
  replace h := wp_li h y1 ey1
  refine Ev.istore dX6_rest_186 (Nat.le_of_ble_eq_true rfl) rfl ?_
  show Ev E mi_X6_rest 188 [(4, .int y1), (0, .ref (ad E 54)), (3, .int p3), (5, .int x5), (6, .int x6)] [] M Q
  refine Ev.iinc (v := x6 + 1) dX6_rest_188 4 rfl rfl (Nat.le_of_ble_eq_true rfl) rfl ?_
  show Ev E mi_X6_rest 191 [(6, .int (x6 + 1)), (4, .int y1), (0, .ref (ad E 54)), (3, .int p3), (5, .int x5)] [] M Q
  refine Ev.goto (tgt := 131) dX6_rest_191 (by decide) ?_
  refine Ev.sub [2, 3, 1, 4, 0] rfl ?_
  exact ht131 _ _ _ _ h
noncomputable def f_X6_rest_171 (p1 : Int32) (p2 : Int32) (p3 : Int32) (t131 : Int32 → Int32 → Int32 → Mem → Option (Int32 × Mem)) (x4 : Int32) (x6 : Int32) (x7 : Int32) (s0 : Int32) (M : Mem) : Option (Int32 × Mem) := if x7 = 0 then f_X6_rest_185 p1 p2 p3 t131 s0 x6 x4 0 M else f_X6_rest_185 p1 p2 p3 t131 s0 x6 x4 1 M
theorem o_X6_rest_171 {E : GE} {Q : Option Value → Mem → Prop} {p1 : Int32} {p2 : Int32} {p3 : Int32} {t131 : Int32 → Int32 → Int32 → Mem → Option (Int32 × Mem)} {x4 : Int32} {x6 : Int32} {x7 : Int32} {s0 : Int32} {M : Mem} (ht131 : ∀ (x4 : Int32) (x5 : Int32) (x6 : Int32) (M : Mem), wp (t131 x4 x5 x6 M) gIM Q → Ev E mi_X6_rest 131 [(0, .ref (ad E 54)), (3, .int p3), (4, .int x4), (5, .int x5), (6, .int x6)] [] M Q) (h : wp (f_X6_rest_171 p1 p2 p3 t131 x4 x6 x7 s0 M) gIM Q) : Ev E mi_X6_rest 171 [(0, .ref (ad E 54)), (3, .int p3), (4, .int x4), (6, .int x6), (7, .int x7)] [.int s0] M Q := by
  unfold f_X6_rest_171 at h
  refine Ev.istore dX6_rest_171 (Nat.le_of_ble_eq_true rfl) rfl ?_
  show Ev E mi_X6_rest 173 [(5, .int s0), (0, .ref (ad E 54)), (3, .int p3), (4, .int x4), (6, .int x6), (7, .int x7)] [] M Q
  refine Ev.iload dX6_rest_173 3 rfl ?_
  refine Ev.iload dX6_rest_175 5 rfl ?_
  refine Ev.if_eq (tgt := 184) dX6_rest_177 (by decide) (fun c1 => ?_) (fun c1 => ?_)
  · replace h := wp_t c1 h
    refine Ev.iconst (v := 0) dX6_rest_184 rfl ?_
    refine Ev.sub [1, 2, 0, 4] rfl ?_
    exact o_X6_rest_185 ht131 h
  · replace h := wp_f c1 h
    refine Ev.iconst (v := 1) dX6_rest_180 rfl ?_
    refine Ev.goto (tgt := 185) dX6_rest_181 (by decide) ?_
    refine Ev.sub [1, 2, 0, 4] rfl ?_
    exact o_X6_rest_185 ht131 h
noncomputable def f_X6_rest_169 (p1 : Int32) (p2 : Int32) (p3 : Int32) (t131 : Int32 → Int32 → Int32 → Mem → Option (Int32 × Mem)) (x4 : Int32) (x5 : Int32) (x6 : Int32) (x7 : Int32) (M : Mem) : Option (Int32 × Mem) := f_X6_rest_171 p1 p2 p3 t131 x4 x6 x7 x5 M
theorem o_X6_rest_169 {E : GE} {Q : Option Value → Mem → Prop} {p1 : Int32} {p2 : Int32} {p3 : Int32} {t131 : Int32 → Int32 → Int32 → Mem → Option (Int32 × Mem)} {x4 : Int32} {x5 : Int32} {x6 : Int32} {x7 : Int32} {M : Mem} (ht131 : ∀ (x4 : Int32) (x5 : Int32) (x6 : Int32) (M : Mem), wp (t131 x4 x5 x6 M) gIM Q → Ev E mi_X6_rest 131 [(0, .ref (ad E 54)), (3, .int p3), (4, .int x4), (5, .int x5), (6, .int x6)] [] M Q) (h : wp (f_X6_rest_169 p1 p2 p3 t131 x4 x5 x6 x7 M) gIM Q) : Ev E mi_X6_rest 169 [(0, .ref (ad E 54)), (3, .int p3), (4, .int x4), (5, .int x5), (6, .int x6), (7, .int x7)] [] M Q := by
  unfold f_X6_rest_169 at h
  refine Ev.iload dX6_rest_169 3 rfl ?_
  refine Ev.sub [0, 1, 2, 4, 5] rfl ?_
  exact o_X6_rest_171 ht131 h
noncomputable def f_X6_rest_194 (p1 : Int32) (p2 : Int32) (p3 : Int32) (x4 : Int32) (x5 : Int32) (M : Mem) : Option (Int32 × Mem) := if p3 = 0 then some (x4, M) else some (x5, M)
theorem o_X6_rest_194 {E : GE} {Q : Option Value → Mem → Prop} {p1 : Int32} {p2 : Int32} {p3 : Int32} {x4 : Int32} {x5 : Int32} {M : Mem} (h : wp (f_X6_rest_194 p1 p2 p3 x4 x5 M) gIM Q) : Ev E mi_X6_rest 194 [(3, .int p3), (4, .int x4), (5, .int x5)] [] M Q := by
  unfold f_X6_rest_194 at h
  refine Ev.iload_n dX6_rest_194 rfl 0 rfl ?_
  refine Ev.if_ne (tgt := 203) dX6_rest_195 (by decide) (fun c1 => ?_) (fun c1 => ?_)
  · replace h := wp_t c1 h
    refine Ev.iload dX6_rest_198 1 rfl ?_
    refine Ev.goto (tgt := 205) dX6_rest_200 (by decide) ?_
    exact Ev.ret dX6_rest_205 rfl rfl (wp_ret h)
  · replace h := wp_f c1 h
    refine Ev.iload dX6_rest_203 2 rfl ?_
    exact Ev.ret dX6_rest_205 rfl rfl (wp_ret h)
noncomputable def f_X6_rest_131 (p1 : Int32) (p2 : Int32) (p3 : Int32) : Nat → Int32 → Int32 → Int32 → Mem → Option (Int32 × Mem)
  | 0, _, _, _, _ => none
  | n + 1, x4, x5, x6, M => if 100 ≤ x6 then f_X6_rest_194 p1 p2 p3 x4 x5 M else (f_X6_isRest (x6 / 10) (x6 - x6 / 10 * 10) M).bind fun r2 => if r2 = 0 then f_X6_rest_169 p1 p2 p3 (f_X6_rest_131 p1 p2 p3 n) x4 x5 x6 r2 M else if x4 = 0 then f_X6_rest_171 p1 p2 p3 (f_X6_rest_131 p1 p2 p3 n) x4 x6 r2 x6 M else f_X6_rest_169 p1 p2 p3 (f_X6_rest_131 p1 p2 p3 n) x4 x5 x6 r2 M
theorem o_X6_rest_131 {E : GE} {Q : Option Value → Mem → Prop} {p1 : Int32} {p2 : Int32} {p3 : Int32} : ∀ (n : Nat) {x4 : Int32} {x5 : Int32} {x6 : Int32} {M : Mem}, wp (f_X6_rest_131 p1 p2 p3 n x4 x5 x6 M) gIM Q → Ev E mi_X6_rest 131 [(0, .ref (ad E 54)), (3, .int p3), (4, .int x4), (5, .int x5), (6, .int x6)] [] M Q := by
  intro n
  induction n with
  | zero => intro _ _ _ _ h; exact absurd h wp_none
  | succ n ih =>
    intro x4 x5 x6 M h
    unfold f_X6_rest_131 at h
    refine Ev.iload dX6_rest_131 4 rfl ?_
    refine Ev.bipush (v := 100) dX6_rest_133 rfl ?_
    refine Ev.icmp_ge (tgt := 194) dX6_rest_135 (by decide) (fun c1 => ?_) (fun c1 => ?_)
    · replace h := wp_t c1 h
      refine Ev.sub [1, 2, 3] rfl ?_
      exact o_X6_rest_194 h
    · replace h := wp_f c1 h
      refine Ev.aload_n dX6_rest_138 rfl 0 rfl ?_
      refine Ev.iload dX6_rest_139 4 rfl ?_
      refine Ev.bipush (v := 10) dX6_rest_141 rfl ?_
      refine Ev.idiv dX6_rest_143 (by decide) ?_
      refine Ev.iload dX6_rest_144 4 rfl ?_
      refine Ev.bipush (v := 10) dX6_rest_146 rfl ?_
      refine Ev.irem dX6_rest_148 (by decide) ?_
      obtain ⟨r2, er2, h⟩ := wp_bind h
      refine Ev.callV (k := 54) (as := [.int (x6 / 10), .int (x6 - x6 / 10 * 10)]) (rest := []) dX6_rest_149 cl_X6_235 mok_X6_isRest rfl (Nat.le_of_ble_eq_true rfl) (Nat.le_of_ble_eq_true rfl) ⟨Nat.le_of_ble_eq_true rfl, Nat.le_of_ble_eq_true rfl⟩ (Nat.le_of_ble_eq_true rfl) rfl rfl (o_X6_isRest ⟨r2, er2, ?_⟩)
      show Ev E mi_X6_rest 152 [(0, .ref (ad E 54)), (3, .int p3), (4, .int x4), (5, .int x5), (6, .int x6)] [.int r2] M Q
      refine Ev.istore dX6_rest_152 (Nat.le_of_ble_eq_true rfl) rfl ?_
      show Ev E mi_X6_rest 154 [(7, .int r2), (0, .ref (ad E 54)), (3, .int p3), (4, .int x4), (5, .int x5), (6, .int x6)] [] M Q
      refine Ev.iload dX6_rest_154 0 rfl ?_
      refine Ev.if_eq (tgt := 169) dX6_rest_156 (by decide) (fun c3 => ?_) (fun c3 => ?_)
      · replace h := wp_t c3 h
        refine Ev.sub [1, 2, 3, 4, 5, 0] rfl ?_
        exact o_X6_rest_169 (fun _ _ _ _ h => ih h) h
      · replace h := wp_f c3 h
        refine Ev.iload dX6_rest_159 3 rfl ?_
        refine Ev.if_ne (tgt := 169) dX6_rest_161 (by decide) (fun c4 => ?_) (fun c4 => ?_)
        · replace h := wp_t c4 h
          refine Ev.iload dX6_rest_164 5 rfl ?_
          refine Ev.goto (tgt := 171) dX6_rest_166 (by decide) ?_
          refine Ev.sub [1, 2, 3, 5, 0] rfl ?_
          exact o_X6_rest_171 (fun _ _ _ _ h => ih h) h
        · replace h := wp_f c4 h
          refine Ev.sub [1, 2, 3, 4, 5, 0] rfl ?_
          exact o_X6_rest_169 (fun _ _ _ _ h => ih h) h
noncomputable def f_X6_rest_121 (p1 : Int32) (p2 : Int32) (p3 : Int32) (M : Mem) : Option (Int32 × Mem) := f_X6_rest_131 p1 p2 p3 FU 0 (-4) 0 M
theorem o_X6_rest_121 {E : GE} {Q : Option Value → Mem → Prop} {p1 : Int32} {p2 : Int32} {p3 : Int32} {M : Mem} (h : wp (f_X6_rest_121 p1 p2 p3 M) gIM Q) : Ev E mi_X6_rest 121 [(0, .ref (ad E 54)), (3, .int p3)] [] M Q := by
  unfold f_X6_rest_121 at h
  refine Ev.iconst (v := 0) dX6_rest_121 rfl ?_
  refine Ev.istore dX6_rest_122 (Nat.le_of_ble_eq_true rfl) rfl ?_
  show Ev E mi_X6_rest 124 [(4, .int 0), (0, .ref (ad E 54)), (3, .int p3)] [] M Q
  refine Ev.bipush (v := (-4)) dX6_rest_124 rfl ?_
  refine Ev.istore dX6_rest_126 (Nat.le_of_ble_eq_true rfl) rfl ?_
  show Ev E mi_X6_rest 128 [(5, .int (-4)), (4, .int 0), (0, .ref (ad E 54)), (3, .int p3)] [] M Q
  refine Ev.iconst (v := 0) dX6_rest_128 rfl ?_
  refine Ev.istore dX6_rest_129 (Nat.le_of_ble_eq_true rfl) rfl ?_
  show Ev E mi_X6_rest 131 [(6, .int 0), (5, .int (-4)), (4, .int 0), (0, .ref (ad E 54)), (3, .int p3)] [] M Q
  refine Ev.sub [3, 4, 2, 1, 0] rfl ?_
  exact o_X6_rest_131 FU h
noncomputable def f_X6_rest_44 (p1 : Int32) (p2 : Int32) (p3 : Int32) : Nat → Int32 → Mem → Option (Int32 × Mem)
  | 0, _, _ => none
  | n + 1, x4, M => if 100 ≤ x4 then f_X6_rest_121 p1 p2 p3 M else inb (309 + (4 * p1)) 360 <| lm (up M 55 (309 + (4 * p1)).toNatClampNeg (x4 / 10)) fun M3 => inb (309 + (4 * p2)) 360 <| lm (up M3 55 (309 + (4 * p2)).toNatClampNeg (x4 - x4 / 10 * 10)) fun M5 => (f_X6_worth 288 p1 M5).bind fun r6 => inb x4 100 <| lm (up r6.2 67 x4.toNatClampNeg r6.1) fun M8 => (f_X6_estatesOf 288 p2 M8).bind fun r9 => inb x4 100 <| lm (up M8 68 x4.toNatClampNeg r9) fun M11 => (f_X6_rest_44 p1 p2 p3 n) (x4 + 1) M11
theorem o_X6_rest_44 {E : GE} {Q : Option Value → Mem → Prop} {p1 : Int32} {p2 : Int32} {p3 : Int32} : ∀ (n : Nat) {x4 : Int32} {M : Mem}, wp (f_X6_rest_44 p1 p2 p3 n x4 M) gIM Q → Ev E mi_X6_rest 44 [(0, .ref (ad E 54)), (1, .int p1), (2, .int p2), (3, .int p3), (4, .int x4)] [] M Q := by
  intro n
  induction n with
  | zero => intro _ _ h; exact absurd h wp_none
  | succ n ih =>
    intro x4 M h
    unfold f_X6_rest_44 at h
    refine Ev.iload dX6_rest_44 4 rfl ?_
    refine Ev.bipush (v := 100) dX6_rest_46 rfl ?_
    refine Ev.icmp_ge (tgt := 121) dX6_rest_48 (by decide) (fun c1 => ?_) (fun c1 => ?_)
    · replace h := wp_t c1 h
      refine Ev.sub [0, 3] rfl ?_
      exact o_X6_rest_121 h
    · replace h := wp_f c1 h
      refine Ev.aload_n dX6_rest_51 rfl 0 rfl ?_
      refine Ev.get dX6_rest_52 fl_X6_7 rfl (Nat.le_of_ble_eq_true rfl) (v := .ref (ad E 55)) rfl ?_
      refine Ev.sipush (v := 309) dX6_rest_55 rfl ?_
      refine Ev.iconst (v := 4) dX6_rest_58 rfl ?_
      refine Ev.iload_n dX6_rest_59 rfl 1 rfl ?_
      refine Ev.imul dX6_rest_60 ?_
      refine Ev.iadd dX6_rest_61 ?_
      refine Ev.iload dX6_rest_62 4 rfl ?_
      refine Ev.bipush (v := 10) dX6_rest_64 rfl ?_
      refine Ev.idiv dX6_rest_66 (by decide) ?_
      obtain ⟨g2, h⟩ := wp_inb h
      refine Ev.iast dX6_rest_67 rfl (Nat.le_of_ble_eq_true rfl) rfl g2 ?_
      refine Ev.topM (fun M3 eM3 => ?_)
      replace h := wp_lm h M3 eM3
      refine Ev.aload_n dX6_rest_68 rfl 0 rfl ?_
      refine Ev.get dX6_rest_69 fl_X6_7 rfl (Nat.le_of_ble_eq_true rfl) (v := .ref (ad E 55)) rfl ?_
      refine Ev.sipush (v := 309) dX6_rest_72 rfl ?_
      refine Ev.iconst (v := 4) dX6_rest_75 rfl ?_
      refine Ev.iload_n dX6_rest_76 rfl 2 rfl ?_
      refine Ev.imul dX6_rest_77 ?_
      refine Ev.iadd dX6_rest_78 ?_
      refine Ev.iload dX6_rest_79 4 rfl ?_
      refine Ev.bipush (v := 10) dX6_rest_81 rfl ?_
      refine Ev.irem dX6_rest_83 (by decide) ?_
      obtain ⟨g4, h⟩ := wp_inb h
      refine Ev.iast dX6_rest_84 rfl (Nat.le_of_ble_eq_true rfl) rfl g4 ?_
      refine Ev.topM (fun M5 eM5 => ?_)
      replace h := wp_lm h M5 eM5
      refine Ev.aload_n dX6_rest_85 rfl 0 rfl ?_
      refine Ev.get dX6_rest_86 fl_X6_46 rfl (Nat.le_of_ble_eq_true rfl) (v := .ref (ad E 67)) rfl ?_
      refine Ev.iload dX6_rest_89 4 rfl ?_
      refine Ev.aload_n dX6_rest_91 rfl 0 rfl ?_
      refine Ev.sipush (v := 288) dX6_rest_92 rfl ?_
      refine Ev.iload_n dX6_rest_95 rfl 1 rfl ?_
      obtain ⟨r6, er6, h⟩ := wp_bind h
      refine Ev.callV (k := 54) (as := [.int 288, .int p1]) (rest := [.int x4, .ref (ad E 67)]) dX6_rest_96 cl_X6_220 mok_X6_worth rfl (Nat.le_of_ble_eq_true rfl) (Nat.le_of_ble_eq_true rfl) ⟨Nat.le_of_ble_eq_true rfl, Nat.le_of_ble_eq_true rfl⟩ (Nat.le_of_ble_eq_true rfl) rfl rfl (o_X6_worth ⟨r6, er6, ?_⟩)
      show Ev E mi_X6_rest 99 [(0, .ref (ad E 54)), (1, .int p1), (2, .int p2), (3, .int p3), (4, .int x4)] [.int r6.1, .int x4, .ref (ad E 67)] r6.2 Q
      obtain ⟨g7, h⟩ := wp_inb h
      refine Ev.iast dX6_rest_99 rfl (Nat.le_of_ble_eq_true rfl) rfl g7 ?_
      refine Ev.topM (fun M8 eM8 => ?_)
      replace h := wp_lm h M8 eM8
      refine Ev.aload_n dX6_rest_100 rfl 0 rfl ?_
      refine Ev.get dX6_rest_101 fl_X6_49 rfl (Nat.le_of_ble_eq_true rfl) (v := .ref (ad E 68)) rfl ?_
      refine Ev.iload dX6_rest_104 4 rfl ?_
      refine Ev.aload_n dX6_rest_106 rfl 0 rfl ?_
      refine Ev.sipush (v := 288) dX6_rest_107 rfl ?_
      refine Ev.iload_n dX6_rest_110 rfl 2 rfl ?_
      obtain ⟨r9, er9, h⟩ := wp_bind h
      refine Ev.callV (k := 54) (as := [.int 288, .int p2]) (rest := [.int x4, .ref (ad E 68)]) dX6_rest_111 cl_X6_212 mok_X6_estatesOf rfl (Nat.le_of_ble_eq_true rfl) (Nat.le_of_ble_eq_true rfl) ⟨Nat.le_of_ble_eq_true rfl, Nat.le_of_ble_eq_true rfl⟩ (Nat.le_of_ble_eq_true rfl) rfl rfl (o_X6_estatesOf ⟨r9, er9, ?_⟩)
      show Ev E mi_X6_rest 114 [(0, .ref (ad E 54)), (1, .int p1), (2, .int p2), (3, .int p3), (4, .int x4)] [.int r9, .int x4, .ref (ad E 68)] M8 Q
      obtain ⟨g10, h⟩ := wp_inb h
      refine Ev.iast dX6_rest_114 rfl (Nat.le_of_ble_eq_true rfl) rfl g10 ?_
      refine Ev.topM (fun M11 eM11 => ?_)
      replace h := wp_lm h M11 eM11
      refine Ev.iinc (v := x4 + 1) dX6_rest_115 4 rfl rfl (Nat.le_of_ble_eq_true rfl) rfl ?_
      show Ev E mi_X6_rest 118 [(4, .int (x4 + 1)), (0, .ref (ad E 54)), (1, .int p1), (2, .int p2), (3, .int p3)] [] M11 Q
      refine Ev.goto (tgt := 44) dX6_rest_118 (by decide) ?_
      refine Ev.sub [1, 2, 3, 4, 0] rfl ?_
      exact ih h
noncomputable def f_X6_rest (p1 : Int32) (p2 : Int32) (p3 : Int32) (M : Mem) : Option (Int32 × Mem) := (f_X6_isHeir p1 M).bind fun r1 => if r1 = 0 then some ((-1), M) else (f_X6_isHeir p2 M).bind fun r3 => if r3 = 0 then some ((-1), M) else if p1 = p2 then some ((-1), M) else (f_X6_in p3.toInt64 0 1 M).bind fun r6 => if r6 = 0 then some ((-1), M) else (f_X6_copies 0 288 M).bind fun r8 => f_X6_rest_44 p1 p2 p3 FU 0 r8
theorem o_X6_rest {E : GE} {Q : Option Value → Mem → Prop} {p1 : Int32} {p2 : Int32} {p3 : Int32} {M : Mem} (h : wp (f_X6_rest p1 p2 p3 M) gIM Q) : Runs E mi_X6_rest [.ref (ad E 54), .int p1, .int p2, .int p3] M Q := by
  refine Runs.ofEv (by decide +kernel) (Nat.le_of_ble_eq_true rfl) ?_
  show Ev E mi_X6_rest 0 [(0, .ref (ad E 54)), (1, .int p1), (2, .int p2), (3, .int p3)] [] M Q
  unfold f_X6_rest at h
  refine Ev.aload_n dX6_rest_0 rfl 0 rfl ?_
  refine Ev.iload_n dX6_rest_1 rfl 1 rfl ?_
  obtain ⟨r1, er1, h⟩ := wp_bind h
  refine Ev.callV (k := 54) (as := [.int p1]) (rest := []) dX6_rest_2 cl_X6_179 mok_X6_isHeir rfl (Nat.le_of_ble_eq_true rfl) (Nat.le_of_ble_eq_true rfl) ⟨Nat.le_of_ble_eq_true rfl, Nat.le_of_ble_eq_true rfl⟩ (Nat.le_of_ble_eq_true rfl) rfl rfl (o_X6_isHeir ⟨r1, er1, ?_⟩)
  show Ev E mi_X6_rest 5 [(0, .ref (ad E 54)), (1, .int p1), (2, .int p2), (3, .int p3)] [.int r1] M Q
  refine Ev.if_eq (tgt := 31) dX6_rest_5 (by decide) (fun c2 => ?_) (fun c2 => ?_)
  · replace h := wp_t c2 h
    refine Ev.iconst (v := (-1)) dX6_rest_31 rfl ?_
    exact Ev.ret dX6_rest_32 rfl rfl (wp_ret h)
  · replace h := wp_f c2 h
    refine Ev.aload_n dX6_rest_8 rfl 0 rfl ?_
    refine Ev.iload_n dX6_rest_9 rfl 2 rfl ?_
    obtain ⟨r3, er3, h⟩ := wp_bind h
    refine Ev.callV (k := 54) (as := [.int p2]) (rest := []) dX6_rest_10 cl_X6_179 mok_X6_isHeir rfl (Nat.le_of_ble_eq_true rfl) (Nat.le_of_ble_eq_true rfl) ⟨Nat.le_of_ble_eq_true rfl, Nat.le_of_ble_eq_true rfl⟩ (Nat.le_of_ble_eq_true rfl) rfl rfl (o_X6_isHeir ⟨r3, er3, ?_⟩)
    show Ev E mi_X6_rest 13 [(0, .ref (ad E 54)), (1, .int p1), (2, .int p2), (3, .int p3)] [.int r3] M Q
    refine Ev.if_eq (tgt := 31) dX6_rest_13 (by decide) (fun c4 => ?_) (fun c4 => ?_)
    · replace h := wp_t c4 h
      refine Ev.iconst (v := (-1)) dX6_rest_31 rfl ?_
      exact Ev.ret dX6_rest_32 rfl rfl (wp_ret h)
    · replace h := wp_f c4 h
      refine Ev.iload_n dX6_rest_16 rfl 1 rfl ?_
      refine Ev.iload_n dX6_rest_17 rfl 2 rfl ?_
      refine Ev.icmp_eq (tgt := 31) dX6_rest_18 (by decide) (fun c5 => ?_) (fun c5 => ?_)
      · replace h := wp_t c5 h
        refine Ev.iconst (v := (-1)) dX6_rest_31 rfl ?_
        exact Ev.ret dX6_rest_32 rfl rfl (wp_ret h)
      · replace h := wp_f c5 h
        refine Ev.iload_n dX6_rest_21 rfl 3 rfl ?_
        refine Ev.i2l dX6_rest_22 ?_
        refine Ev.lconst (v := 0) dX6_rest_23 rfl ?_
        refine Ev.lconst (v := 1) dX6_rest_24 rfl ?_
        obtain ⟨r6, er6, h⟩ := wp_bind h
        refine Ev.callS (as := [.long p3.toInt64, .long 0, .long 1]) (rest := []) dX6_rest_25 cl_X6_73 mos_X6_in ⟨Nat.le_of_ble_eq_true rfl, Nat.le_of_ble_eq_true rfl⟩ (Nat.le_of_ble_eq_true rfl) rfl rfl (o_X6_in ⟨r6, er6, ?_⟩)
        show Ev E mi_X6_rest 28 [(0, .ref (ad E 54)), (1, .int p1), (2, .int p2), (3, .int p3)] [.int r6] M Q
        refine Ev.if_ne (tgt := 33) dX6_rest_28 (by decide) (fun c7 => ?_) (fun c7 => ?_)
        · replace h := wp_t c7 h
          refine Ev.iconst (v := (-1)) dX6_rest_31 rfl ?_
          exact Ev.ret dX6_rest_32 rfl rfl (wp_ret h)
        · replace h := wp_f c7 h
          refine Ev.aload_n dX6_rest_33 rfl 0 rfl ?_
          refine Ev.iconst (v := 0) dX6_rest_34 rfl ?_
          refine Ev.sipush (v := 288) dX6_rest_35 rfl ?_
          obtain ⟨r8, er8, h⟩ := wp_bind h
          refine Ev.callV (k := 54) (as := [.int 0, .int 288]) (rest := []) dX6_rest_38 cl_X6_226 mok_X6_copies rfl (Nat.le_of_ble_eq_true rfl) (Nat.le_of_ble_eq_true rfl) ⟨Nat.le_of_ble_eq_true rfl, Nat.le_of_ble_eq_true rfl⟩ (Nat.le_of_ble_eq_true rfl) rfl rfl (o_X6_copies ⟨r8, er8, ?_⟩)
          show Ev E mi_X6_rest 41 [(0, .ref (ad E 54)), (1, .int p1), (2, .int p2), (3, .int p3)] [] r8 Q
          refine Ev.iconst (v := 0) dX6_rest_41 rfl ?_
          refine Ev.istore dX6_rest_42 (Nat.le_of_ble_eq_true rfl) rfl ?_
          show Ev E mi_X6_rest 44 [(4, .int 0), (0, .ref (ad E 54)), (1, .int p1), (2, .int p2), (3, .int p3)] [] r8 Q
          refine Ev.sub [1, 2, 3, 4, 0] rfl ?_
          exact o_X6_rest_44 FU h

noncomputable def f_X6_lowest_31 (q0 : Int64) (q2 : Int64) (p4 : Int32) (M : Mem) (w5 : Int64) : Option Int64 := if p4 = 0 then nzL w5 <| some (q0 / w5) else nzL w5 <| some (q2 / w5)
theorem o_X6_lowest_31 {E : GE} {Q : Option Value → Mem → Prop} {q0 : Int64} {q2 : Int64} {p4 : Int32} {M : Mem} {w5 : Int64} (h : wp (f_X6_lowest_31 q0 q2 p4 M w5) (gL M) Q) : Ev E mi_X6_lowest 31 [(0, .long q0), (2, .long q2), (4, .int p4), (5, .long w5)] [] M Q := by
  unfold f_X6_lowest_31 at h
  refine Ev.iload dX6_lowest_31 2 rfl ?_
  refine Ev.if_ne (tgt := 40) dX6_lowest_33 (by decide) (fun c1 => ?_) (fun c1 => ?_)
  · replace h := wp_t c1 h
    refine Ev.lload_n dX6_lowest_36 rfl 0 rfl ?_
    refine Ev.goto (tgt := 41) dX6_lowest_37 (by decide) ?_
    refine Ev.lload dX6_lowest_41 3 rfl ?_
    obtain ⟨g2, h⟩ := wp_nzL h
    refine Ev.ldiv dX6_lowest_43 g2 ?_
    exact Ev.lret dX6_lowest_44 rfl (wp_ret h)
  · replace h := wp_f c1 h
    refine Ev.lload_n dX6_lowest_40 rfl 1 rfl ?_
    refine Ev.lload dX6_lowest_41 3 rfl ?_
    obtain ⟨g3, h⟩ := wp_nzL h
    refine Ev.ldiv dX6_lowest_43 g3 ?_
    exact Ev.lret dX6_lowest_44 rfl (wp_ret h)
noncomputable def f_X6_lowest_6 (q0 : Int64) (q2 : Int64) (p4 : Int32) (M : Mem) : Nat → Int64 → Int64 → Option Int64
  | 0, _, _ => none
  | n + 1, w5, w7 => if (lg_cmp w7 0) = 0 then f_X6_lowest_31 q0 q2 p4 M w5 else nzL w7 <| ll (w5 - w5 / w7 * w7) fun y3 => (f_X6_lowest_6 q0 q2 p4 M n) w7 y3
theorem o_X6_lowest_6 {E : GE} {Q : Option Value → Mem → Prop} {q0 : Int64} {q2 : Int64} {p4 : Int32} {M : Mem} : ∀ (n : Nat) {w5 : Int64} {w7 : Int64}, wp (f_X6_lowest_6 q0 q2 p4 M n w5 w7) (gL M) Q → Ev E mi_X6_lowest 6 [(0, .long q0), (2, .long q2), (4, .int p4), (5, .long w5), (7, .long w7)] [] M Q := by
  intro n
  induction n with
  | zero => intro _ _ h; exact absurd h wp_none
  | succ n ih =>
    intro w5 w7 h
    unfold f_X6_lowest_6 at h
    refine Ev.lload dX6_lowest_6 4 rfl ?_
    refine Ev.lconst (v := 0) dX6_lowest_8 rfl ?_
    refine Ev.lcmp dX6_lowest_9 ?_
    refine Ev.if_eq (tgt := 31) dX6_lowest_10 (by decide) (fun c1 => ?_) (fun c1 => ?_)
    · replace h := wp_t c1 h
      refine Ev.sub [0, 1, 2, 3] rfl ?_
      exact o_X6_lowest_31 h
    · replace h := wp_f c1 h
      refine Ev.lload dX6_lowest_13 3 rfl ?_
      refine Ev.lload dX6_lowest_15 4 rfl ?_
      obtain ⟨g2, h⟩ := wp_nzL h
      refine Ev.lrem dX6_lowest_17 g2 ?_
      refine Ev.topl (fun y3 ey3 => ?_)
      replace h := wp_ll h y3 ey3
      refine Ev.lstore dX6_lowest_18 (Nat.le_of_ble_eq_true rfl) rfl ?_
      show Ev E mi_X6_lowest 20 [(9, .long y3), (0, .long q0), (2, .long q2), (4, .int p4), (5, .long w5), (7, .long w7)] [] M Q
      refine Ev.lload dX6_lowest_20 5 rfl ?_
      refine Ev.lstore dX6_lowest_22 (Nat.le_of_ble_eq_true rfl) rfl ?_
      show Ev E mi_X6_lowest 24 [(5, .long w7), (9, .long y3), (0, .long q0), (2, .long q2), (4, .int p4), (7, .long w7)] [] M Q
      refine Ev.lload dX6_lowest_24 1 rfl ?_
      refine Ev.lstore dX6_lowest_26 (Nat.le_of_ble_eq_true rfl) rfl ?_
      show Ev E mi_X6_lowest 28 [(7, .long y3), (5, .long w7), (9, .long y3), (0, .long q0), (2, .long q2), (4, .int p4)] [] M Q
      refine Ev.goto (tgt := 6) dX6_lowest_28 (by decide) ?_
      refine Ev.sub [3, 4, 5, 1, 0] rfl ?_
      exact ih h
noncomputable def f_X6_lowest (q0 : Int64) (q2 : Int64) (p4 : Int32) (M : Mem) : Option Int64 := f_X6_lowest_6 q0 q2 p4 M FU q0 q2
theorem o_X6_lowest {E : GE} {Q : Option Value → Mem → Prop} {q0 : Int64} {q2 : Int64} {p4 : Int32} {M : Mem} (h : wp (f_X6_lowest q0 q2 p4 M) (gL M) Q) : Runs E mi_X6_lowest [.long q0, .long q2, .int p4] M Q := by
  refine Runs.ofEv (by decide +kernel) (Nat.le_of_ble_eq_true rfl) ?_
  show Ev E mi_X6_lowest 0 [(0, .long q0), (2, .long q2), (4, .int p4)] [] M Q
  unfold f_X6_lowest at h
  refine Ev.lload_n dX6_lowest_0 rfl 0 rfl ?_
  refine Ev.lstore dX6_lowest_1 (Nat.le_of_ble_eq_true rfl) rfl ?_
  show Ev E mi_X6_lowest 3 [(5, .long q0), (0, .long q0), (2, .long q2), (4, .int p4)] [] M Q
  refine Ev.lload_n dX6_lowest_3 rfl 2 rfl ?_
  refine Ev.lstore dX6_lowest_4 (Nat.le_of_ble_eq_true rfl) rfl ?_
  show Ev E mi_X6_lowest 6 [(7, .long q2), (5, .long q0), (0, .long q0), (2, .long q2), (4, .int p4)] [] M Q
  refine Ev.sub [2, 3, 4, 1, 0] rfl ?_
  exact o_X6_lowest_6 FU h

noncomputable def f_X6_byDrops_149 (p1 : Int32) (p2 : Int32) (p3 : Int32) (p4 : Int32) (t68 : Int32 → Int64 → Int64 → Int32 → Int64 → Int32 → Int32 → Mem → Option (Int64 × Mem)) (x5 : Int32) (w6 : Int64) (w8 : Int64) (x10 : Int32) (w11 : Int64) (x13 : Int32) (x14 : Int32) (M : Mem) : Option (Int64 × Mem) := t68 x5 w6 w8 x10 w11 x13 (x14 + 1) M
theorem o_X6_byDrops_149 {E : GE} {Q : Option Value → Mem → Prop} {p1 : Int32} {p2 : Int32} {p3 : Int32} {p4 : Int32} {t68 : Int32 → Int64 → Int64 → Int32 → Int64 → Int32 → Int32 → Mem → Option (Int64 × Mem)} {x5 : Int32} {w6 : Int64} {w8 : Int64} {x10 : Int32} {w11 : Int64} {x13 : Int32} {x14 : Int32} {M : Mem} (ht68 : ∀ (x5 : Int32) (w6 : Int64) (w8 : Int64) (x10 : Int32) (w11 : Int64) (x13 : Int32) (x14 : Int32) (M : Mem), wp (t68 x5 w6 w8 x10 w11 x13 x14 M) gLM Q → Ev E mi_X6_byDrops 68 [(0, .ref (ad E 54)), (1, .int p1), (2, .int p2), (3, .int p3), (4, .int p4), (5, .int x5), (6, .long w6), (8, .long w8), (10, .int x10), (11, .long w11), (13, .int x13), (14, .int x14)] [] M Q) (h : wp (f_X6_byDrops_149 p1 p2 p3 p4 t68 x5 w6 w8 x10 w11 x13 x14 M) gLM Q) : Ev E mi_X6_byDrops 149 [(0, .ref (ad E 54)), (1, .int p1), (2, .int p2), (3, .int p3), (4, .int p4), (5, .int x5), (6, .long w6), (8, .long w8), (10, .int x10), (11, .long w11), (13, .int x13), (14, .int x14)] [] M Q := by
  unfold f_X6_byDrops_149 at h
  refine Ev.iinc (v := x14 + 1) dX6_byDrops_149 11 rfl rfl (Nat.le_of_ble_eq_true rfl) rfl ?_
  show Ev E mi_X6_byDrops 152 [(14, .int (x14 + 1)), (0, .ref (ad E 54)), (1, .int p1), (2, .int p2), (3, .int p3), (4, .int p4), (5, .int x5), (6, .long w6), (8, .long w8), (10, .int x10), (11, .long w11), (13, .int x13)] [] M Q
  refine Ev.goto (tgt := 68) dX6_byDrops_152 (by decide) ?_
  refine Ev.sub [1, 2, 3, 4, 5, 6, 7, 8, 9, 10, 11, 0] rfl ?_
  exact ht68 _ _ _ _ _ _ _ _ h
noncomputable def f_X6_byDrops_142 (p1 : Int32) (p2 : Int32) (p3 : Int32) (p4 : Int32) (t68 : Int32 → Int64 → Int64 → Int32 → Int64 → Int32 → Int32 → Mem → Option (Int64 × Mem)) (x5 : Int32) (w6 : Int64) (w8 : Int64) (x10 : Int32) (w11 : Int64) (x13 : Int32) (x14 : Int32) (s1 : Int32) (s2 : Int32) (M : Mem) : Option (Int64 × Mem) := lm (up M 54 25 (s1 ||| s2)) fun M1 => f_X6_byDrops_149 p1 p2 p3 p4 t68 x5 w6 w8 x10 w11 (x13 + 1) x14 M1
theorem o_X6_byDrops_142 {E : GE} {Q : Option Value → Mem → Prop} {p1 : Int32} {p2 : Int32} {p3 : Int32} {p4 : Int32} {t68 : Int32 → Int64 → Int64 → Int32 → Int64 → Int32 → Int32 → Mem → Option (Int64 × Mem)} {x5 : Int32} {w6 : Int64} {w8 : Int64} {x10 : Int32} {w11 : Int64} {x13 : Int32} {x14 : Int32} {s1 : Int32} {s2 : Int32} {M : Mem} (ht68 : ∀ (x5 : Int32) (w6 : Int64) (w8 : Int64) (x10 : Int32) (w11 : Int64) (x13 : Int32) (x14 : Int32) (M : Mem), wp (t68 x5 w6 w8 x10 w11 x13 x14 M) gLM Q → Ev E mi_X6_byDrops 68 [(0, .ref (ad E 54)), (1, .int p1), (2, .int p2), (3, .int p3), (4, .int p4), (5, .int x5), (6, .long w6), (8, .long w8), (10, .int x10), (11, .long w11), (13, .int x13), (14, .int x14)] [] M Q) (h : wp (f_X6_byDrops_142 p1 p2 p3 p4 t68 x5 w6 w8 x10 w11 x13 x14 s1 s2 M) gLM Q) : Ev E mi_X6_byDrops 142 [(0, .ref (ad E 54)), (1, .int p1), (2, .int p2), (3, .int p3), (4, .int p4), (5, .int x5), (6, .long w6), (8, .long w8), (10, .int x10), (11, .long w11), (13, .int x13), (14, .int x14)] [.int s2, .int s1, .ref (ad E 54)] M Q := by
  unfold f_X6_byDrops_142 at h
  refine Ev.ior dX6_byDrops_142 ?_
  refine Ev.putA dX6_byDrops_143 fl_X6_198 rfl (Nat.le_of_ble_eq_true rfl) rfl rfl pf_I rfl rfl ?_
  refine Ev.topM (fun M1 eM1 => ?_)
  replace h := wp_lm h M1 eM1
  refine Ev.iinc (v := x13 + 1) dX6_byDrops_146 10 rfl rfl (Nat.le_of_ble_eq_true rfl) rfl ?_
  show Ev E mi_X6_byDrops 149 [(13, .int (x13 + 1)), (0, .ref (ad E 54)), (1, .int p1), (2, .int p2), (3, .int p3), (4, .int p4), (5, .int x5), (6, .long w6), (8, .long w8), (10, .int x10), (11, .long w11), (14, .int x14)] [] M1 Q
  refine Ev.sub [1, 2, 3, 4, 5, 6, 7, 8, 9, 10, 0, 11] rfl ?_
  exact o_X6_byDrops_149 ht68 h
noncomputable def f_X6_byDrops_121 (p1 : Int32) (p2 : Int32) (p3 : Int32) (p4 : Int32) (t68 : Int32 → Int64 → Int64 → Int32 → Int64 → Int32 → Int32 → Mem → Option (Int64 × Mem)) (x5 : Int32) (w6 : Int64) (w8 : Int64) (x10 : Int32) (x13 : Int32) (x14 : Int32) (x15 : Int32) (u0 : Int64) (u1 : Int64) (M : Mem) : Option (Int64 × Mem) := ll (u0 * u1) fun y1 => if x15 = 0 then f_X6_byDrops_142 p1 p2 p3 p4 t68 x5 w6 w8 x10 y1 x13 x14 (M 54 25) 0 M else f_X6_byDrops_142 p1 p2 p3 p4 t68 x5 w6 w8 x10 y1 x13 x14 (M 54 25) (1 <<< (x14 &&& 31)) M
theorem o_X6_byDrops_121 {E : GE} {Q : Option Value → Mem → Prop} {p1 : Int32} {p2 : Int32} {p3 : Int32} {p4 : Int32} {t68 : Int32 → Int64 → Int64 → Int32 → Int64 → Int32 → Int32 → Mem → Option (Int64 × Mem)} {x5 : Int32} {w6 : Int64} {w8 : Int64} {x10 : Int32} {x13 : Int32} {x14 : Int32} {x15 : Int32} {u0 : Int64} {u1 : Int64} {M : Mem} (ht68 : ∀ (x5 : Int32) (w6 : Int64) (w8 : Int64) (x10 : Int32) (w11 : Int64) (x13 : Int32) (x14 : Int32) (M : Mem), wp (t68 x5 w6 w8 x10 w11 x13 x14 M) gLM Q → Ev E mi_X6_byDrops 68 [(0, .ref (ad E 54)), (1, .int p1), (2, .int p2), (3, .int p3), (4, .int p4), (5, .int x5), (6, .long w6), (8, .long w8), (10, .int x10), (11, .long w11), (13, .int x13), (14, .int x14)] [] M Q) (h : wp (f_X6_byDrops_121 p1 p2 p3 p4 t68 x5 w6 w8 x10 x13 x14 x15 u0 u1 M) gLM Q) : Ev E mi_X6_byDrops 121 [(0, .ref (ad E 54)), (1, .int p1), (2, .int p2), (3, .int p3), (4, .int p4), (5, .int x5), (6, .long w6), (8, .long w8), (10, .int x10), (13, .int x13), (14, .int x14), (15, .int x15)] [.long u1, .long u0] M Q := by
  unfold f_X6_byDrops_121 at h
  refine Ev.lmul dX6_byDrops_121 ?_
  refine Ev.topl (fun y1 ey1 => ?_)
  replace h := wp_ll h y1 ey1
  refine Ev.lstore dX6_byDrops_122 (Nat.le_of_ble_eq_true rfl) rfl ?_
  show Ev E mi_X6_byDrops 124 [(11, .long y1), (0, .ref (ad E 54)), (1, .int p1), (2, .int p2), (3, .int p3), (4, .int p4), (5, .int x5), (6, .long w6), (8, .long w8), (10, .int x10), (13, .int x13), (14, .int x14), (15, .int x15)] [] M Q
  refine Ev.aload_n dX6_byDrops_124 rfl 1 rfl ?_
  refine Ev.dup dX6_byDrops_125 rfl ?_
  refine Ev.get dX6_byDrops_126 fl_X6_198 rfl (Nat.le_of_ble_eq_true rfl) rfl ?_
  refine Ev.iload dX6_byDrops_129 12 rfl ?_
  refine Ev.if_eq (tgt := 141) dX6_byDrops_131 (by decide) (fun c2 => ?_) (fun c2 => ?_)
  · replace h := wp_t c2 h
    refine Ev.iconst (v := 0) dX6_byDrops_141 rfl ?_
    refine Ev.sub [1, 2, 3, 4, 5, 6, 7, 8, 9, 0, 10, 11] rfl ?_
    exact o_X6_byDrops_142 ht68 h
  · replace h := wp_f c2 h
    refine Ev.iconst (v := 1) dX6_byDrops_134 rfl ?_
    refine Ev.iload dX6_byDrops_135 11 rfl ?_
    refine Ev.ishl dX6_byDrops_137 ?_
    refine Ev.goto (tgt := 142) dX6_byDrops_138 (by decide) ?_
    refine Ev.sub [1, 2, 3, 4, 5, 6, 7, 8, 9, 0, 10, 11] rfl ?_
    exact o_X6_byDrops_142 ht68 h
noncomputable def f_X6_byDrops_102 (p1 : Int32) (p2 : Int32) (p3 : Int32) (p4 : Int32) (t68 : Int32 → Int64 → Int64 → Int32 → Int64 → Int32 → Int32 → Mem → Option (Int64 × Mem)) (x5 : Int32) (w6 : Int64) (w8 : Int64) (x10 : Int32) (w11 : Int64) (x13 : Int32) (x14 : Int32) (s0 : Int32) (M : Mem) : Option (Int64 × Mem) := if s0 = 0 then f_X6_byDrops_121 p1 p2 p3 p4 t68 x5 w6 w8 x10 x13 x14 s0 w11 ((10 - p1).toInt64) M else f_X6_byDrops_121 p1 p2 p3 p4 t68 x5 w6 w8 x10 x13 x14 s0 w11 p1.toInt64 M
theorem o_X6_byDrops_102 {E : GE} {Q : Option Value → Mem → Prop} {p1 : Int32} {p2 : Int32} {p3 : Int32} {p4 : Int32} {t68 : Int32 → Int64 → Int64 → Int32 → Int64 → Int32 → Int32 → Mem → Option (Int64 × Mem)} {x5 : Int32} {w6 : Int64} {w8 : Int64} {x10 : Int32} {w11 : Int64} {x13 : Int32} {x14 : Int32} {s0 : Int32} {M : Mem} (ht68 : ∀ (x5 : Int32) (w6 : Int64) (w8 : Int64) (x10 : Int32) (w11 : Int64) (x13 : Int32) (x14 : Int32) (M : Mem), wp (t68 x5 w6 w8 x10 w11 x13 x14 M) gLM Q → Ev E mi_X6_byDrops 68 [(0, .ref (ad E 54)), (1, .int p1), (2, .int p2), (3, .int p3), (4, .int p4), (5, .int x5), (6, .long w6), (8, .long w8), (10, .int x10), (11, .long w11), (13, .int x13), (14, .int x14)] [] M Q) (h : wp (f_X6_byDrops_102 p1 p2 p3 p4 t68 x5 w6 w8 x10 w11 x13 x14 s0 M) gLM Q) : Ev E mi_X6_byDrops 102 [(0, .ref (ad E 54)), (1, .int p1), (2, .int p2), (3, .int p3), (4, .int p4), (5, .int x5), (6, .long w6), (8, .long w8), (10, .int x10), (11, .long w11), (13, .int x13), (14, .int x14)] [.int s0] M Q := by
  unfold f_X6_byDrops_102 at h
  refine Ev.istore dX6_byDrops_102 (Nat.le_of_ble_eq_true rfl) rfl ?_
  show Ev E mi_X6_byDrops 104 [(15, .int s0), (0, .ref (ad E 54)), (1, .int p1), (2, .int p2), (3, .int p3), (4, .int p4), (5, .int x5), (6, .long w6), (8, .long w8), (10, .int x10), (11, .long w11), (13, .int x13), (14, .int x14)] [] M Q
  refine Ev.lload dX6_byDrops_104 10 rfl ?_
  refine Ev.iload dX6_byDrops_106 0 rfl ?_
  refine Ev.if_eq (tgt := 116) dX6_byDrops_108 (by decide) (fun c1 => ?_) (fun c1 => ?_)
  · replace h := wp_t c1 h
    refine Ev.bipush (v := 10) dX6_byDrops_116 rfl ?_
    refine Ev.iload_n dX6_byDrops_118 rfl 2 rfl ?_
    refine Ev.isub dX6_byDrops_119 ?_
    refine Ev.i2l dX6_byDrops_120 ?_
    refine Ev.sub [1, 2, 3, 4, 5, 6, 7, 8, 9, 11, 12, 0] rfl ?_
    exact o_X6_byDrops_121 ht68 h
  · replace h := wp_f c1 h
    refine Ev.iload_n dX6_byDrops_111 rfl 2 rfl ?_
    refine Ev.i2l dX6_byDrops_112 ?_
    refine Ev.goto (tgt := 121) dX6_byDrops_113 (by decide) ?_
    refine Ev.sub [1, 2, 3, 4, 5, 6, 7, 8, 9, 11, 12, 0] rfl ?_
    exact o_X6_byDrops_121 ht68 h
noncomputable def f_X6_byDrops_203 (p1 : Int32) (p2 : Int32) (p3 : Int32) (p4 : Int32) (t42 : Int32 → Int64 → Int64 → Int32 → Mem → Option (Int64 × Mem)) (x5 : Int32) (w8 : Int64) (x10 : Int32) (u0 : Int64) (u1 : Int64) (s2 : Int32) (M : Mem) : Option (Int64 × Mem) := ll (u0 + (u1 * s2.toInt64)) fun y1 => t42 x5 y1 w8 (x10 + 1) M
theorem o_X6_byDrops_203 {E : GE} {Q : Option Value → Mem → Prop} {p1 : Int32} {p2 : Int32} {p3 : Int32} {p4 : Int32} {t42 : Int32 → Int64 → Int64 → Int32 → Mem → Option (Int64 × Mem)} {x5 : Int32} {w8 : Int64} {x10 : Int32} {u0 : Int64} {u1 : Int64} {s2 : Int32} {M : Mem} (ht42 : ∀ (x5 : Int32) (w6 : Int64) (w8 : Int64) (x10 : Int32) (M : Mem), wp (t42 x5 w6 w8 x10 M) gLM Q → Ev E mi_X6_byDrops 42 [(0, .ref (ad E 54)), (1, .int p1), (2, .int p2), (3, .int p3), (4, .int p4), (5, .int x5), (6, .long w6), (8, .long w8), (10, .int x10)] [] M Q) (h : wp (f_X6_byDrops_203 p1 p2 p3 p4 t42 x5 w8 x10 u0 u1 s2 M) gLM Q) : Ev E mi_X6_byDrops 203 [(0, .ref (ad E 54)), (1, .int p1), (2, .int p2), (3, .int p3), (4, .int p4), (5, .int x5), (8, .long w8), (10, .int x10)] [.int s2, .long u1, .long u0] M Q := by
  unfold f_X6_byDrops_203 at h
  refine Ev.i2l dX6_byDrops_203 ?_
  refine Ev.lmul dX6_byDrops_204 ?_
  refine Ev.ladd dX6_byDrops_205 ?_
  refine Ev.topl (fun y1 ey1 => ?_)
  replace h := wp_ll h y1 ey1
  refine Ev.lstore dX6_byDrops_206 (Nat.le_of_ble_eq_true rfl) rfl ?_
  show Ev E mi_X6_byDrops 208 [(6, .long y1), (0, .ref (ad E 54)), (1, .int p1), (2, .int p2), (3, .int p3), (4, .int p4), (5, .int x5), (8, .long w8), (10, .int x10)] [] M Q
  refine Ev.iinc (v := x10 + 1) dX6_byDrops_208 8 rfl rfl (Nat.le_of_ble_eq_true rfl) rfl ?_
  show Ev E mi_X6_byDrops 211 [(10, .int (x10 + 1)), (6, .long y1), (0, .ref (ad E 54)), (1, .int p1), (2, .int p2), (3, .int p3), (4, .int p4), (5, .int x5), (8, .long w8)] [] M Q
  refine Ev.goto (tgt := 42) dX6_byDrops_211 (by decide) ?_
  refine Ev.sub [2, 3, 4, 5, 6, 7, 1, 8, 0] rfl ?_
  exact ht42 _ _ _ _ _ h
noncomputable def f_X6_byDrops_202 (p1 : Int32) (p2 : Int32) (p3 : Int32) (p4 : Int32) (t42 : Int32 → Int64 → Int64 → Int32 → Mem → Option (Int64 × Mem)) (x5 : Int32) (w8 : Int64) (x10 : Int32) (u0 : Int64) (u1 : Int64) (M : Mem) : Option (Int64 × Mem) := f_X6_byDrops_203 p1 p2 p3 p4 t42 x5 w8 x10 u0 u1 0 M
theorem o_X6_byDrops_202 {E : GE} {Q : Option Value → Mem → Prop} {p1 : Int32} {p2 : Int32} {p3 : Int32} {p4 : Int32} {t42 : Int32 → Int64 → Int64 → Int32 → Mem → Option (Int64 × Mem)} {x5 : Int32} {w8 : Int64} {x10 : Int32} {u0 : Int64} {u1 : Int64} {M : Mem} (ht42 : ∀ (x5 : Int32) (w6 : Int64) (w8 : Int64) (x10 : Int32) (M : Mem), wp (t42 x5 w6 w8 x10 M) gLM Q → Ev E mi_X6_byDrops 42 [(0, .ref (ad E 54)), (1, .int p1), (2, .int p2), (3, .int p3), (4, .int p4), (5, .int x5), (6, .long w6), (8, .long w8), (10, .int x10)] [] M Q) (h : wp (f_X6_byDrops_202 p1 p2 p3 p4 t42 x5 w8 x10 u0 u1 M) gLM Q) : Ev E mi_X6_byDrops 202 [(0, .ref (ad E 54)), (1, .int p1), (2, .int p2), (3, .int p3), (4, .int p4), (5, .int x5), (8, .long w8), (10, .int x10)] [.long u1, .long u0] M Q := by
  unfold f_X6_byDrops_202 at h
  refine Ev.iconst (v := 0) dX6_byDrops_202 rfl ?_
  exact o_X6_byDrops_203 ht42 h
noncomputable def f_X6_byDrops_155 (p1 : Int32) (p2 : Int32) (p3 : Int32) (p4 : Int32) (t42 : Int32 → Int64 → Int64 → Int32 → Mem → Option (Int64 × Mem)) (x5 : Int32) (w6 : Int64) (w8 : Int64) (x10 : Int32) (w11 : Int64) (M : Mem) : Option (Int64 × Mem) := (f_X6_worth 0 p3 M).bind fun r1 => if p2 = (-4) then f_X6_byDrops_203 p1 p2 p3 p4 t42 x5 w8 x10 w6 w11 r1.1 r1.2 else rd (r1.2 63) 4 p2 fun r4 => if r4 = 1 then rd (r1.2 65) 4 p2 fun r7 => if r7 = p3 then f_X6_byDrops_203 p1 p2 p3 p4 t42 x5 w8 x10 w6 w11 1 r1.2 else f_X6_byDrops_202 p1 p2 p3 p4 t42 x5 w8 x10 w6 w11 r1.2 else f_X6_byDrops_202 p1 p2 p3 p4 t42 x5 w8 x10 w6 w11 r1.2
theorem o_X6_byDrops_155 {E : GE} {Q : Option Value → Mem → Prop} {p1 : Int32} {p2 : Int32} {p3 : Int32} {p4 : Int32} {t42 : Int32 → Int64 → Int64 → Int32 → Mem → Option (Int64 × Mem)} {x5 : Int32} {w6 : Int64} {w8 : Int64} {x10 : Int32} {w11 : Int64} {M : Mem} (ht42 : ∀ (x5 : Int32) (w6 : Int64) (w8 : Int64) (x10 : Int32) (M : Mem), wp (t42 x5 w6 w8 x10 M) gLM Q → Ev E mi_X6_byDrops 42 [(0, .ref (ad E 54)), (1, .int p1), (2, .int p2), (3, .int p3), (4, .int p4), (5, .int x5), (6, .long w6), (8, .long w8), (10, .int x10)] [] M Q) (h : wp (f_X6_byDrops_155 p1 p2 p3 p4 t42 x5 w6 w8 x10 w11 M) gLM Q) : Ev E mi_X6_byDrops 155 [(0, .ref (ad E 54)), (1, .int p1), (2, .int p2), (3, .int p3), (4, .int p4), (5, .int x5), (6, .long w6), (8, .long w8), (10, .int x10), (11, .long w11)] [] M Q := by
  unfold f_X6_byDrops_155 at h
  refine Ev.aload_n dX6_byDrops_155 rfl 0 rfl ?_
  refine Ev.iconst (v := 0) dX6_byDrops_156 rfl ?_
  refine Ev.iload_n dX6_byDrops_157 rfl 3 rfl ?_
  obtain ⟨r1, er1, h⟩ := wp_bind h
  refine Ev.callV (k := 54) (as := [.int 0, .int p3]) (rest := []) dX6_byDrops_158 cl_X6_220 mok_X6_worth rfl (Nat.le_of_ble_eq_true rfl) (Nat.le_of_ble_eq_true rfl) ⟨Nat.le_of_ble_eq_true rfl, Nat.le_of_ble_eq_true rfl⟩ (Nat.le_of_ble_eq_true rfl) rfl rfl (o_X6_worth ⟨r1, er1, ?_⟩)
  show Ev E mi_X6_byDrops 161 [(0, .ref (ad E 54)), (1, .int p1), (2, .int p2), (3, .int p3), (4, .int p4), (5, .int x5), (6, .long w6), (8, .long w8), (10, .int x10), (11, .long w11)] [.int r1.1] r1.2 Q
  refine Ev.istore dX6_byDrops_161 (Nat.le_of_ble_eq_true rfl) rfl ?_
  show Ev E mi_X6_byDrops 163 [(14, .int r1.1), (0, .ref (ad E 54)), (1, .int p1), (2, .int p2), (3, .int p3), (4, .int p4), (5, .int x5), (6, .long w6), (8, .long w8), (10, .int x10), (11, .long w11)] [] r1.2 Q
  refine Ev.lload dX6_byDrops_163 7 rfl ?_
  refine Ev.lload dX6_byDrops_165 10 rfl ?_
  refine Ev.iload_n dX6_byDrops_167 rfl 3 rfl ?_
  refine Ev.bipush (v := (-4)) dX6_byDrops_168 rfl ?_
  refine Ev.icmp_ne (tgt := 178) dX6_byDrops_170 (by decide) (fun c2 => ?_) (fun c2 => ?_)
  · replace h := wp_t c2 h
    refine Ev.iload dX6_byDrops_173 0 rfl ?_
    refine Ev.goto (tgt := 203) dX6_byDrops_175 (by decide) ?_
    refine Ev.sub [1, 2, 3, 4, 5, 6, 8, 9] rfl ?_
    exact o_X6_byDrops_203 ht42 h
  · replace h := wp_f c2 h
    refine Ev.aload_n dX6_byDrops_178 rfl 1 rfl ?_
    refine Ev.get dX6_byDrops_179 fl_X6_34 rfl (Nat.le_of_ble_eq_true rfl) (v := .ref (ad E 63)) rfl ?_
    refine Ev.iload_n dX6_byDrops_182 rfl 3 rfl ?_
    obtain ⟨g3, h⟩ := wp_rd h
    refine Ev.iald dX6_byDrops_183 rfl (Nat.le_of_ble_eq_true rfl) rfl g3 ?_
    refine Ev.topi (fun r4 er4 => ?_)
    replace h := h r4 er4
    refine Ev.iconst (v := 1) dX6_byDrops_184 rfl ?_
    refine Ev.icmp_ne (tgt := 202) dX6_byDrops_185 (by decide) (fun c5 => ?_) (fun c5 => ?_)
    · replace h := wp_t c5 h
      refine Ev.aload_n dX6_byDrops_188 rfl 1 rfl ?_
      refine Ev.get dX6_byDrops_189 fl_X6_40 rfl (Nat.le_of_ble_eq_true rfl) (v := .ref (ad E 65)) rfl ?_
      refine Ev.iload_n dX6_byDrops_192 rfl 3 rfl ?_
      obtain ⟨g6, h⟩ := wp_rd h
      refine Ev.iald dX6_byDrops_193 rfl (Nat.le_of_ble_eq_true rfl) rfl g6 ?_
      refine Ev.topi (fun r7 er7 => ?_)
      replace h := h r7 er7
      refine Ev.iload_n dX6_byDrops_194 rfl 4 rfl ?_
      refine Ev.icmp_ne (tgt := 202) dX6_byDrops_195 (by decide) (fun c8 => ?_) (fun c8 => ?_)
      · replace h := wp_t c8 h
        refine Ev.iconst (v := 1) dX6_byDrops_198 rfl ?_
        refine Ev.goto (tgt := 203) dX6_byDrops_199 (by decide) ?_
        refine Ev.sub [1, 2, 3, 4, 5, 6, 8, 9] rfl ?_
        exact o_X6_byDrops_203 ht42 h
      · replace h := wp_f c8 h
        refine Ev.sub [1, 2, 3, 4, 5, 6, 8, 9] rfl ?_
        exact o_X6_byDrops_202 ht42 h
    · replace h := wp_f c5 h
      refine Ev.sub [1, 2, 3, 4, 5, 6, 8, 9] rfl ?_
      exact o_X6_byDrops_202 ht42 h
noncomputable def f_X6_byDrops_68 (p1 : Int32) (p2 : Int32) (p3 : Int32) (p4 : Int32) (t42 : Int32 → Int64 → Int64 → Int32 → Mem → Option (Int64 × Mem)) : Nat → Int32 → Int64 → Int64 → Int32 → Int64 → Int32 → Int32 → Mem → Option (Int64 × Mem)
  | 0, _, _, _, _, _, _, _, _ => none
  | n + 1, x5, w6, w8, x10, w11, x13, x14, M => if 24 ≤ x14 then f_X6_byDrops_155 p1 p2 p3 p4 t42 x5 w6 w8 x10 w11 M else if ((x5 >>> (x14 &&& 31)) &&& 1) = 1 then if ((x10 >>> (x13 &&& 31)) &&& 1) = 1 then f_X6_byDrops_102 p1 p2 p3 p4 (f_X6_byDrops_68 p1 p2 p3 p4 t42 n) x5 w6 w8 x10 w11 x13 x14 1 M else f_X6_byDrops_102 p1 p2 p3 p4 (f_X6_byDrops_68 p1 p2 p3 p4 t42 n) x5 w6 w8 x10 w11 x13 x14 0 M else f_X6_byDrops_149 p1 p2 p3 p4 (f_X6_byDrops_68 p1 p2 p3 p4 t42 n) x5 w6 w8 x10 w11 x13 x14 M
theorem o_X6_byDrops_68 {E : GE} {Q : Option Value → Mem → Prop} {p1 : Int32} {p2 : Int32} {p3 : Int32} {p4 : Int32} {t42 : Int32 → Int64 → Int64 → Int32 → Mem → Option (Int64 × Mem)} (ht42 : ∀ (x5 : Int32) (w6 : Int64) (w8 : Int64) (x10 : Int32) (M : Mem), wp (t42 x5 w6 w8 x10 M) gLM Q → Ev E mi_X6_byDrops 42 [(0, .ref (ad E 54)), (1, .int p1), (2, .int p2), (3, .int p3), (4, .int p4), (5, .int x5), (6, .long w6), (8, .long w8), (10, .int x10)] [] M Q) : ∀ (n : Nat) {x5 : Int32} {w6 : Int64} {w8 : Int64} {x10 : Int32} {w11 : Int64} {x13 : Int32} {x14 : Int32} {M : Mem}, wp (f_X6_byDrops_68 p1 p2 p3 p4 t42 n x5 w6 w8 x10 w11 x13 x14 M) gLM Q → Ev E mi_X6_byDrops 68 [(0, .ref (ad E 54)), (1, .int p1), (2, .int p2), (3, .int p3), (4, .int p4), (5, .int x5), (6, .long w6), (8, .long w8), (10, .int x10), (11, .long w11), (13, .int x13), (14, .int x14)] [] M Q := by
  intro n
  induction n with
  | zero => intro _ _ _ _ _ _ _ _ h; exact absurd h wp_none
  | succ n ih =>
    intro x5 w6 w8 x10 w11 x13 x14 M h
    unfold f_X6_byDrops_68 at h
    refine Ev.iload dX6_byDrops_68 11 rfl ?_
    refine Ev.bipush (v := 24) dX6_byDrops_70 rfl ?_
    refine Ev.icmp_ge (tgt := 155) dX6_byDrops_72 (by decide) (fun c1 => ?_) (fun c1 => ?_)
    · replace h := wp_t c1 h
      refine Ev.sub [0, 1, 2, 3, 4, 5, 6, 7, 8, 9] rfl ?_
      exact o_X6_byDrops_155 ht42 h
    · replace h := wp_f c1 h
      refine Ev.iload dX6_byDrops_75 5 rfl ?_
      refine Ev.iload dX6_byDrops_77 11 rfl ?_
      refine Ev.ishr dX6_byDrops_79 ?_
      refine Ev.iconst (v := 1) dX6_byDrops_80 rfl ?_
      refine Ev.iand dX6_byDrops_81 ?_
      refine Ev.iconst (v := 1) dX6_byDrops_82 rfl ?_
      refine Ev.icmp_ne (tgt := 149) dX6_byDrops_83 (by decide) (fun c2 => ?_) (fun c2 => ?_)
      · replace h := wp_t c2 h
        refine Ev.iload dX6_byDrops_86 8 rfl ?_
        refine Ev.iload dX6_byDrops_88 10 rfl ?_
        refine Ev.ishr dX6_byDrops_90 ?_
        refine Ev.iconst (v := 1) dX6_byDrops_91 rfl ?_
        refine Ev.iand dX6_byDrops_92 ?_
        refine Ev.iconst (v := 1) dX6_byDrops_93 rfl ?_
        refine Ev.icmp_ne (tgt := 101) dX6_byDrops_94 (by decide) (fun c3 => ?_) (fun c3 => ?_)
        · replace h := wp_t c3 h
          refine Ev.iconst (v := 1) dX6_byDrops_97 rfl ?_
          refine Ev.goto (tgt := 102) dX6_byDrops_98 (by decide) ?_
          exact o_X6_byDrops_102 (fun _ _ _ _ _ _ _ _ h => ih h) h
        · replace h := wp_f c3 h
          refine Ev.iconst (v := 0) dX6_byDrops_101 rfl ?_
          exact o_X6_byDrops_102 (fun _ _ _ _ _ _ _ _ h => ih h) h
      · replace h := wp_f c2 h
        exact o_X6_byDrops_149 (fun _ _ _ _ _ _ _ _ h => ih h) h
noncomputable def f_X6_byDrops_214 (p1 : Int32) (p2 : Int32) (p3 : Int32) (p4 : Int32) (w6 : Int64) (w8 : Int64) (M : Mem) : Option (Int64 × Mem) := lm (up M 54 25 0) fun M1 => (f_X6_lowest w6 w8 p4 M1).bind fun r2 => some (r2, M1)
theorem o_X6_byDrops_214 {E : GE} {Q : Option Value → Mem → Prop} {p1 : Int32} {p2 : Int32} {p3 : Int32} {p4 : Int32} {w6 : Int64} {w8 : Int64} {M : Mem} (h : wp (f_X6_byDrops_214 p1 p2 p3 p4 w6 w8 M) gLM Q) : Ev E mi_X6_byDrops 214 [(0, .ref (ad E 54)), (4, .int p4), (6, .long w6), (8, .long w8)] [] M Q := by
  unfold f_X6_byDrops_214 at h
  refine Ev.aload_n dX6_byDrops_214 rfl 0 rfl ?_
  refine Ev.iconst (v := 0) dX6_byDrops_215 rfl ?_
  refine Ev.putA dX6_byDrops_216 fl_X6_198 rfl (Nat.le_of_ble_eq_true rfl) rfl rfl pf_I rfl rfl ?_
  refine Ev.topM (fun M1 eM1 => ?_)
  replace h := wp_lm h M1 eM1
  refine Ev.lload dX6_byDrops_219 2 rfl ?_
  refine Ev.lload dX6_byDrops_221 3 rfl ?_
  refine Ev.iload dX6_byDrops_223 1 rfl ?_
  obtain ⟨r2, er2, h⟩ := wp_bind h
  refine Ev.callS (as := [.long w6, .long w8, .int p4]) (rest := []) dX6_byDrops_225 cl_X6_240 mos_X6_lowest ⟨Nat.le_of_ble_eq_true rfl, Nat.le_of_ble_eq_true rfl⟩ (Nat.le_of_ble_eq_true rfl) rfl rfl (o_X6_lowest ⟨r2, er2, ?_⟩)
  show Ev E mi_X6_byDrops 228 [(0, .ref (ad E 54)), (4, .int p4), (6, .long w6), (8, .long w8)] [.long r2] M1 Q
  exact Ev.lret dX6_byDrops_228 rfl (wp_ret h)
noncomputable def f_X6_byDrops_42 (p1 : Int32) (p2 : Int32) (p3 : Int32) (p4 : Int32) : Nat → Int32 → Int64 → Int64 → Int32 → Mem → Option (Int64 × Mem)
  | 0, _, _, _, _, _ => none
  | n + 1, x5, w6, w8, x10, M => (f_X6_bitsOf x5 M).bind fun r1 => if (1 <<< (r1 &&& 31)) ≤ x10 then f_X6_byDrops_214 p1 p2 p3 p4 w6 w8 M else lm (up M 54 25 0) fun M3 => f_X6_byDrops_68 p1 p2 p3 p4 (f_X6_byDrops_42 p1 p2 p3 p4 n) FU x5 w6 w8 x10 1 0 0 M3
theorem o_X6_byDrops_42 {E : GE} {Q : Option Value → Mem → Prop} {p1 : Int32} {p2 : Int32} {p3 : Int32} {p4 : Int32} : ∀ (n : Nat) {x5 : Int32} {w6 : Int64} {w8 : Int64} {x10 : Int32} {M : Mem}, wp (f_X6_byDrops_42 p1 p2 p3 p4 n x5 w6 w8 x10 M) gLM Q → Ev E mi_X6_byDrops 42 [(0, .ref (ad E 54)), (1, .int p1), (2, .int p2), (3, .int p3), (4, .int p4), (5, .int x5), (6, .long w6), (8, .long w8), (10, .int x10)] [] M Q := by
  intro n
  induction n with
  | zero => intro _ _ _ _ _ h; exact absurd h wp_none
  | succ n ih =>
    intro x5 w6 w8 x10 M h
    unfold f_X6_byDrops_42 at h
    refine Ev.iload dX6_byDrops_42 8 rfl ?_
    refine Ev.iconst (v := 1) dX6_byDrops_44 rfl ?_
    refine Ev.iload dX6_byDrops_45 5 rfl ?_
    obtain ⟨r1, er1, h⟩ := wp_bind h
    refine Ev.callS (as := [.int x5]) (rest := [.int 1, .int x10]) dX6_byDrops_47 cl_X6_170 mos_X6_bitsOf ⟨Nat.le_of_ble_eq_true rfl, Nat.le_of_ble_eq_true rfl⟩ (Nat.le_of_ble_eq_true rfl) rfl rfl (o_X6_bitsOf ⟨r1, er1, ?_⟩)
    show Ev E mi_X6_byDrops 50 [(0, .ref (ad E 54)), (1, .int p1), (2, .int p2), (3, .int p3), (4, .int p4), (5, .int x5), (6, .long w6), (8, .long w8), (10, .int x10)] [.int r1, .int 1, .int x10] M Q
    refine Ev.ishl dX6_byDrops_50 ?_
    refine Ev.icmp_ge (tgt := 214) dX6_byDrops_51 (by decide) (fun c2 => ?_) (fun c2 => ?_)
    · replace h := wp_t c2 h
      refine Ev.sub [0, 4, 6, 7] rfl ?_
      exact o_X6_byDrops_214 h
    · replace h := wp_f c2 h
      refine Ev.lconst (v := 1) dX6_byDrops_54 rfl ?_
      refine Ev.lstore dX6_byDrops_55 (Nat.le_of_ble_eq_true rfl) rfl ?_
      show Ev E mi_X6_byDrops 57 [(11, .long 1), (0, .ref (ad E 54)), (1, .int p1), (2, .int p2), (3, .int p3), (4, .int p4), (5, .int x5), (6, .long w6), (8, .long w8), (10, .int x10)] [] M Q
      refine Ev.iconst (v := 0) dX6_byDrops_57 rfl ?_
      refine Ev.istore dX6_byDrops_58 (Nat.le_of_ble_eq_true rfl) rfl ?_
      show Ev E mi_X6_byDrops 60 [(13, .int 0), (11, .long 1), (0, .ref (ad E 54)), (1, .int p1), (2, .int p2), (3, .int p3), (4, .int p4), (5, .int x5), (6, .long w6), (8, .long w8), (10, .int x10)] [] M Q
      refine Ev.aload_n dX6_byDrops_60 rfl 2 rfl ?_
      refine Ev.iconst (v := 0) dX6_byDrops_61 rfl ?_
      refine Ev.putA dX6_byDrops_62 fl_X6_198 rfl (Nat.le_of_ble_eq_true rfl) rfl rfl pf_I rfl rfl ?_
      refine Ev.topM (fun M3 eM3 => ?_)
      replace h := wp_lm h M3 eM3
      refine Ev.iconst (v := 0) dX6_byDrops_65 rfl ?_
      refine Ev.istore dX6_byDrops_66 (Nat.le_of_ble_eq_true rfl) rfl ?_
      show Ev E mi_X6_byDrops 68 [(14, .int 0), (13, .int 0), (11, .long 1), (0, .ref (ad E 54)), (1, .int p1), (2, .int p2), (3, .int p3), (4, .int p4), (5, .int x5), (6, .long w6), (8, .long w8), (10, .int x10)] [] M3 Q
      refine Ev.sub [3, 4, 5, 6, 7, 8, 9, 10, 11, 2, 1, 0] rfl ?_
      exact o_X6_byDrops_68 (fun _ _ _ _ _ h => ih h) FU h
noncomputable def f_X6_byDrops_39 (p1 : Int32) (p2 : Int32) (p3 : Int32) (p4 : Int32) (x5 : Int32) (w6 : Int64) (w8 : Int64) (M : Mem) : Option (Int64 × Mem) := f_X6_byDrops_42 p1 p2 p3 p4 FU x5 w6 w8 0 M
theorem o_X6_byDrops_39 {E : GE} {Q : Option Value → Mem → Prop} {p1 : Int32} {p2 : Int32} {p3 : Int32} {p4 : Int32} {x5 : Int32} {w6 : Int64} {w8 : Int64} {M : Mem} (h : wp (f_X6_byDrops_39 p1 p2 p3 p4 x5 w6 w8 M) gLM Q) : Ev E mi_X6_byDrops 39 [(0, .ref (ad E 54)), (1, .int p1), (2, .int p2), (3, .int p3), (4, .int p4), (5, .int x5), (6, .long w6), (8, .long w8)] [] M Q := by
  unfold f_X6_byDrops_39 at h
  refine Ev.iconst (v := 0) dX6_byDrops_39 rfl ?_
  refine Ev.istore dX6_byDrops_40 (Nat.le_of_ble_eq_true rfl) rfl ?_
  show Ev E mi_X6_byDrops 42 [(10, .int 0), (0, .ref (ad E 54)), (1, .int p1), (2, .int p2), (3, .int p3), (4, .int p4), (5, .int x5), (6, .long w6), (8, .long w8)] [] M Q
  refine Ev.sub [1, 2, 3, 4, 5, 6, 7, 8, 0] rfl ?_
  exact o_X6_byDrops_42 FU h
noncomputable def f_X6_byDrops_15 (p1 : Int32) (p2 : Int32) (p3 : Int32) (p4 : Int32) : Nat → Int32 → Int64 → Int64 → Int32 → Mem → Option (Int64 × Mem)
  | 0, _, _, _, _, _ => none
  | n + 1, x5, w6, w8, x10, M => (f_X6_bitsOf x5 M).bind fun r1 => if r1 ≤ x10 then f_X6_byDrops_39 p1 p2 p3 p4 x5 w6 w8 M else ll (w8 * 10) fun y3 => (f_X6_byDrops_15 p1 p2 p3 p4 n) x5 w6 y3 (x10 + 1) M
theorem o_X6_byDrops_15 {E : GE} {Q : Option Value → Mem → Prop} {p1 : Int32} {p2 : Int32} {p3 : Int32} {p4 : Int32} : ∀ (n : Nat) {x5 : Int32} {w6 : Int64} {w8 : Int64} {x10 : Int32} {M : Mem}, wp (f_X6_byDrops_15 p1 p2 p3 p4 n x5 w6 w8 x10 M) gLM Q → Ev E mi_X6_byDrops 15 [(0, .ref (ad E 54)), (1, .int p1), (2, .int p2), (3, .int p3), (4, .int p4), (5, .int x5), (6, .long w6), (8, .long w8), (10, .int x10)] [] M Q := by
  intro n
  induction n with
  | zero => intro _ _ _ _ _ h; exact absurd h wp_none
  | succ n ih =>
    intro x5 w6 w8 x10 M h
    unfold f_X6_byDrops_15 at h
    refine Ev.iload dX6_byDrops_15 8 rfl ?_
    refine Ev.iload dX6_byDrops_17 5 rfl ?_
    obtain ⟨r1, er1, h⟩ := wp_bind h
    refine Ev.callS (as := [.int x5]) (rest := [.int x10]) dX6_byDrops_19 cl_X6_170 mos_X6_bitsOf ⟨Nat.le_of_ble_eq_true rfl, Nat.le_of_ble_eq_true rfl⟩ (Nat.le_of_ble_eq_true rfl) rfl rfl (o_X6_bitsOf ⟨r1, er1, ?_⟩)
    show Ev E mi_X6_byDrops 22 [(0, .ref (ad E 54)), (1, .int p1), (2, .int p2), (3, .int p3), (4, .int p4), (5, .int x5), (6, .long w6), (8, .long w8), (10, .int x10)] [.int r1, .int x10] M Q
    refine Ev.icmp_ge (tgt := 39) dX6_byDrops_22 (by decide) (fun c2 => ?_) (fun c2 => ?_)
    · replace h := wp_t c2 h
      refine Ev.sub [0, 1, 2, 3, 4, 5, 6, 7] rfl ?_
      exact o_X6_byDrops_39 h
    · replace h := wp_f c2 h
      refine Ev.lload dX6_byDrops_25 7 rfl ?_
      refine Ev.ldc2 dX6_byDrops_27 fc_X6_238 ?_
      refine Ev.lmul dX6_byDrops_30 ?_
      refine Ev.topl (fun y3 ey3 => ?_)
      replace h := wp_ll h y3 ey3
      refine Ev.lstore dX6_byDrops_31 (Nat.le_of_ble_eq_true rfl) rfl ?_
      show Ev E mi_X6_byDrops 33 [(8, .long y3), (0, .ref (ad E 54)), (1, .int p1), (2, .int p2), (3, .int p3), (4, .int p4), (5, .int x5), (6, .long w6), (10, .int x10)] [] M Q
      refine Ev.iinc (v := x10 + 1) dX6_byDrops_33 8 rfl rfl (Nat.le_of_ble_eq_true rfl) rfl ?_
      show Ev E mi_X6_byDrops 36 [(10, .int (x10 + 1)), (8, .long y3), (0, .ref (ad E 54)), (1, .int p1), (2, .int p2), (3, .int p3), (4, .int p4), (5, .int x5), (6, .long w6)] [] M Q
      refine Ev.goto (tgt := 15) dX6_byDrops_36 (by decide) ?_
      refine Ev.sub [2, 3, 4, 5, 6, 7, 8, 1, 0] rfl ?_
      exact ih h
noncomputable def f_X6_byDrops (p1 : Int32) (p2 : Int32) (p3 : Int32) (p4 : Int32) (M : Mem) : Option (Int64 × Mem) := (f_X6_windyHours M).bind fun r1 => f_X6_byDrops_15 p1 p2 p3 p4 FU r1 0 1 0 M
theorem o_X6_byDrops {E : GE} {Q : Option Value → Mem → Prop} {p1 : Int32} {p2 : Int32} {p3 : Int32} {p4 : Int32} {M : Mem} (h : wp (f_X6_byDrops p1 p2 p3 p4 M) gLM Q) : Runs E mi_X6_byDrops [.ref (ad E 54), .int p1, .int p2, .int p3, .int p4] M Q := by
  refine Runs.ofEv (by decide +kernel) (Nat.le_of_ble_eq_true rfl) ?_
  show Ev E mi_X6_byDrops 0 [(0, .ref (ad E 54)), (1, .int p1), (2, .int p2), (3, .int p3), (4, .int p4)] [] M Q
  unfold f_X6_byDrops at h
  refine Ev.aload_n dX6_byDrops_0 rfl 0 rfl ?_
  obtain ⟨r1, er1, h⟩ := wp_bind h
  refine Ev.callV (k := 54) (as := []) (rest := []) dX6_byDrops_1 cl_X6_167 mok_X6_windyHours rfl (Nat.le_of_ble_eq_true rfl) (Nat.le_of_ble_eq_true rfl) ⟨Nat.le_of_ble_eq_true rfl, Nat.le_of_ble_eq_true rfl⟩ (Nat.le_of_ble_eq_true rfl) rfl rfl (o_X6_windyHours ⟨r1, er1, ?_⟩)
  show Ev E mi_X6_byDrops 4 [(0, .ref (ad E 54)), (1, .int p1), (2, .int p2), (3, .int p3), (4, .int p4)] [.int r1] M Q
  refine Ev.istore dX6_byDrops_4 (Nat.le_of_ble_eq_true rfl) rfl ?_
  show Ev E mi_X6_byDrops 6 [(5, .int r1), (0, .ref (ad E 54)), (1, .int p1), (2, .int p2), (3, .int p3), (4, .int p4)] [] M Q
  refine Ev.lconst (v := 0) dX6_byDrops_6 rfl ?_
  refine Ev.lstore dX6_byDrops_7 (Nat.le_of_ble_eq_true rfl) rfl ?_
  show Ev E mi_X6_byDrops 9 [(6, .long 0), (5, .int r1), (0, .ref (ad E 54)), (1, .int p1), (2, .int p2), (3, .int p3), (4, .int p4)] [] M Q
  refine Ev.lconst (v := 1) dX6_byDrops_9 rfl ?_
  refine Ev.lstore dX6_byDrops_10 (Nat.le_of_ble_eq_true rfl) rfl ?_
  show Ev E mi_X6_byDrops 12 [(8, .long 1), (6, .long 0), (5, .int r1), (0, .ref (ad E 54)), (1, .int p1), (2, .int p2), (3, .int p3), (4, .int p4)] [] M Q
  refine Ev.iconst (v := 0) dX6_byDrops_12 rfl ?_
  refine Ev.istore dX6_byDrops_13 (Nat.le_of_ble_eq_true rfl) rfl ?_
  show Ev E mi_X6_byDrops 15 [(10, .int 0), (8, .long 1), (6, .long 0), (5, .int r1), (0, .ref (ad E 54)), (1, .int p1), (2, .int p2), (3, .int p3), (4, .int p4)] [] M Q
  refine Ev.sub [4, 5, 6, 7, 8, 3, 2, 1, 0] rfl ?_
  exact o_X6_byDrops_15 FU h

noncomputable def f_X6_luck (p1 : Int32) (p2 : Int32) (p3 : Int32) (p4 : Int32) (M : Mem) : Option (Int64 × Mem) := (f_X6_in p1.toInt64 0 10 M).bind fun r1 => if r1 = 0 then some ((-1), M) else (f_X6_isTub p2 M).bind fun r3 => if r3 = 0 then some ((-1), M) else (f_X6_isHeir p3 M).bind fun r5 => if r5 = 0 then some ((-1), M) else (f_X6_in p4.toInt64 0 1 M).bind fun r7 => if r7 = 0 then some ((-1), M) else (f_X6_windyHours M).bind fun r9 => (f_X6_bitsOf r9 M).bind fun r10 => if r10 ≤ 8 then (f_X6_byDrops p1 p2 p3 p4 M).bind fun r12 => some (r12.1, r12.2) else some ((-2), M)
theorem o_X6_luck {E : GE} {Q : Option Value → Mem → Prop} {p1 : Int32} {p2 : Int32} {p3 : Int32} {p4 : Int32} {M : Mem} (h : wp (f_X6_luck p1 p2 p3 p4 M) gLM Q) : Runs E mi_X6_luck [.ref (ad E 54), .int p1, .int p2, .int p3, .int p4] M Q := by
  refine Runs.ofEv (by decide +kernel) (Nat.le_of_ble_eq_true rfl) ?_
  show Ev E mi_X6_luck 0 [(0, .ref (ad E 54)), (1, .int p1), (2, .int p2), (3, .int p3), (4, .int p4)] [] M Q
  unfold f_X6_luck at h
  refine Ev.iload_n dX6_luck_0 rfl 1 rfl ?_
  refine Ev.i2l dX6_luck_1 ?_
  refine Ev.lconst (v := 0) dX6_luck_2 rfl ?_
  refine Ev.ldc2 dX6_luck_3 fc_X6_238 ?_
  obtain ⟨r1, er1, h⟩ := wp_bind h
  refine Ev.callS (as := [.long p1.toInt64, .long 0, .long 10]) (rest := []) dX6_luck_6 cl_X6_73 mos_X6_in ⟨Nat.le_of_ble_eq_true rfl, Nat.le_of_ble_eq_true rfl⟩ (Nat.le_of_ble_eq_true rfl) rfl rfl (o_X6_in ⟨r1, er1, ?_⟩)
  show Ev E mi_X6_luck 9 [(0, .ref (ad E 54)), (1, .int p1), (2, .int p2), (3, .int p3), (4, .int p4)] [.int r1] M Q
  refine Ev.if_eq (tgt := 39) dX6_luck_9 (by decide) (fun c2 => ?_) (fun c2 => ?_)
  · replace h := wp_t c2 h
    refine Ev.ldc2 dX6_luck_39 fc_X6_244 ?_
    exact Ev.lret dX6_luck_42 rfl (wp_ret h)
  · replace h := wp_f c2 h
    refine Ev.aload_n dX6_luck_12 rfl 0 rfl ?_
    refine Ev.iload_n dX6_luck_13 rfl 2 rfl ?_
    obtain ⟨r3, er3, h⟩ := wp_bind h
    refine Ev.callV (k := 54) (as := [.int p2]) (rest := []) dX6_luck_14 cl_X6_173 mok_X6_isTub rfl (Nat.le_of_ble_eq_true rfl) (Nat.le_of_ble_eq_true rfl) ⟨Nat.le_of_ble_eq_true rfl, Nat.le_of_ble_eq_true rfl⟩ (Nat.le_of_ble_eq_true rfl) rfl rfl (o_X6_isTub ⟨r3, er3, ?_⟩)
    show Ev E mi_X6_luck 17 [(0, .ref (ad E 54)), (1, .int p1), (2, .int p2), (3, .int p3), (4, .int p4)] [.int r3] M Q
    refine Ev.if_eq (tgt := 39) dX6_luck_17 (by decide) (fun c4 => ?_) (fun c4 => ?_)
    · replace h := wp_t c4 h
      refine Ev.ldc2 dX6_luck_39 fc_X6_244 ?_
      exact Ev.lret dX6_luck_42 rfl (wp_ret h)
    · replace h := wp_f c4 h
      refine Ev.aload_n dX6_luck_20 rfl 0 rfl ?_
      refine Ev.iload_n dX6_luck_21 rfl 3 rfl ?_
      obtain ⟨r5, er5, h⟩ := wp_bind h
      refine Ev.callV (k := 54) (as := [.int p3]) (rest := []) dX6_luck_22 cl_X6_179 mok_X6_isHeir rfl (Nat.le_of_ble_eq_true rfl) (Nat.le_of_ble_eq_true rfl) ⟨Nat.le_of_ble_eq_true rfl, Nat.le_of_ble_eq_true rfl⟩ (Nat.le_of_ble_eq_true rfl) rfl rfl (o_X6_isHeir ⟨r5, er5, ?_⟩)
      show Ev E mi_X6_luck 25 [(0, .ref (ad E 54)), (1, .int p1), (2, .int p2), (3, .int p3), (4, .int p4)] [.int r5] M Q
      refine Ev.if_eq (tgt := 39) dX6_luck_25 (by decide) (fun c6 => ?_) (fun c6 => ?_)
      · replace h := wp_t c6 h
        refine Ev.ldc2 dX6_luck_39 fc_X6_244 ?_
        exact Ev.lret dX6_luck_42 rfl (wp_ret h)
      · replace h := wp_f c6 h
        refine Ev.iload dX6_luck_28 4 rfl ?_
        refine Ev.i2l dX6_luck_30 ?_
        refine Ev.lconst (v := 0) dX6_luck_31 rfl ?_
        refine Ev.lconst (v := 1) dX6_luck_32 rfl ?_
        obtain ⟨r7, er7, h⟩ := wp_bind h
        refine Ev.callS (as := [.long p4.toInt64, .long 0, .long 1]) (rest := []) dX6_luck_33 cl_X6_73 mos_X6_in ⟨Nat.le_of_ble_eq_true rfl, Nat.le_of_ble_eq_true rfl⟩ (Nat.le_of_ble_eq_true rfl) rfl rfl (o_X6_in ⟨r7, er7, ?_⟩)
        show Ev E mi_X6_luck 36 [(0, .ref (ad E 54)), (1, .int p1), (2, .int p2), (3, .int p3), (4, .int p4)] [.int r7] M Q
        refine Ev.if_ne (tgt := 43) dX6_luck_36 (by decide) (fun c8 => ?_) (fun c8 => ?_)
        · replace h := wp_t c8 h
          refine Ev.ldc2 dX6_luck_39 fc_X6_244 ?_
          exact Ev.lret dX6_luck_42 rfl (wp_ret h)
        · replace h := wp_f c8 h
          refine Ev.aload_n dX6_luck_43 rfl 0 rfl ?_
          obtain ⟨r9, er9, h⟩ := wp_bind h
          refine Ev.callV (k := 54) (as := []) (rest := []) dX6_luck_44 cl_X6_167 mok_X6_windyHours rfl (Nat.le_of_ble_eq_true rfl) (Nat.le_of_ble_eq_true rfl) ⟨Nat.le_of_ble_eq_true rfl, Nat.le_of_ble_eq_true rfl⟩ (Nat.le_of_ble_eq_true rfl) rfl rfl (o_X6_windyHours ⟨r9, er9, ?_⟩)
          show Ev E mi_X6_luck 47 [(0, .ref (ad E 54)), (1, .int p1), (2, .int p2), (3, .int p3), (4, .int p4)] [.int r9] M Q
          obtain ⟨r10, er10, h⟩ := wp_bind h
          refine Ev.callS (as := [.int r9]) (rest := []) dX6_luck_47 cl_X6_170 mos_X6_bitsOf ⟨Nat.le_of_ble_eq_true rfl, Nat.le_of_ble_eq_true rfl⟩ (Nat.le_of_ble_eq_true rfl) rfl rfl (o_X6_bitsOf ⟨r10, er10, ?_⟩)
          show Ev E mi_X6_luck 50 [(0, .ref (ad E 54)), (1, .int p1), (2, .int p2), (3, .int p3), (4, .int p4)] [.int r10] M Q
          refine Ev.bipush (v := 8) dX6_luck_50 rfl ?_
          refine Ev.icmp_le (tgt := 61) dX6_luck_52 (by decide) (fun c11 => ?_) (fun c11 => ?_)
          · replace h := wp_t c11 h
            refine Ev.aload_n dX6_luck_61 rfl 0 rfl ?_
            refine Ev.iload_n dX6_luck_62 rfl 1 rfl ?_
            refine Ev.iload_n dX6_luck_63 rfl 2 rfl ?_
            refine Ev.iload_n dX6_luck_64 rfl 3 rfl ?_
            refine Ev.iload dX6_luck_65 4 rfl ?_
            obtain ⟨r12, er12, h⟩ := wp_bind h
            refine Ev.callV (k := 54) (as := [.int p1, .int p2, .int p3, .int p4]) (rest := []) dX6_luck_67 cl_X6_248 mok_X6_byDrops rfl (Nat.le_of_ble_eq_true rfl) (Nat.le_of_ble_eq_true rfl) ⟨Nat.le_of_ble_eq_true rfl, Nat.le_of_ble_eq_true rfl⟩ (Nat.le_of_ble_eq_true rfl) rfl rfl (o_X6_byDrops ⟨r12, er12, ?_⟩)
            show Ev E mi_X6_luck 70 [(0, .ref (ad E 54)), (1, .int p1), (2, .int p2), (3, .int p3), (4, .int p4)] [.long r12.1] r12.2 Q
            exact Ev.lret dX6_luck_70 rfl (wp_ret h)
          · replace h := wp_f c11 h
            refine Ev.ldc2 dX6_luck_55 fc_X6_246 ?_
            refine Ev.goto (tgt := 70) dX6_luck_58 (by decide) ?_
            exact Ev.lret dX6_luck_70 rfl (wp_ret h)

noncomputable def f_X6_mean (p1 : Int32) (p2 : Int32) (p3 : Int32) (M : Mem) : Option (Int64 × Mem) := (f_X6_in p1.toInt64 0 10 M).bind fun r1 => if r1 = 0 then some ((-1), M) else (f_X6_isHeir p2 M).bind fun r3 => if r3 = 0 then some ((-1), M) else (f_X6_in p3.toInt64 0 1 M).bind fun r5 => if r5 = 0 then some ((-1), M) else (f_X6_windyHours M).bind fun r7 => (f_X6_bitsOf r7 M).bind fun r8 => if r8 ≤ 8 then (f_X6_byDrops p1 (-4) p2 p3 M).bind fun r10 => some (r10.1, r10.2) else some ((-2), M)
theorem o_X6_mean {E : GE} {Q : Option Value → Mem → Prop} {p1 : Int32} {p2 : Int32} {p3 : Int32} {M : Mem} (h : wp (f_X6_mean p1 p2 p3 M) gLM Q) : Runs E mi_X6_mean [.ref (ad E 54), .int p1, .int p2, .int p3] M Q := by
  refine Runs.ofEv (by decide +kernel) (Nat.le_of_ble_eq_true rfl) ?_
  show Ev E mi_X6_mean 0 [(0, .ref (ad E 54)), (1, .int p1), (2, .int p2), (3, .int p3)] [] M Q
  unfold f_X6_mean at h
  refine Ev.iload_n dX6_mean_0 rfl 1 rfl ?_
  refine Ev.i2l dX6_mean_1 ?_
  refine Ev.lconst (v := 0) dX6_mean_2 rfl ?_
  refine Ev.ldc2 dX6_mean_3 fc_X6_238 ?_
  obtain ⟨r1, er1, h⟩ := wp_bind h
  refine Ev.callS (as := [.long p1.toInt64, .long 0, .long 10]) (rest := []) dX6_mean_6 cl_X6_73 mos_X6_in ⟨Nat.le_of_ble_eq_true rfl, Nat.le_of_ble_eq_true rfl⟩ (Nat.le_of_ble_eq_true rfl) rfl rfl (o_X6_in ⟨r1, er1, ?_⟩)
  show Ev E mi_X6_mean 9 [(0, .ref (ad E 54)), (1, .int p1), (2, .int p2), (3, .int p3)] [.int r1] M Q
  refine Ev.if_eq (tgt := 30) dX6_mean_9 (by decide) (fun c2 => ?_) (fun c2 => ?_)
  · replace h := wp_t c2 h
    refine Ev.ldc2 dX6_mean_30 fc_X6_244 ?_
    exact Ev.lret dX6_mean_33 rfl (wp_ret h)
  · replace h := wp_f c2 h
    refine Ev.aload_n dX6_mean_12 rfl 0 rfl ?_
    refine Ev.iload_n dX6_mean_13 rfl 2 rfl ?_
    obtain ⟨r3, er3, h⟩ := wp_bind h
    refine Ev.callV (k := 54) (as := [.int p2]) (rest := []) dX6_mean_14 cl_X6_179 mok_X6_isHeir rfl (Nat.le_of_ble_eq_true rfl) (Nat.le_of_ble_eq_true rfl) ⟨Nat.le_of_ble_eq_true rfl, Nat.le_of_ble_eq_true rfl⟩ (Nat.le_of_ble_eq_true rfl) rfl rfl (o_X6_isHeir ⟨r3, er3, ?_⟩)
    show Ev E mi_X6_mean 17 [(0, .ref (ad E 54)), (1, .int p1), (2, .int p2), (3, .int p3)] [.int r3] M Q
    refine Ev.if_eq (tgt := 30) dX6_mean_17 (by decide) (fun c4 => ?_) (fun c4 => ?_)
    · replace h := wp_t c4 h
      refine Ev.ldc2 dX6_mean_30 fc_X6_244 ?_
      exact Ev.lret dX6_mean_33 rfl (wp_ret h)
    · replace h := wp_f c4 h
      refine Ev.iload_n dX6_mean_20 rfl 3 rfl ?_
      refine Ev.i2l dX6_mean_21 ?_
      refine Ev.lconst (v := 0) dX6_mean_22 rfl ?_
      refine Ev.lconst (v := 1) dX6_mean_23 rfl ?_
      obtain ⟨r5, er5, h⟩ := wp_bind h
      refine Ev.callS (as := [.long p3.toInt64, .long 0, .long 1]) (rest := []) dX6_mean_24 cl_X6_73 mos_X6_in ⟨Nat.le_of_ble_eq_true rfl, Nat.le_of_ble_eq_true rfl⟩ (Nat.le_of_ble_eq_true rfl) rfl rfl (o_X6_in ⟨r5, er5, ?_⟩)
      show Ev E mi_X6_mean 27 [(0, .ref (ad E 54)), (1, .int p1), (2, .int p2), (3, .int p3)] [.int r5] M Q
      refine Ev.if_ne (tgt := 34) dX6_mean_27 (by decide) (fun c6 => ?_) (fun c6 => ?_)
      · replace h := wp_t c6 h
        refine Ev.ldc2 dX6_mean_30 fc_X6_244 ?_
        exact Ev.lret dX6_mean_33 rfl (wp_ret h)
      · replace h := wp_f c6 h
        refine Ev.aload_n dX6_mean_34 rfl 0 rfl ?_
        obtain ⟨r7, er7, h⟩ := wp_bind h
        refine Ev.callV (k := 54) (as := []) (rest := []) dX6_mean_35 cl_X6_167 mok_X6_windyHours rfl (Nat.le_of_ble_eq_true rfl) (Nat.le_of_ble_eq_true rfl) ⟨Nat.le_of_ble_eq_true rfl, Nat.le_of_ble_eq_true rfl⟩ (Nat.le_of_ble_eq_true rfl) rfl rfl (o_X6_windyHours ⟨r7, er7, ?_⟩)
        show Ev E mi_X6_mean 38 [(0, .ref (ad E 54)), (1, .int p1), (2, .int p2), (3, .int p3)] [.int r7] M Q
        obtain ⟨r8, er8, h⟩ := wp_bind h
        refine Ev.callS (as := [.int r7]) (rest := []) dX6_mean_38 cl_X6_170 mos_X6_bitsOf ⟨Nat.le_of_ble_eq_true rfl, Nat.le_of_ble_eq_true rfl⟩ (Nat.le_of_ble_eq_true rfl) rfl rfl (o_X6_bitsOf ⟨r8, er8, ?_⟩)
        show Ev E mi_X6_mean 41 [(0, .ref (ad E 54)), (1, .int p1), (2, .int p2), (3, .int p3)] [.int r8] M Q
        refine Ev.bipush (v := 8) dX6_mean_41 rfl ?_
        refine Ev.icmp_le (tgt := 52) dX6_mean_43 (by decide) (fun c9 => ?_) (fun c9 => ?_)
        · replace h := wp_t c9 h
          refine Ev.aload_n dX6_mean_52 rfl 0 rfl ?_
          refine Ev.iload_n dX6_mean_53 rfl 1 rfl ?_
          refine Ev.bipush (v := (-4)) dX6_mean_54 rfl ?_
          refine Ev.iload_n dX6_mean_56 rfl 2 rfl ?_
          refine Ev.iload_n dX6_mean_57 rfl 3 rfl ?_
          obtain ⟨r10, er10, h⟩ := wp_bind h
          refine Ev.callV (k := 54) (as := [.int p1, .int (-4), .int p2, .int p3]) (rest := []) dX6_mean_58 cl_X6_248 mok_X6_byDrops rfl (Nat.le_of_ble_eq_true rfl) (Nat.le_of_ble_eq_true rfl) ⟨Nat.le_of_ble_eq_true rfl, Nat.le_of_ble_eq_true rfl⟩ (Nat.le_of_ble_eq_true rfl) rfl rfl (o_X6_byDrops ⟨r10, er10, ?_⟩)
          show Ev E mi_X6_mean 61 [(0, .ref (ad E 54)), (1, .int p1), (2, .int p2), (3, .int p3)] [.long r10.1] r10.2 Q
          exact Ev.lret dX6_mean_61 rfl (wp_ret h)
        · replace h := wp_f c9 h
          refine Ev.ldc2 dX6_mean_46 fc_X6_246 ?_
          refine Ev.goto (tgt := 61) dX6_mean_49 (by decide) ?_
          exact Ev.lret dX6_mean_61 rfl (wp_ret h)

noncomputable def f_X6_see (p1 : Int32) (p2 : Int32) (p3 : Int32) (M : Mem) : Option (Int32 × Mem) := (f_X6_isTub p1 M).bind fun r1 => if r1 = 0 then some ((-1), M) else (f_X6_in p2.toInt64 0 24 M).bind fun r3 => if r3 = 0 then some ((-1), M) else (f_X6_in p3.toInt64 0 30 M).bind fun r5 => if r5 = 0 then some ((-1), M) else if (M 54 29) = 6 then some ((-3), M) else inb (3 * (M 54 29)) 18 <| lm (up M 69 (3 * (M 54 29)).toNatClampNeg p1) fun M9 => inb ((3 * (M9 54 29)) + 1) 18 <| lm (up M9 69 ((3 * (M9 54 29)) + 1).toNatClampNeg p2) fun M11 => inb ((3 * (M11 54 29)) + 2) 18 <| lm (up M11 69 ((3 * (M11 54 29)) + 2).toNatClampNeg p3) fun M13 => lm (up M13 54 29 ((M13 54 29) + 1)) fun M14 => some (M14 54 29, M14)
theorem o_X6_see {E : GE} {Q : Option Value → Mem → Prop} {p1 : Int32} {p2 : Int32} {p3 : Int32} {M : Mem} (h : wp (f_X6_see p1 p2 p3 M) gIM Q) : Runs E mi_X6_see [.ref (ad E 54), .int p1, .int p2, .int p3] M Q := by
  refine Runs.ofEv (by decide +kernel) (Nat.le_of_ble_eq_true rfl) ?_
  show Ev E mi_X6_see 0 [(0, .ref (ad E 54)), (1, .int p1), (2, .int p2), (3, .int p3)] [] M Q
  unfold f_X6_see at h
  refine Ev.aload_n dX6_see_0 rfl 0 rfl ?_
  refine Ev.iload_n dX6_see_1 rfl 1 rfl ?_
  obtain ⟨r1, er1, h⟩ := wp_bind h
  refine Ev.callV (k := 54) (as := [.int p1]) (rest := []) dX6_see_2 cl_X6_173 mok_X6_isTub rfl (Nat.le_of_ble_eq_true rfl) (Nat.le_of_ble_eq_true rfl) ⟨Nat.le_of_ble_eq_true rfl, Nat.le_of_ble_eq_true rfl⟩ (Nat.le_of_ble_eq_true rfl) rfl rfl (o_X6_isTub ⟨r1, er1, ?_⟩)
  show Ev E mi_X6_see 5 [(0, .ref (ad E 54)), (1, .int p1), (2, .int p2), (3, .int p3)] [.int r1] M Q
  refine Ev.if_eq (tgt := 32) dX6_see_5 (by decide) (fun c2 => ?_) (fun c2 => ?_)
  · replace h := wp_t c2 h
    refine Ev.iconst (v := (-1)) dX6_see_32 rfl ?_
    exact Ev.ret dX6_see_33 rfl rfl (wp_ret h)
  · replace h := wp_f c2 h
    refine Ev.iload_n dX6_see_8 rfl 2 rfl ?_
    refine Ev.i2l dX6_see_9 ?_
    refine Ev.lconst (v := 0) dX6_see_10 rfl ?_
    refine Ev.ldc2 dX6_see_11 fc_X6_216 ?_
    obtain ⟨r3, er3, h⟩ := wp_bind h
    refine Ev.callS (as := [.long p2.toInt64, .long 0, .long 24]) (rest := []) dX6_see_14 cl_X6_73 mos_X6_in ⟨Nat.le_of_ble_eq_true rfl, Nat.le_of_ble_eq_true rfl⟩ (Nat.le_of_ble_eq_true rfl) rfl rfl (o_X6_in ⟨r3, er3, ?_⟩)
    show Ev E mi_X6_see 17 [(0, .ref (ad E 54)), (1, .int p1), (2, .int p2), (3, .int p3)] [.int r3] M Q
    refine Ev.if_eq (tgt := 32) dX6_see_17 (by decide) (fun c4 => ?_) (fun c4 => ?_)
    · replace h := wp_t c4 h
      refine Ev.iconst (v := (-1)) dX6_see_32 rfl ?_
      exact Ev.ret dX6_see_33 rfl rfl (wp_ret h)
    · replace h := wp_f c4 h
      refine Ev.iload_n dX6_see_20 rfl 3 rfl ?_
      refine Ev.i2l dX6_see_21 ?_
      refine Ev.lconst (v := 0) dX6_see_22 rfl ?_
      refine Ev.ldc2 dX6_see_23 fc_X6_252 ?_
      obtain ⟨r5, er5, h⟩ := wp_bind h
      refine Ev.callS (as := [.long p3.toInt64, .long 0, .long 30]) (rest := []) dX6_see_26 cl_X6_73 mos_X6_in ⟨Nat.le_of_ble_eq_true rfl, Nat.le_of_ble_eq_true rfl⟩ (Nat.le_of_ble_eq_true rfl) rfl rfl (o_X6_in ⟨r5, er5, ?_⟩)
      show Ev E mi_X6_see 29 [(0, .ref (ad E 54)), (1, .int p1), (2, .int p2), (3, .int p3)] [.int r5] M Q
      refine Ev.if_ne (tgt := 34) dX6_see_29 (by decide) (fun c6 => ?_) (fun c6 => ?_)
      · replace h := wp_t c6 h
        refine Ev.iconst (v := (-1)) dX6_see_32 rfl ?_
        exact Ev.ret dX6_see_33 rfl rfl (wp_ret h)
      · replace h := wp_f c6 h
        refine Ev.aload_n dX6_see_34 rfl 0 rfl ?_
        refine Ev.get dX6_see_35 fl_X6_159 rfl (Nat.le_of_ble_eq_true rfl) rfl ?_
        refine Ev.bipush (v := 6) dX6_see_38 rfl ?_
        refine Ev.icmp_ne (tgt := 46) dX6_see_40 (by decide) (fun c7 => ?_) (fun c7 => ?_)
        · replace h := wp_t c7 h
          refine Ev.bipush (v := (-3)) dX6_see_43 rfl ?_
          exact Ev.ret dX6_see_45 rfl rfl (wp_ret h)
        · replace h := wp_f c7 h
          refine Ev.aload_n dX6_see_46 rfl 0 rfl ?_
          refine Ev.get dX6_see_47 fl_X6_52 rfl (Nat.le_of_ble_eq_true rfl) (v := .ref (ad E 69)) rfl ?_
          refine Ev.iconst (v := 3) dX6_see_50 rfl ?_
          refine Ev.aload_n dX6_see_51 rfl 0 rfl ?_
          refine Ev.get dX6_see_52 fl_X6_159 rfl (Nat.le_of_ble_eq_true rfl) rfl ?_
          refine Ev.imul dX6_see_55 ?_
          refine Ev.iload_n dX6_see_56 rfl 1 rfl ?_
          obtain ⟨g8, h⟩ := wp_inb h
          refine Ev.iast dX6_see_57 rfl (Nat.le_of_ble_eq_true rfl) rfl g8 ?_
          refine Ev.topM (fun M9 eM9 => ?_)
          replace h := wp_lm h M9 eM9
          refine Ev.aload_n dX6_see_58 rfl 0 rfl ?_
          refine Ev.get dX6_see_59 fl_X6_52 rfl (Nat.le_of_ble_eq_true rfl) (v := .ref (ad E 69)) rfl ?_
          refine Ev.iconst (v := 3) dX6_see_62 rfl ?_
          refine Ev.aload_n dX6_see_63 rfl 0 rfl ?_
          refine Ev.get dX6_see_64 fl_X6_159 rfl (Nat.le_of_ble_eq_true rfl) rfl ?_
          refine Ev.imul dX6_see_67 ?_
          refine Ev.iconst (v := 1) dX6_see_68 rfl ?_
          refine Ev.iadd dX6_see_69 ?_
          refine Ev.iload_n dX6_see_70 rfl 2 rfl ?_
          obtain ⟨g10, h⟩ := wp_inb h
          refine Ev.iast dX6_see_71 rfl (Nat.le_of_ble_eq_true rfl) rfl g10 ?_
          refine Ev.topM (fun M11 eM11 => ?_)
          replace h := wp_lm h M11 eM11
          refine Ev.aload_n dX6_see_72 rfl 0 rfl ?_
          refine Ev.get dX6_see_73 fl_X6_52 rfl (Nat.le_of_ble_eq_true rfl) (v := .ref (ad E 69)) rfl ?_
          refine Ev.iconst (v := 3) dX6_see_76 rfl ?_
          refine Ev.aload_n dX6_see_77 rfl 0 rfl ?_
          refine Ev.get dX6_see_78 fl_X6_159 rfl (Nat.le_of_ble_eq_true rfl) rfl ?_
          refine Ev.imul dX6_see_81 ?_
          refine Ev.iconst (v := 2) dX6_see_82 rfl ?_
          refine Ev.iadd dX6_see_83 ?_
          refine Ev.iload_n dX6_see_84 rfl 3 rfl ?_
          obtain ⟨g12, h⟩ := wp_inb h
          refine Ev.iast dX6_see_85 rfl (Nat.le_of_ble_eq_true rfl) rfl g12 ?_
          refine Ev.topM (fun M13 eM13 => ?_)
          replace h := wp_lm h M13 eM13
          refine Ev.aload_n dX6_see_86 rfl 0 rfl ?_
          refine Ev.dup dX6_see_87 rfl ?_
          refine Ev.get dX6_see_88 fl_X6_159 rfl (Nat.le_of_ble_eq_true rfl) rfl ?_
          refine Ev.iconst (v := 1) dX6_see_91 rfl ?_
          refine Ev.iadd dX6_see_92 ?_
          refine Ev.putA dX6_see_93 fl_X6_159 rfl (Nat.le_of_ble_eq_true rfl) rfl rfl pf_I rfl rfl ?_
          refine Ev.topM (fun M14 eM14 => ?_)
          replace h := wp_lm h M14 eM14
          refine Ev.aload_n dX6_see_96 rfl 0 rfl ?_
          refine Ev.get dX6_see_97 fl_X6_159 rfl (Nat.le_of_ble_eq_true rfl) rfl ?_
          exact Ev.ret dX6_see_100 rfl rfl (wp_ret h)

noncomputable def f_X6_forget (p1 : Int32) (M : Mem) : Option (Int32 × Mem) := (f_X6_in p1.toInt64 0 ((M 54 29).toInt64) M).bind fun r1 => if r1 = 0 then some ((-1), M) else li (M 54 29) fun y3 => lm (up M 54 29 p1) fun M4 => some (y3, M4)
theorem o_X6_forget {E : GE} {Q : Option Value → Mem → Prop} {p1 : Int32} {M : Mem} (h : wp (f_X6_forget p1 M) gIM Q) : Runs E mi_X6_forget [.ref (ad E 54), .int p1] M Q := by
  refine Runs.ofEv (by decide +kernel) (Nat.le_of_ble_eq_true rfl) ?_
  show Ev E mi_X6_forget 0 [(0, .ref (ad E 54)), (1, .int p1)] [] M Q
  unfold f_X6_forget at h
  refine Ev.iload_n dX6_forget_0 rfl 1 rfl ?_
  refine Ev.i2l dX6_forget_1 ?_
  refine Ev.lconst (v := 0) dX6_forget_2 rfl ?_
  refine Ev.aload_n dX6_forget_3 rfl 0 rfl ?_
  refine Ev.get dX6_forget_4 fl_X6_159 rfl (Nat.le_of_ble_eq_true rfl) rfl ?_
  refine Ev.i2l dX6_forget_7 ?_
  obtain ⟨r1, er1, h⟩ := wp_bind h
  refine Ev.callS (as := [.long p1.toInt64, .long 0, .long ((M 54 29).toInt64)]) (rest := []) dX6_forget_8 cl_X6_73 mos_X6_in ⟨Nat.le_of_ble_eq_true rfl, Nat.le_of_ble_eq_true rfl⟩ (Nat.le_of_ble_eq_true rfl) rfl rfl (o_X6_in ⟨r1, er1, ?_⟩)
  show Ev E mi_X6_forget 11 [(0, .ref (ad E 54)), (1, .int p1)] [.int r1] M Q
  refine Ev.if_ne (tgt := 16) dX6_forget_11 (by decide) (fun c2 => ?_) (fun c2 => ?_)
  · replace h := wp_t c2 h
    refine Ev.iconst (v := (-1)) dX6_forget_14 rfl ?_
    exact Ev.ret dX6_forget_15 rfl rfl (wp_ret h)
  · replace h := wp_f c2 h
    refine Ev.aload_n dX6_forget_16 rfl 0 rfl ?_
    refine Ev.get dX6_forget_17 fl_X6_159 rfl (Nat.le_of_ble_eq_true rfl) rfl ?_
    refine Ev.topi (fun y3 ey3 => ?_)
    replace h := wp_li h y3 ey3
    refine Ev.istore_n dX6_forget_20 rfl (Nat.le_of_ble_eq_true rfl) rfl ?_
    show Ev E mi_X6_forget 21 [(2, .int y3), (0, .ref (ad E 54)), (1, .int p1)] [] M Q
    refine Ev.aload_n dX6_forget_21 rfl 1 rfl ?_
    refine Ev.iload_n dX6_forget_22 rfl 2 rfl ?_
    refine Ev.putA dX6_forget_23 fl_X6_159 rfl (Nat.le_of_ble_eq_true rfl) rfl rfl pf_I rfl rfl ?_
    refine Ev.topM (fun M4 eM4 => ?_)
    replace h := wp_lm h M4 eM4
    refine Ev.iload_n dX6_forget_26 rfl 0 rfl ?_
    exact Ev.ret dX6_forget_27 rfl rfl (wp_ret h)

noncomputable def f_X6_isAsSeen_80 (t4 : Int32 → Int32 → Mem → Option (Int32 × Mem)) (x2 : Int32) (s0 : Int32) (M : Mem) : Option (Int32 × Mem) := t4 s0 (x2 + 1) M
theorem o_X6_isAsSeen_80 {E : GE} {Q : Option Value → Mem → Prop} {t4 : Int32 → Int32 → Mem → Option (Int32 × Mem)} {x2 : Int32} {s0 : Int32} {M : Mem} (ht4 : ∀ (x1 : Int32) (x2 : Int32) (M : Mem), wp (t4 x1 x2 M) gIM Q → Ev E mi_X6_isAsSeen 4 [(0, .ref (ad E 54)), (1, .int x1), (2, .int x2)] [] M Q) (h : wp (f_X6_isAsSeen_80 t4 x2 s0 M) gIM Q) : Ev E mi_X6_isAsSeen 80 [(0, .ref (ad E 54)), (2, .int x2)] [.int s0] M Q := by
  unfold f_X6_isAsSeen_80 at h
  refine Ev.istore_n dX6_isAsSeen_80 rfl (Nat.le_of_ble_eq_true rfl) rfl ?_
  show Ev E mi_X6_isAsSeen 81 [(1, .int s0), (0, .ref (ad E 54)), (2, .int x2)] [] M Q
  refine Ev.iinc (v := x2 + 1) dX6_isAsSeen_81 2 rfl rfl (Nat.le_of_ble_eq_true rfl) rfl ?_
  show Ev E mi_X6_isAsSeen 84 [(2, .int (x2 + 1)), (1, .int s0), (0, .ref (ad E 54))] [] M Q
  refine Ev.goto (tgt := 4) dX6_isAsSeen_84 (by decide) ?_
  refine Ev.sub [2, 1, 0] rfl ?_
  exact ht4 _ _ _ h
noncomputable def f_X6_isAsSeen_79 (t4 : Int32 → Int32 → Mem → Option (Int32 × Mem)) (x2 : Int32) (M : Mem) : Option (Int32 × Mem) := f_X6_isAsSeen_80 t4 x2 0 M
theorem o_X6_isAsSeen_79 {E : GE} {Q : Option Value → Mem → Prop} {t4 : Int32 → Int32 → Mem → Option (Int32 × Mem)} {x2 : Int32} {M : Mem} (ht4 : ∀ (x1 : Int32) (x2 : Int32) (M : Mem), wp (t4 x1 x2 M) gIM Q → Ev E mi_X6_isAsSeen 4 [(0, .ref (ad E 54)), (1, .int x1), (2, .int x2)] [] M Q) (h : wp (f_X6_isAsSeen_79 t4 x2 M) gIM Q) : Ev E mi_X6_isAsSeen 79 [(0, .ref (ad E 54)), (2, .int x2)] [] M Q := by
  unfold f_X6_isAsSeen_79 at h
  refine Ev.iconst (v := 0) dX6_isAsSeen_79 rfl ?_
  exact o_X6_isAsSeen_80 ht4 h
noncomputable def f_X6_isAsSeen_4 : Nat → Int32 → Int32 → Mem → Option (Int32 × Mem)
  | 0, _, _, _ => none
  | n + 1, x1, x2, M => if (M 54 29) ≤ x2 then ck .boolean x1 <| some (x1, M) else if x1 = 0 then ck .boolean x1 <| some (x1, M) else rd (M 69) 18 ((3 * x2) + 1) fun r6 => (f_X6_dayGoes 0 r6 M).bind fun r7 => rd (r7 69) 18 (3 * x2) fun r9 => (f_X6_isTub r9 r7).bind fun r10 => if r10 = 0 then f_X6_isAsSeen_79 (f_X6_isAsSeen_4 n) x2 r7 else rd (r7 69) 18 (3 * x2) fun r13 => rd (r7 61) 4 r13 fun r15 => rd (r7 69) 18 ((3 * x2) + 2) fun r17 => if (10 + r15) = r17 then f_X6_isAsSeen_80 (f_X6_isAsSeen_4 n) x2 1 r7 else f_X6_isAsSeen_79 (f_X6_isAsSeen_4 n) x2 r7
theorem o_X6_isAsSeen_4 {E : GE} {Q : Option Value → Mem → Prop} : ∀ (n : Nat) {x1 : Int32} {x2 : Int32} {M : Mem}, wp (f_X6_isAsSeen_4 n x1 x2 M) gIM Q → Ev E mi_X6_isAsSeen 4 [(0, .ref (ad E 54)), (1, .int x1), (2, .int x2)] [] M Q := by
  intro n
  induction n with
  | zero => intro _ _ _ h; exact absurd h wp_none
  | succ n ih =>
    intro x1 x2 M h
    unfold f_X6_isAsSeen_4 at h
    refine Ev.iload_n dX6_isAsSeen_4 rfl 2 rfl ?_
    refine Ev.aload_n dX6_isAsSeen_5 rfl 0 rfl ?_
    refine Ev.get dX6_isAsSeen_6 fl_X6_159 rfl (Nat.le_of_ble_eq_true rfl) rfl ?_
    refine Ev.icmp_ge (tgt := 87) dX6_isAsSeen_9 (by decide) (fun c1 => ?_) (fun c1 => ?_)
    · replace h := wp_t c1 h
      refine Ev.iload_n dX6_isAsSeen_87 rfl 1 rfl ?_
      obtain ⟨g2, h⟩ := wp_ck h
      exact Ev.ret dX6_isAsSeen_88 rfl (nar_Z g2) (wp_ret h)
    · replace h := wp_f c1 h
      refine Ev.iload_n dX6_isAsSeen_12 rfl 1 rfl ?_
      refine Ev.if_eq (tgt := 87) dX6_isAsSeen_13 (by decide) (fun c3 => ?_) (fun c3 => ?_)
      · replace h := wp_t c3 h
        refine Ev.iload_n dX6_isAsSeen_87 rfl 1 rfl ?_
        obtain ⟨g4, h⟩ := wp_ck h
        exact Ev.ret dX6_isAsSeen_88 rfl (nar_Z g4) (wp_ret h)
      · replace h := wp_f c3 h
        refine Ev.aload_n dX6_isAsSeen_16 rfl 0 rfl ?_
        refine Ev.iconst (v := 0) dX6_isAsSeen_17 rfl ?_
        refine Ev.aload_n dX6_isAsSeen_18 rfl 0 rfl ?_
        refine Ev.get dX6_isAsSeen_19 fl_X6_52 rfl (Nat.le_of_ble_eq_true rfl) (v := .ref (ad E 69)) rfl ?_
        refine Ev.iconst (v := 3) dX6_isAsSeen_22 rfl ?_
        refine Ev.iload_n dX6_isAsSeen_23 rfl 2 rfl ?_
        refine Ev.imul dX6_isAsSeen_24 ?_
        refine Ev.iconst (v := 1) dX6_isAsSeen_25 rfl ?_
        refine Ev.iadd dX6_isAsSeen_26 ?_
        obtain ⟨g5, h⟩ := wp_rd h
        refine Ev.iald dX6_isAsSeen_27 rfl (Nat.le_of_ble_eq_true rfl) rfl g5 ?_
        refine Ev.topi (fun r6 er6 => ?_)
        replace h := h r6 er6
        obtain ⟨r7, er7, h⟩ := wp_bind h
        refine Ev.callV (k := 54) (as := [.int 0, .int r6]) (rest := []) dX6_isAsSeen_28 cl_X6_208 mok_X6_dayGoes rfl (Nat.le_of_ble_eq_true rfl) (Nat.le_of_ble_eq_true rfl) ⟨Nat.le_of_ble_eq_true rfl, Nat.le_of_ble_eq_true rfl⟩ (Nat.le_of_ble_eq_true rfl) rfl rfl (o_X6_dayGoes ⟨r7, er7, ?_⟩)
        show Ev E mi_X6_isAsSeen 31 [(0, .ref (ad E 54)), (1, .int x1), (2, .int x2)] [] r7 Q
        refine Ev.aload_n dX6_isAsSeen_31 rfl 0 rfl ?_
        refine Ev.aload_n dX6_isAsSeen_32 rfl 0 rfl ?_
        refine Ev.get dX6_isAsSeen_33 fl_X6_52 rfl (Nat.le_of_ble_eq_true rfl) (v := .ref (ad E 69)) rfl ?_
        refine Ev.iconst (v := 3) dX6_isAsSeen_36 rfl ?_
        refine Ev.iload_n dX6_isAsSeen_37 rfl 2 rfl ?_
        refine Ev.imul dX6_isAsSeen_38 ?_
        obtain ⟨g8, h⟩ := wp_rd h
        refine Ev.iald dX6_isAsSeen_39 rfl (Nat.le_of_ble_eq_true rfl) rfl g8 ?_
        refine Ev.topi (fun r9 er9 => ?_)
        replace h := h r9 er9
        obtain ⟨r10, er10, h⟩ := wp_bind h
        refine Ev.callV (k := 54) (as := [.int r9]) (rest := []) dX6_isAsSeen_40 cl_X6_173 mok_X6_isTub rfl (Nat.le_of_ble_eq_true rfl) (Nat.le_of_ble_eq_true rfl) ⟨Nat.le_of_ble_eq_true rfl, Nat.le_of_ble_eq_true rfl⟩ (Nat.le_of_ble_eq_true rfl) rfl rfl (o_X6_isTub ⟨r10, er10, ?_⟩)
        show Ev E mi_X6_isAsSeen 43 [(0, .ref (ad E 54)), (1, .int x1), (2, .int x2)] [.int r10] r7 Q
        refine Ev.if_eq (tgt := 79) dX6_isAsSeen_43 (by decide) (fun c11 => ?_) (fun c11 => ?_)
        · replace h := wp_t c11 h
          refine Ev.sub [0, 2] rfl ?_
          exact o_X6_isAsSeen_79 (fun _ _ _ h => ih h) h
        · replace h := wp_f c11 h
          refine Ev.bipush (v := 10) dX6_isAsSeen_46 rfl ?_
          refine Ev.aload_n dX6_isAsSeen_48 rfl 0 rfl ?_
          refine Ev.get dX6_isAsSeen_49 fl_X6_28 rfl (Nat.le_of_ble_eq_true rfl) (v := .ref (ad E 61)) rfl ?_
          refine Ev.aload_n dX6_isAsSeen_52 rfl 0 rfl ?_
          refine Ev.get dX6_isAsSeen_53 fl_X6_52 rfl (Nat.le_of_ble_eq_true rfl) (v := .ref (ad E 69)) rfl ?_
          refine Ev.iconst (v := 3) dX6_isAsSeen_56 rfl ?_
          refine Ev.iload_n dX6_isAsSeen_57 rfl 2 rfl ?_
          refine Ev.imul dX6_isAsSeen_58 ?_
          obtain ⟨g12, h⟩ := wp_rd h
          refine Ev.iald dX6_isAsSeen_59 rfl (Nat.le_of_ble_eq_true rfl) rfl g12 ?_
          refine Ev.topi (fun r13 er13 => ?_)
          replace h := h r13 er13
          obtain ⟨g14, h⟩ := wp_rd h
          refine Ev.iald dX6_isAsSeen_60 rfl (Nat.le_of_ble_eq_true rfl) rfl g14 ?_
          refine Ev.topi (fun r15 er15 => ?_)
          replace h := h r15 er15
          refine Ev.iadd dX6_isAsSeen_61 ?_
          refine Ev.aload_n dX6_isAsSeen_62 rfl 0 rfl ?_
          refine Ev.get dX6_isAsSeen_63 fl_X6_52 rfl (Nat.le_of_ble_eq_true rfl) (v := .ref (ad E 69)) rfl ?_
          refine Ev.iconst (v := 3) dX6_isAsSeen_66 rfl ?_
          refine Ev.iload_n dX6_isAsSeen_67 rfl 2 rfl ?_
          refine Ev.imul dX6_isAsSeen_68 ?_
          refine Ev.iconst (v := 2) dX6_isAsSeen_69 rfl ?_
          refine Ev.iadd dX6_isAsSeen_70 ?_
          obtain ⟨g16, h⟩ := wp_rd h
          refine Ev.iald dX6_isAsSeen_71 rfl (Nat.le_of_ble_eq_true rfl) rfl g16 ?_
          refine Ev.topi (fun r17 er17 => ?_)
          replace h := h r17 er17
          refine Ev.icmp_ne (tgt := 79) dX6_isAsSeen_72 (by decide) (fun c18 => ?_) (fun c18 => ?_)
          · replace h := wp_t c18 h
            refine Ev.iconst (v := 1) dX6_isAsSeen_75 rfl ?_
            refine Ev.goto (tgt := 80) dX6_isAsSeen_76 (by decide) ?_
            refine Ev.sub [0, 2] rfl ?_
            exact o_X6_isAsSeen_80 (fun _ _ _ h => ih h) h
          · replace h := wp_f c18 h
            refine Ev.sub [0, 2] rfl ?_
            exact o_X6_isAsSeen_79 (fun _ _ _ h => ih h) h
noncomputable def f_X6_isAsSeen (M : Mem) : Option (Int32 × Mem) := f_X6_isAsSeen_4 FU 1 0 M
theorem o_X6_isAsSeen {E : GE} {Q : Option Value → Mem → Prop} {M : Mem} (h : wp (f_X6_isAsSeen M) gIM Q) : Runs E mi_X6_isAsSeen [.ref (ad E 54)] M Q := by
  refine Runs.ofEv (by decide +kernel) (Nat.le_of_ble_eq_true rfl) ?_
  show Ev E mi_X6_isAsSeen 0 [(0, .ref (ad E 54))] [] M Q
  unfold f_X6_isAsSeen at h
  refine Ev.iconst (v := 1) dX6_isAsSeen_0 rfl ?_
  refine Ev.istore_n dX6_isAsSeen_1 rfl (Nat.le_of_ble_eq_true rfl) rfl ?_
  show Ev E mi_X6_isAsSeen 2 [(1, .int 1), (0, .ref (ad E 54))] [] M Q
  refine Ev.iconst (v := 0) dX6_isAsSeen_2 rfl ?_
  refine Ev.istore_n dX6_isAsSeen_3 rfl (Nat.le_of_ble_eq_true rfl) rfl ?_
  show Ev E mi_X6_isAsSeen 4 [(2, .int 0), (1, .int 1), (0, .ref (ad E 54))] [] M Q
  refine Ev.sub [2, 1, 0] rfl ?_
  exact o_X6_isAsSeen_4 FU h

noncomputable def f_X6_kindsOf_86 (p1 : Int32) (t12 : Int32 → Int32 → Int32 → Mem → Option (Int32 × Mem)) (x2 : Int32) (x3 : Int32) (x4 : Int32) (M : Mem) : Option (Int32 × Mem) := t12 x2 x3 (x4 + 1) M
theorem o_X6_kindsOf_86 {E : GE} {Q : Option Value → Mem → Prop} {p1 : Int32} {t12 : Int32 → Int32 → Int32 → Mem → Option (Int32 × Mem)} {x2 : Int32} {x3 : Int32} {x4 : Int32} {M : Mem} (ht12 : ∀ (x2 : Int32) (x3 : Int32) (x4 : Int32) (M : Mem), wp (t12 x2 x3 x4 M) gIM Q → Ev E mi_X6_kindsOf 12 [(0, .ref (ad E 54)), (1, .int p1), (2, .int x2), (3, .int x3), (4, .int x4)] [] M Q) (h : wp (f_X6_kindsOf_86 p1 t12 x2 x3 x4 M) gIM Q) : Ev E mi_X6_kindsOf 86 [(0, .ref (ad E 54)), (1, .int p1), (2, .int x2), (3, .int x3), (4, .int x4)] [] M Q := by
  unfold f_X6_kindsOf_86 at h
  refine Ev.iinc (v := x4 + 1) dX6_kindsOf_86 4 rfl rfl (Nat.le_of_ble_eq_true rfl) rfl ?_
  show Ev E mi_X6_kindsOf 89 [(4, .int (x4 + 1)), (0, .ref (ad E 54)), (1, .int p1), (2, .int x2), (3, .int x3)] [] M Q
  refine Ev.goto (tgt := 12) dX6_kindsOf_89 (by decide) ?_
  refine Ev.sub [1, 2, 3, 4, 0] rfl ?_
  exact ht12 _ _ _ _ h
noncomputable def f_X6_kindsOf_47 (p1 : Int32) (t12 : Int32 → Int32 → Int32 → Mem → Option (Int32 × Mem)) : Nat → Int32 → Int32 → Int32 → Int32 → Mem → Option (Int32 × Mem)
  | 0, _, _, _, _, _ => none
  | n + 1, x2, x3, x4, x5, M => if 24 < x5 then f_X6_kindsOf_86 p1 t12 x2 x3 x4 M else (f_X6_dayGoes 0 x5 M).bind fun r2 => rd (r2 61) 4 p1 fun r4 => inb ((25 * x4) + x5) 100 <| lm (up r2 70 ((25 * x4) + x5).toNatClampNeg r4) fun M6 => (f_X6_kindsOf_47 p1 t12 n) x2 x3 x4 (x5 + 1) M6
theorem o_X6_kindsOf_47 {E : GE} {Q : Option Value → Mem → Prop} {p1 : Int32} {t12 : Int32 → Int32 → Int32 → Mem → Option (Int32 × Mem)} (ht12 : ∀ (x2 : Int32) (x3 : Int32) (x4 : Int32) (M : Mem), wp (t12 x2 x3 x4 M) gIM Q → Ev E mi_X6_kindsOf 12 [(0, .ref (ad E 54)), (1, .int p1), (2, .int x2), (3, .int x3), (4, .int x4)] [] M Q) : ∀ (n : Nat) {x2 : Int32} {x3 : Int32} {x4 : Int32} {x5 : Int32} {M : Mem}, wp (f_X6_kindsOf_47 p1 t12 n x2 x3 x4 x5 M) gIM Q → Ev E mi_X6_kindsOf 47 [(0, .ref (ad E 54)), (1, .int p1), (2, .int x2), (3, .int x3), (4, .int x4), (5, .int x5)] [] M Q := by
  intro n
  induction n with
  | zero => intro _ _ _ _ _ h; exact absurd h wp_none
  | succ n ih =>
    intro x2 x3 x4 x5 M h
    unfold f_X6_kindsOf_47 at h
    refine Ev.iload dX6_kindsOf_47 5 rfl ?_
    refine Ev.bipush (v := 24) dX6_kindsOf_49 rfl ?_
    refine Ev.icmp_gt (tgt := 86) dX6_kindsOf_51 (by decide) (fun c1 => ?_) (fun c1 => ?_)
    · replace h := wp_t c1 h
      refine Ev.sub [0, 1, 2, 3, 4] rfl ?_
      exact o_X6_kindsOf_86 ht12 h
    · replace h := wp_f c1 h
      refine Ev.aload_n dX6_kindsOf_54 rfl 0 rfl ?_
      refine Ev.iconst (v := 0) dX6_kindsOf_55 rfl ?_
      refine Ev.iload dX6_kindsOf_56 5 rfl ?_
      obtain ⟨r2, er2, h⟩ := wp_bind h
      refine Ev.callV (k := 54) (as := [.int 0, .int x5]) (rest := []) dX6_kindsOf_58 cl_X6_208 mok_X6_dayGoes rfl (Nat.le_of_ble_eq_true rfl) (Nat.le_of_ble_eq_true rfl) ⟨Nat.le_of_ble_eq_true rfl, Nat.le_of_ble_eq_true rfl⟩ (Nat.le_of_ble_eq_true rfl) rfl rfl (o_X6_dayGoes ⟨r2, er2, ?_⟩)
      show Ev E mi_X6_kindsOf 61 [(0, .ref (ad E 54)), (1, .int p1), (2, .int x2), (3, .int x3), (4, .int x4), (5, .int x5)] [] r2 Q
      refine Ev.aload_n dX6_kindsOf_61 rfl 0 rfl ?_
      refine Ev.get dX6_kindsOf_62 fl_X6_55 rfl (Nat.le_of_ble_eq_true rfl) (v := .ref (ad E 70)) rfl ?_
      refine Ev.bipush (v := 25) dX6_kindsOf_65 rfl ?_
      refine Ev.iload dX6_kindsOf_67 4 rfl ?_
      refine Ev.imul dX6_kindsOf_69 ?_
      refine Ev.iload dX6_kindsOf_70 5 rfl ?_
      refine Ev.iadd dX6_kindsOf_72 ?_
      refine Ev.aload_n dX6_kindsOf_73 rfl 0 rfl ?_
      refine Ev.get dX6_kindsOf_74 fl_X6_28 rfl (Nat.le_of_ble_eq_true rfl) (v := .ref (ad E 61)) rfl ?_
      refine Ev.iload_n dX6_kindsOf_77 rfl 1 rfl ?_
      obtain ⟨g3, h⟩ := wp_rd h
      refine Ev.iald dX6_kindsOf_78 rfl (Nat.le_of_ble_eq_true rfl) rfl g3 ?_
      refine Ev.topi (fun r4 er4 => ?_)
      replace h := h r4 er4
      obtain ⟨g5, h⟩ := wp_inb h
      refine Ev.iast dX6_kindsOf_79 rfl (Nat.le_of_ble_eq_true rfl) rfl g5 ?_
      refine Ev.topM (fun M6 eM6 => ?_)
      replace h := wp_lm h M6 eM6
      refine Ev.iinc (v := x5 + 1) dX6_kindsOf_80 5 rfl rfl (Nat.le_of_ble_eq_true rfl) rfl ?_
      show Ev E mi_X6_kindsOf 83 [(5, .int (x5 + 1)), (0, .ref (ad E 54)), (1, .int p1), (2, .int x2), (3, .int x3), (4, .int x4)] [] M6 Q
      refine Ev.goto (tgt := 47) dX6_kindsOf_83 (by decide) ?_
      refine Ev.sub [1, 2, 3, 4, 5, 0] rfl ?_
      exact ih h
noncomputable def f_X6_kindsOf_42 (p1 : Int32) (t12 : Int32 → Int32 → Int32 → Mem → Option (Int32 × Mem)) (x2 : Int32) (x4 : Int32) (s0 : Int32) (s1 : Int32) (M : Mem) : Option (Int32 × Mem) := li (s0 ||| s1) fun y1 => f_X6_kindsOf_47 p1 t12 FU x2 y1 x4 0 M
theorem o_X6_kindsOf_42 {E : GE} {Q : Option Value → Mem → Prop} {p1 : Int32} {t12 : Int32 → Int32 → Int32 → Mem → Option (Int32 × Mem)} {x2 : Int32} {x4 : Int32} {s0 : Int32} {s1 : Int32} {M : Mem} (ht12 : ∀ (x2 : Int32) (x3 : Int32) (x4 : Int32) (M : Mem), wp (t12 x2 x3 x4 M) gIM Q → Ev E mi_X6_kindsOf 12 [(0, .ref (ad E 54)), (1, .int p1), (2, .int x2), (3, .int x3), (4, .int x4)] [] M Q) (h : wp (f_X6_kindsOf_42 p1 t12 x2 x4 s0 s1 M) gIM Q) : Ev E mi_X6_kindsOf 42 [(0, .ref (ad E 54)), (1, .int p1), (2, .int x2), (4, .int x4)] [.int s1, .int s0] M Q := by
  unfold f_X6_kindsOf_42 at h
  refine Ev.ior dX6_kindsOf_42 ?_
  refine Ev.topi (fun y1 ey1 => ?_)
  replace h := wp_li h y1 ey1
  refine Ev.istore_n dX6_kindsOf_43 rfl (Nat.le_of_ble_eq_true rfl) rfl ?_
  show Ev E mi_X6_kindsOf 44 [(3, .int y1), (0, .ref (ad E 54)), (1, .int p1), (2, .int x2), (4, .int x4)] [] M Q
  refine Ev.iconst (v := 0) dX6_kindsOf_44 rfl ?_
  refine Ev.istore dX6_kindsOf_45 (Nat.le_of_ble_eq_true rfl) rfl ?_
  show Ev E mi_X6_kindsOf 47 [(5, .int 0), (3, .int y1), (0, .ref (ad E 54)), (1, .int p1), (2, .int x2), (4, .int x4)] [] M Q
  refine Ev.sub [2, 3, 4, 1, 5, 0] rfl ?_
  exact o_X6_kindsOf_47 ht12 FU h
noncomputable def f_X6_kindsOf_92 (p1 : Int32) (x2 : Int32) (x3 : Int32) (M : Mem) : Option (Int32 × Mem) := inb p1 360 <| lm (up M 55 p1.toNatClampNeg x2) fun M2 => some (x3, M2)
theorem o_X6_kindsOf_92 {E : GE} {Q : Option Value → Mem → Prop} {p1 : Int32} {x2 : Int32} {x3 : Int32} {M : Mem} (h : wp (f_X6_kindsOf_92 p1 x2 x3 M) gIM Q) : Ev E mi_X6_kindsOf 92 [(0, .ref (ad E 54)), (1, .int p1), (2, .int x2), (3, .int x3)] [] M Q := by
  unfold f_X6_kindsOf_92 at h
  refine Ev.aload_n dX6_kindsOf_92 rfl 0 rfl ?_
  refine Ev.get dX6_kindsOf_93 fl_X6_7 rfl (Nat.le_of_ble_eq_true rfl) (v := .ref (ad E 55)) rfl ?_
  refine Ev.iload_n dX6_kindsOf_96 rfl 1 rfl ?_
  refine Ev.iload_n dX6_kindsOf_97 rfl 2 rfl ?_
  obtain ⟨g1, h⟩ := wp_inb h
  refine Ev.iast dX6_kindsOf_98 rfl (Nat.le_of_ble_eq_true rfl) rfl g1 ?_
  refine Ev.topM (fun M2 eM2 => ?_)
  replace h := wp_lm h M2 eM2
  refine Ev.iload_n dX6_kindsOf_99 rfl 3 rfl ?_
  exact Ev.ret dX6_kindsOf_100 rfl rfl (wp_ret h)
noncomputable def f_X6_kindsOf_12 (p1 : Int32) : Nat → Int32 → Int32 → Int32 → Mem → Option (Int32 × Mem)
  | 0, _, _, _, _ => none
  | n + 1, x2, x3, x4, M => if 4 ≤ x4 then f_X6_kindsOf_92 p1 x2 x3 M else inb p1 360 <| lm (up M 55 p1.toNatClampNeg x4) fun M3 => (f_X6_isAsSeen M3).bind fun r4 => if r4.1 = 0 then f_X6_kindsOf_42 p1 (f_X6_kindsOf_12 p1 n) x2 x4 x3 0 r4.2 else f_X6_kindsOf_42 p1 (f_X6_kindsOf_12 p1 n) x2 x4 x3 (1 <<< (x4 &&& 31)) r4.2
theorem o_X6_kindsOf_12 {E : GE} {Q : Option Value → Mem → Prop} {p1 : Int32} : ∀ (n : Nat) {x2 : Int32} {x3 : Int32} {x4 : Int32} {M : Mem}, wp (f_X6_kindsOf_12 p1 n x2 x3 x4 M) gIM Q → Ev E mi_X6_kindsOf 12 [(0, .ref (ad E 54)), (1, .int p1), (2, .int x2), (3, .int x3), (4, .int x4)] [] M Q := by
  intro n
  induction n with
  | zero => intro _ _ _ _ h; exact absurd h wp_none
  | succ n ih =>
    intro x2 x3 x4 M h
    unfold f_X6_kindsOf_12 at h
    refine Ev.iload dX6_kindsOf_12 4 rfl ?_
    refine Ev.iconst (v := 4) dX6_kindsOf_14 rfl ?_
    refine Ev.icmp_ge (tgt := 92) dX6_kindsOf_15 (by decide) (fun c1 => ?_) (fun c1 => ?_)
    · replace h := wp_t c1 h
      refine Ev.sub [0, 1, 2, 3] rfl ?_
      exact o_X6_kindsOf_92 h
    · replace h := wp_f c1 h
      refine Ev.aload_n dX6_kindsOf_18 rfl 0 rfl ?_
      refine Ev.get dX6_kindsOf_19 fl_X6_7 rfl (Nat.le_of_ble_eq_true rfl) (v := .ref (ad E 55)) rfl ?_
      refine Ev.iload_n dX6_kindsOf_22 rfl 1 rfl ?_
      refine Ev.iload dX6_kindsOf_23 4 rfl ?_
      obtain ⟨g2, h⟩ := wp_inb h
      refine Ev.iast dX6_kindsOf_25 rfl (Nat.le_of_ble_eq_true rfl) rfl g2 ?_
      refine Ev.topM (fun M3 eM3 => ?_)
      replace h := wp_lm h M3 eM3
      refine Ev.iload_n dX6_kindsOf_26 rfl 3 rfl ?_
      refine Ev.aload_n dX6_kindsOf_27 rfl 0 rfl ?_
      obtain ⟨r4, er4, h⟩ := wp_bind h
      refine Ev.callV (k := 54) (as := []) (rest := [.int x3]) dX6_kindsOf_28 cl_X6_254 mok_X6_isAsSeen rfl (Nat.le_of_ble_eq_true rfl) (Nat.le_of_ble_eq_true rfl) ⟨Nat.le_of_ble_eq_true rfl, Nat.le_of_ble_eq_true rfl⟩ (Nat.le_of_ble_eq_true rfl) rfl rfl (o_X6_isAsSeen ⟨r4, er4, ?_⟩)
      show Ev E mi_X6_kindsOf 31 [(0, .ref (ad E 54)), (1, .int p1), (2, .int x2), (3, .int x3), (4, .int x4)] [.int r4.1, .int x3] r4.2 Q
      refine Ev.if_eq (tgt := 41) dX6_kindsOf_31 (by decide) (fun c5 => ?_) (fun c5 => ?_)
      · replace h := wp_t c5 h
        refine Ev.iconst (v := 0) dX6_kindsOf_41 rfl ?_
        refine Ev.sub [0, 1, 2, 4] rfl ?_
        exact o_X6_kindsOf_42 (fun _ _ _ _ h => ih h) h
      · replace h := wp_f c5 h
        refine Ev.iconst (v := 1) dX6_kindsOf_34 rfl ?_
        refine Ev.iload dX6_kindsOf_35 4 rfl ?_
        refine Ev.ishl dX6_kindsOf_37 ?_
        refine Ev.goto (tgt := 42) dX6_kindsOf_38 (by decide) ?_
        refine Ev.sub [0, 1, 2, 4] rfl ?_
        exact o_X6_kindsOf_42 (fun _ _ _ _ h => ih h) h
noncomputable def f_X6_kindsOf (p1 : Int32) (M : Mem) : Option (Int32 × Mem) := rd (M 55) 360 p1 fun r2 => f_X6_kindsOf_12 p1 FU r2 0 0 M
theorem o_X6_kindsOf {E : GE} {Q : Option Value → Mem → Prop} {p1 : Int32} {M : Mem} (h : wp (f_X6_kindsOf p1 M) gIM Q) : Runs E mi_X6_kindsOf [.ref (ad E 54), .int p1] M Q := by
  refine Runs.ofEv (by decide +kernel) (Nat.le_of_ble_eq_true rfl) ?_
  show Ev E mi_X6_kindsOf 0 [(0, .ref (ad E 54)), (1, .int p1)] [] M Q
  unfold f_X6_kindsOf at h
  refine Ev.aload_n dX6_kindsOf_0 rfl 0 rfl ?_
  refine Ev.get dX6_kindsOf_1 fl_X6_7 rfl (Nat.le_of_ble_eq_true rfl) (v := .ref (ad E 55)) rfl ?_
  refine Ev.iload_n dX6_kindsOf_4 rfl 1 rfl ?_
  obtain ⟨g1, h⟩ := wp_rd h
  refine Ev.iald dX6_kindsOf_5 rfl (Nat.le_of_ble_eq_true rfl) rfl g1 ?_
  refine Ev.topi (fun r2 er2 => ?_)
  replace h := h r2 er2
  refine Ev.istore_n dX6_kindsOf_6 rfl (Nat.le_of_ble_eq_true rfl) rfl ?_
  show Ev E mi_X6_kindsOf 7 [(2, .int r2), (0, .ref (ad E 54)), (1, .int p1)] [] M Q
  refine Ev.iconst (v := 0) dX6_kindsOf_7 rfl ?_
  refine Ev.istore_n dX6_kindsOf_8 rfl (Nat.le_of_ble_eq_true rfl) rfl ?_
  show Ev E mi_X6_kindsOf 9 [(3, .int 0), (2, .int r2), (0, .ref (ad E 54)), (1, .int p1)] [] M Q
  refine Ev.iconst (v := 0) dX6_kindsOf_9 rfl ?_
  refine Ev.istore dX6_kindsOf_10 (Nat.le_of_ble_eq_true rfl) rfl ?_
  show Ev E mi_X6_kindsOf 12 [(4, .int 0), (3, .int 0), (2, .int r2), (0, .ref (ad E 54)), (1, .int p1)] [] M Q
  refine Ev.sub [3, 4, 2, 1, 0] rfl ?_
  exact o_X6_kindsOf_12 FU h

noncomputable def f_X6_kinds (p1 : Int32) (M : Mem) : Option (Int32 × Mem) := (f_X6_isTub p1 M).bind fun r1 => if r1 = 0 then some ((-1), M) else (f_X6_kindsOf p1 M).bind fun r3 => some (r3.1, r3.2)
theorem o_X6_kinds {E : GE} {Q : Option Value → Mem → Prop} {p1 : Int32} {M : Mem} (h : wp (f_X6_kinds p1 M) gIM Q) : Runs E mi_X6_kinds [.ref (ad E 54), .int p1] M Q := by
  refine Runs.ofEv (by decide +kernel) (Nat.le_of_ble_eq_true rfl) ?_
  show Ev E mi_X6_kinds 0 [(0, .ref (ad E 54)), (1, .int p1)] [] M Q
  unfold f_X6_kinds at h
  refine Ev.aload_n dX6_kinds_0 rfl 0 rfl ?_
  refine Ev.iload_n dX6_kinds_1 rfl 1 rfl ?_
  obtain ⟨r1, er1, h⟩ := wp_bind h
  refine Ev.callV (k := 54) (as := [.int p1]) (rest := []) dX6_kinds_2 cl_X6_173 mok_X6_isTub rfl (Nat.le_of_ble_eq_true rfl) (Nat.le_of_ble_eq_true rfl) ⟨Nat.le_of_ble_eq_true rfl, Nat.le_of_ble_eq_true rfl⟩ (Nat.le_of_ble_eq_true rfl) rfl rfl (o_X6_isTub ⟨r1, er1, ?_⟩)
  show Ev E mi_X6_kinds 5 [(0, .ref (ad E 54)), (1, .int p1)] [.int r1] M Q
  refine Ev.if_eq (tgt := 16) dX6_kinds_5 (by decide) (fun c2 => ?_) (fun c2 => ?_)
  · replace h := wp_t c2 h
    refine Ev.iconst (v := (-1)) dX6_kinds_16 rfl ?_
    exact Ev.ret dX6_kinds_17 rfl rfl (wp_ret h)
  · replace h := wp_f c2 h
    refine Ev.aload_n dX6_kinds_8 rfl 0 rfl ?_
    refine Ev.iload_n dX6_kinds_9 rfl 1 rfl ?_
    obtain ⟨r3, er3, h⟩ := wp_bind h
    refine Ev.callV (k := 54) (as := [.int p1]) (rest := []) dX6_kinds_10 cl_X6_258 mok_X6_kindsOf rfl (Nat.le_of_ble_eq_true rfl) (Nat.le_of_ble_eq_true rfl) ⟨Nat.le_of_ble_eq_true rfl, Nat.le_of_ble_eq_true rfl⟩ (Nat.le_of_ble_eq_true rfl) rfl rfl (o_X6_kindsOf ⟨r3, er3, ?_⟩)
    show Ev E mi_X6_kinds 13 [(0, .ref (ad E 54)), (1, .int p1)] [.int r3.1] r3.2 Q
    refine Ev.goto (tgt := 17) dX6_kinds_13 (by decide) ?_
    exact Ev.ret dX6_kinds_17 rfl rfl (wp_ret h)

noncomputable def f_X6_sets_64 (p1 : Int32) (t29 : Int32 → Int32 → Int32 → Mem → Option (Int32 × Mem)) (x2 : Int32) (x4 : Int32) (s0 : Int32) (s1 : Int32) (M : Mem) : Option (Int32 × Mem) := li (s0 ||| s1) fun y1 => t29 x2 y1 (x4 + 1) M
theorem o_X6_sets_64 {E : GE} {Q : Option Value → Mem → Prop} {p1 : Int32} {t29 : Int32 → Int32 → Int32 → Mem → Option (Int32 × Mem)} {x2 : Int32} {x4 : Int32} {s0 : Int32} {s1 : Int32} {M : Mem} (ht29 : ∀ (x2 : Int32) (x3 : Int32) (x4 : Int32) (M : Mem), wp (t29 x2 x3 x4 M) gIM Q → Ev E mi_X6_sets 29 [(0, .ref (ad E 54)), (1, .int p1), (2, .int x2), (3, .int x3), (4, .int x4)] [] M Q) (h : wp (f_X6_sets_64 p1 t29 x2 x4 s0 s1 M) gIM Q) : Ev E mi_X6_sets 64 [(0, .ref (ad E 54)), (1, .int p1), (2, .int x2), (4, .int x4)] [.int s1, .int s0] M Q := by
  unfold f_X6_sets_64 at h
  refine Ev.ior dX6_sets_64 ?_
  refine Ev.topi (fun y1 ey1 => ?_)
  replace h := wp_li h y1 ey1
  refine Ev.istore_n dX6_sets_65 rfl (Nat.le_of_ble_eq_true rfl) rfl ?_
  show Ev E mi_X6_sets 66 [(3, .int y1), (0, .ref (ad E 54)), (1, .int p1), (2, .int x2), (4, .int x4)] [] M Q
  refine Ev.iinc (v := x4 + 1) dX6_sets_66 4 rfl rfl (Nat.le_of_ble_eq_true rfl) rfl ?_
  show Ev E mi_X6_sets 69 [(4, .int (x4 + 1)), (3, .int y1), (0, .ref (ad E 54)), (1, .int p1), (2, .int x2)] [] M Q
  refine Ev.goto (tgt := 29) dX6_sets_69 (by decide) ?_
  refine Ev.sub [2, 3, 4, 1, 0] rfl ?_
  exact ht29 _ _ _ _ h
noncomputable def f_X6_sets_72 (p1 : Int32) (x2 : Int32) (x3 : Int32) (M : Mem) : Option (Int32 × Mem) := inb (37 + p1) 360 <| lm (up M 55 (37 + p1).toNatClampNeg x2) fun M2 => some (x3, M2)
theorem o_X6_sets_72 {E : GE} {Q : Option Value → Mem → Prop} {p1 : Int32} {x2 : Int32} {x3 : Int32} {M : Mem} (h : wp (f_X6_sets_72 p1 x2 x3 M) gIM Q) : Ev E mi_X6_sets 72 [(0, .ref (ad E 54)), (1, .int p1), (2, .int x2), (3, .int x3)] [] M Q := by
  unfold f_X6_sets_72 at h
  refine Ev.aload_n dX6_sets_72 rfl 0 rfl ?_
  refine Ev.get dX6_sets_73 fl_X6_7 rfl (Nat.le_of_ble_eq_true rfl) (v := .ref (ad E 55)) rfl ?_
  refine Ev.bipush (v := 37) dX6_sets_76 rfl ?_
  refine Ev.iload_n dX6_sets_78 rfl 1 rfl ?_
  refine Ev.iadd dX6_sets_79 ?_
  refine Ev.iload_n dX6_sets_80 rfl 2 rfl ?_
  obtain ⟨g1, h⟩ := wp_inb h
  refine Ev.iast dX6_sets_81 rfl (Nat.le_of_ble_eq_true rfl) rfl g1 ?_
  refine Ev.topM (fun M2 eM2 => ?_)
  replace h := wp_lm h M2 eM2
  refine Ev.iload_n dX6_sets_82 rfl 3 rfl ?_
  exact Ev.ret dX6_sets_83 rfl rfl (wp_ret h)
noncomputable def f_X6_sets_29 (p1 : Int32) : Nat → Int32 → Int32 → Int32 → Mem → Option (Int32 × Mem)
  | 0, _, _, _, _ => none
  | n + 1, x2, x3, x4, M => if 4 < x4 then f_X6_sets_72 p1 x2 x3 M else inb (37 + p1) 360 <| lm (up M 55 (37 + p1).toNatClampNeg (x4 - 2)) fun M3 => (f_X6_isAsSeen M3).bind fun r4 => if r4.1 = 0 then f_X6_sets_64 p1 (f_X6_sets_29 p1 n) x2 x4 x3 0 r4.2 else f_X6_sets_64 p1 (f_X6_sets_29 p1 n) x2 x4 x3 (1 <<< (x4 &&& 31)) r4.2
theorem o_X6_sets_29 {E : GE} {Q : Option Value → Mem → Prop} {p1 : Int32} : ∀ (n : Nat) {x2 : Int32} {x3 : Int32} {x4 : Int32} {M : Mem}, wp (f_X6_sets_29 p1 n x2 x3 x4 M) gIM Q → Ev E mi_X6_sets 29 [(0, .ref (ad E 54)), (1, .int p1), (2, .int x2), (3, .int x3), (4, .int x4)] [] M Q := by
  intro n
  induction n with
  | zero => intro _ _ _ _ h; exact absurd h wp_none
  | succ n ih =>
    intro x2 x3 x4 M h
    unfold f_X6_sets_29 at h
    refine Ev.iload dX6_sets_29 4 rfl ?_
    refine Ev.iconst (v := 4) dX6_sets_31 rfl ?_
    refine Ev.icmp_gt (tgt := 72) dX6_sets_32 (by decide) (fun c1 => ?_) (fun c1 => ?_)
    · replace h := wp_t c1 h
      refine Ev.sub [0, 1, 2, 3] rfl ?_
      exact o_X6_sets_72 h
    · replace h := wp_f c1 h
      refine Ev.aload_n dX6_sets_35 rfl 0 rfl ?_
      refine Ev.get dX6_sets_36 fl_X6_7 rfl (Nat.le_of_ble_eq_true rfl) (v := .ref (ad E 55)) rfl ?_
      refine Ev.bipush (v := 37) dX6_sets_39 rfl ?_
      refine Ev.iload_n dX6_sets_41 rfl 1 rfl ?_
      refine Ev.iadd dX6_sets_42 ?_
      refine Ev.iload dX6_sets_43 4 rfl ?_
      refine Ev.iconst (v := 2) dX6_sets_45 rfl ?_
      refine Ev.isub dX6_sets_46 ?_
      obtain ⟨g2, h⟩ := wp_inb h
      refine Ev.iast dX6_sets_47 rfl (Nat.le_of_ble_eq_true rfl) rfl g2 ?_
      refine Ev.topM (fun M3 eM3 => ?_)
      replace h := wp_lm h M3 eM3
      refine Ev.iload_n dX6_sets_48 rfl 3 rfl ?_
      refine Ev.aload_n dX6_sets_49 rfl 0 rfl ?_
      obtain ⟨r4, er4, h⟩ := wp_bind h
      refine Ev.callV (k := 54) (as := []) (rest := [.int x3]) dX6_sets_50 cl_X6_254 mok_X6_isAsSeen rfl (Nat.le_of_ble_eq_true rfl) (Nat.le_of_ble_eq_true rfl) ⟨Nat.le_of_ble_eq_true rfl, Nat.le_of_ble_eq_true rfl⟩ (Nat.le_of_ble_eq_true rfl) rfl rfl (o_X6_isAsSeen ⟨r4, er4, ?_⟩)
      show Ev E mi_X6_sets 53 [(0, .ref (ad E 54)), (1, .int p1), (2, .int x2), (3, .int x3), (4, .int x4)] [.int r4.1, .int x3] r4.2 Q
      refine Ev.if_eq (tgt := 63) dX6_sets_53 (by decide) (fun c5 => ?_) (fun c5 => ?_)
      · replace h := wp_t c5 h
        refine Ev.iconst (v := 0) dX6_sets_63 rfl ?_
        refine Ev.sub [0, 1, 2, 4] rfl ?_
        exact o_X6_sets_64 (fun _ _ _ _ h => ih h) h
      · replace h := wp_f c5 h
        refine Ev.iconst (v := 1) dX6_sets_56 rfl ?_
        refine Ev.iload dX6_sets_57 4 rfl ?_
        refine Ev.ishl dX6_sets_59 ?_
        refine Ev.goto (tgt := 64) dX6_sets_60 (by decide) ?_
        refine Ev.sub [0, 1, 2, 4] rfl ?_
        exact o_X6_sets_64 (fun _ _ _ _ h => ih h) h
noncomputable def f_X6_sets (p1 : Int32) (M : Mem) : Option (Int32 × Mem) := (f_X6_in p1.toInt64 0 9 M).bind fun r1 => if r1 = 0 then some ((-1), M) else rd (M 55) 360 (37 + p1) fun r4 => f_X6_sets_29 p1 FU r4 0 0 M
theorem o_X6_sets {E : GE} {Q : Option Value → Mem → Prop} {p1 : Int32} {M : Mem} (h : wp (f_X6_sets p1 M) gIM Q) : Runs E mi_X6_sets [.ref (ad E 54), .int p1] M Q := by
  refine Runs.ofEv (by decide +kernel) (Nat.le_of_ble_eq_true rfl) ?_
  show Ev E mi_X6_sets 0 [(0, .ref (ad E 54)), (1, .int p1)] [] M Q
  unfold f_X6_sets at h
  refine Ev.iload_n dX6_sets_0 rfl 1 rfl ?_
  refine Ev.i2l dX6_sets_1 ?_
  refine Ev.lconst (v := 0) dX6_sets_2 rfl ?_
  refine Ev.ldc2 dX6_sets_3 fc_X6_184 ?_
  obtain ⟨r1, er1, h⟩ := wp_bind h
  refine Ev.callS (as := [.long p1.toInt64, .long 0, .long 9]) (rest := []) dX6_sets_6 cl_X6_73 mos_X6_in ⟨Nat.le_of_ble_eq_true rfl, Nat.le_of_ble_eq_true rfl⟩ (Nat.le_of_ble_eq_true rfl) rfl rfl (o_X6_in ⟨r1, er1, ?_⟩)
  show Ev E mi_X6_sets 9 [(0, .ref (ad E 54)), (1, .int p1)] [.int r1] M Q
  refine Ev.if_ne (tgt := 14) dX6_sets_9 (by decide) (fun c2 => ?_) (fun c2 => ?_)
  · replace h := wp_t c2 h
    refine Ev.iconst (v := (-1)) dX6_sets_12 rfl ?_
    exact Ev.ret dX6_sets_13 rfl rfl (wp_ret h)
  · replace h := wp_f c2 h
    refine Ev.aload_n dX6_sets_14 rfl 0 rfl ?_
    refine Ev.get dX6_sets_15 fl_X6_7 rfl (Nat.le_of_ble_eq_true rfl) (v := .ref (ad E 55)) rfl ?_
    refine Ev.bipush (v := 37) dX6_sets_18 rfl ?_
    refine Ev.iload_n dX6_sets_20 rfl 1 rfl ?_
    refine Ev.iadd dX6_sets_21 ?_
    obtain ⟨g3, h⟩ := wp_rd h
    refine Ev.iald dX6_sets_22 rfl (Nat.le_of_ble_eq_true rfl) rfl g3 ?_
    refine Ev.topi (fun r4 er4 => ?_)
    replace h := h r4 er4
    refine Ev.istore_n dX6_sets_23 rfl (Nat.le_of_ble_eq_true rfl) rfl ?_
    show Ev E mi_X6_sets 24 [(2, .int r4), (0, .ref (ad E 54)), (1, .int p1)] [] M Q
    refine Ev.iconst (v := 0) dX6_sets_24 rfl ?_
    refine Ev.istore_n dX6_sets_25 rfl (Nat.le_of_ble_eq_true rfl) rfl ?_
    show Ev E mi_X6_sets 26 [(3, .int 0), (2, .int r4), (0, .ref (ad E 54)), (1, .int p1)] [] M Q
    refine Ev.iconst (v := 0) dX6_sets_26 rfl ?_
    refine Ev.istore dX6_sets_27 (Nat.le_of_ble_eq_true rfl) rfl ?_
    show Ev E mi_X6_sets 29 [(4, .int 0), (3, .int 0), (2, .int r4), (0, .ref (ad E 54)), (1, .int p1)] [] M Q
    refine Ev.sub [3, 4, 2, 1, 0] rfl ?_
    exact o_X6_sets_29 FU h

noncomputable def f_X6_look_126 (p1 : Int32) (p2 : Int32) (t64 : Int32 → Int32 → Int32 → Int32 → Int32 → Int32 → Int32 → Int32 → Mem → Option (Int32 × Mem)) (x3 : Int32) (x4 : Int32) (x5 : Int32) (x6 : Int32) (x7 : Int32) (x8 : Int32) (x10 : Int32) (s0 : Int32) (s1 : Int32) (M : Mem) : Option (Int32 × Mem) := li (s0 + s1) fun y1 => t64 x3 x4 x5 x6 x7 x8 y1 (x10 + 1) M
theorem o_X6_look_126 {E : GE} {Q : Option Value → Mem → Prop} {p1 : Int32} {p2 : Int32} {t64 : Int32 → Int32 → Int32 → Int32 → Int32 → Int32 → Int32 → Int32 → Mem → Option (Int32 × Mem)} {x3 : Int32} {x4 : Int32} {x5 : Int32} {x6 : Int32} {x7 : Int32} {x8 : Int32} {x10 : Int32} {s0 : Int32} {s1 : Int32} {M : Mem} (ht64 : ∀ (x3 : Int32) (x4 : Int32) (x5 : Int32) (x6 : Int32) (x7 : Int32) (x8 : Int32) (x9 : Int32) (x10 : Int32) (M : Mem), wp (t64 x3 x4 x5 x6 x7 x8 x9 x10 M) gIM Q → Ev E mi_X6_look 64 [(0, .ref (ad E 54)), (2, .int p2), (3, .int x3), (4, .int x4), (5, .int x5), (6, .int x6), (7, .int x7), (8, .int x8), (9, .int x9), (10, .int x10)] [] M Q) (h : wp (f_X6_look_126 p1 p2 t64 x3 x4 x5 x6 x7 x8 x10 s0 s1 M) gIM Q) : Ev E mi_X6_look 126 [(0, .ref (ad E 54)), (2, .int p2), (3, .int x3), (4, .int x4), (5, .int x5), (6, .int x6), (7, .int x7), (8, .int x8), (10, .int x10)] [.int s1, .int s0] M Q := by
  unfold f_X6_look_126 at h
  refine Ev.iadd dX6_look_126 ?_
  refine Ev.topi (fun y1 ey1 => ?_)
  replace h := wp_li h y1 ey1
  refine Ev.istore dX6_look_127 (Nat.le_of_ble_eq_true rfl) rfl ?_
  show Ev E mi_X6_look 129 [(9, .int y1), (0, .ref (ad E 54)), (2, .int p2), (3, .int x3), (4, .int x4), (5, .int x5), (6, .int x6), (7, .int x7), (8, .int x8), (10, .int x10)] [] M Q
  refine Ev.iinc (v := x10 + 1) dX6_look_129 9 rfl rfl (Nat.le_of_ble_eq_true rfl) rfl ?_
  show Ev E mi_X6_look 132 [(10, .int (x10 + 1)), (9, .int y1), (0, .ref (ad E 54)), (2, .int p2), (3, .int x3), (4, .int x4), (5, .int x5), (6, .int x6), (7, .int x7), (8, .int x8)] [] M Q
  refine Ev.goto (tgt := 64) dX6_look_132 (by decide) ?_
  refine Ev.sub [2, 3, 4, 5, 6, 7, 8, 9, 1, 0] rfl ?_
  exact ht64 _ _ _ _ _ _ _ _ _ h
noncomputable def f_X6_look_125 (p1 : Int32) (p2 : Int32) (t64 : Int32 → Int32 → Int32 → Int32 → Int32 → Int32 → Int32 → Int32 → Mem → Option (Int32 × Mem)) (x3 : Int32) (x4 : Int32) (x5 : Int32) (x6 : Int32) (x7 : Int32) (x8 : Int32) (x10 : Int32) (s0 : Int32) (M : Mem) : Option (Int32 × Mem) := f_X6_look_126 p1 p2 t64 x3 x4 x5 x6 x7 x8 x10 s0 0 M
theorem o_X6_look_125 {E : GE} {Q : Option Value → Mem → Prop} {p1 : Int32} {p2 : Int32} {t64 : Int32 → Int32 → Int32 → Int32 → Int32 → Int32 → Int32 → Int32 → Mem → Option (Int32 × Mem)} {x3 : Int32} {x4 : Int32} {x5 : Int32} {x6 : Int32} {x7 : Int32} {x8 : Int32} {x10 : Int32} {s0 : Int32} {M : Mem} (ht64 : ∀ (x3 : Int32) (x4 : Int32) (x5 : Int32) (x6 : Int32) (x7 : Int32) (x8 : Int32) (x9 : Int32) (x10 : Int32) (M : Mem), wp (t64 x3 x4 x5 x6 x7 x8 x9 x10 M) gIM Q → Ev E mi_X6_look 64 [(0, .ref (ad E 54)), (2, .int p2), (3, .int x3), (4, .int x4), (5, .int x5), (6, .int x6), (7, .int x7), (8, .int x8), (9, .int x9), (10, .int x10)] [] M Q) (h : wp (f_X6_look_125 p1 p2 t64 x3 x4 x5 x6 x7 x8 x10 s0 M) gIM Q) : Ev E mi_X6_look 125 [(0, .ref (ad E 54)), (2, .int p2), (3, .int x3), (4, .int x4), (5, .int x5), (6, .int x6), (7, .int x7), (8, .int x8), (10, .int x10)] [.int s0] M Q := by
  unfold f_X6_look_125 at h
  refine Ev.iconst (v := 0) dX6_look_125 rfl ?_
  exact o_X6_look_126 ht64 h
noncomputable def f_X6_look_149 (p1 : Int32) (p2 : Int32) (t52 : Int32 → Int32 → Int32 → Int32 → Int32 → Int32 → Mem → Option (Int32 × Mem)) (x3 : Int32) (x4 : Int32) (x5 : Int32) (x6 : Int32) (x8 : Int32) (s0 : Int32) (M : Mem) : Option (Int32 × Mem) := t52 x3 x4 x5 x6 s0 (x8 + 1) M
theorem o_X6_look_149 {E : GE} {Q : Option Value → Mem → Prop} {p1 : Int32} {p2 : Int32} {t52 : Int32 → Int32 → Int32 → Int32 → Int32 → Int32 → Mem → Option (Int32 × Mem)} {x3 : Int32} {x4 : Int32} {x5 : Int32} {x6 : Int32} {x8 : Int32} {s0 : Int32} {M : Mem} (ht52 : ∀ (x3 : Int32) (x4 : Int32) (x5 : Int32) (x6 : Int32) (x7 : Int32) (x8 : Int32) (M : Mem), wp (t52 x3 x4 x5 x6 x7 x8 M) gIM Q → Ev E mi_X6_look 52 [(0, .ref (ad E 54)), (2, .int p2), (3, .int x3), (4, .int x4), (5, .int x5), (6, .int x6), (7, .int x7), (8, .int x8)] [] M Q) (h : wp (f_X6_look_149 p1 p2 t52 x3 x4 x5 x6 x8 s0 M) gIM Q) : Ev E mi_X6_look 149 [(0, .ref (ad E 54)), (2, .int p2), (3, .int x3), (4, .int x4), (5, .int x5), (6, .int x6), (8, .int x8)] [.int s0] M Q := by
  unfold f_X6_look_149 at h
  refine Ev.istore dX6_look_149 (Nat.le_of_ble_eq_true rfl) rfl ?_
  show Ev E mi_X6_look 151 [(7, .int s0), (0, .ref (ad E 54)), (2, .int p2), (3, .int x3), (4, .int x4), (5, .int x5), (6, .int x6), (8, .int x8)] [] M Q
  refine Ev.iinc (v := x8 + 1) dX6_look_151 7 rfl rfl (Nat.le_of_ble_eq_true rfl) rfl ?_
  show Ev E mi_X6_look 154 [(8, .int (x8 + 1)), (7, .int s0), (0, .ref (ad E 54)), (2, .int p2), (3, .int x3), (4, .int x4), (5, .int x5), (6, .int x6)] [] M Q
  refine Ev.goto (tgt := 52) dX6_look_154 (by decide) ?_
  refine Ev.sub [2, 3, 4, 5, 6, 7, 1, 0] rfl ?_
  exact ht52 _ _ _ _ _ _ _ h
noncomputable def f_X6_look_135 (p1 : Int32) (p2 : Int32) (t52 : Int32 → Int32 → Int32 → Int32 → Int32 → Int32 → Mem → Option (Int32 × Mem)) (x3 : Int32) (x4 : Int32) (x5 : Int32) (x6 : Int32) (x7 : Int32) (x8 : Int32) (x9 : Int32) (M : Mem) : Option (Int32 × Mem) := if x9 ≤ x7 then f_X6_look_149 p1 p2 t52 x3 x4 x5 x6 x8 x7 M else f_X6_look_149 p1 p2 t52 x3 x4 x5 x6 x8 x9 M
theorem o_X6_look_135 {E : GE} {Q : Option Value → Mem → Prop} {p1 : Int32} {p2 : Int32} {t52 : Int32 → Int32 → Int32 → Int32 → Int32 → Int32 → Mem → Option (Int32 × Mem)} {x3 : Int32} {x4 : Int32} {x5 : Int32} {x6 : Int32} {x7 : Int32} {x8 : Int32} {x9 : Int32} {M : Mem} (ht52 : ∀ (x3 : Int32) (x4 : Int32) (x5 : Int32) (x6 : Int32) (x7 : Int32) (x8 : Int32) (M : Mem), wp (t52 x3 x4 x5 x6 x7 x8 M) gIM Q → Ev E mi_X6_look 52 [(0, .ref (ad E 54)), (2, .int p2), (3, .int x3), (4, .int x4), (5, .int x5), (6, .int x6), (7, .int x7), (8, .int x8)] [] M Q) (h : wp (f_X6_look_135 p1 p2 t52 x3 x4 x5 x6 x7 x8 x9 M) gIM Q) : Ev E mi_X6_look 135 [(0, .ref (ad E 54)), (2, .int p2), (3, .int x3), (4, .int x4), (5, .int x5), (6, .int x6), (7, .int x7), (8, .int x8), (9, .int x9)] [] M Q := by
  unfold f_X6_look_135 at h
  refine Ev.iload dX6_look_135 8 rfl ?_
  refine Ev.iload dX6_look_137 6 rfl ?_
  refine Ev.icmp_le (tgt := 147) dX6_look_139 (by decide) (fun c1 => ?_) (fun c1 => ?_)
  · replace h := wp_t c1 h
    refine Ev.iload dX6_look_147 6 rfl ?_
    refine Ev.sub [0, 1, 2, 3, 4, 5, 7] rfl ?_
    exact o_X6_look_149 ht52 h
  · replace h := wp_f c1 h
    refine Ev.iload dX6_look_142 8 rfl ?_
    refine Ev.goto (tgt := 149) dX6_look_144 (by decide) ?_
    refine Ev.sub [0, 1, 2, 3, 4, 5, 7] rfl ?_
    exact o_X6_look_149 ht52 h
noncomputable def f_X6_look_64 (p1 : Int32) (p2 : Int32) (t52 : Int32 → Int32 → Int32 → Int32 → Int32 → Int32 → Mem → Option (Int32 × Mem)) : Nat → Int32 → Int32 → Int32 → Int32 → Int32 → Int32 → Int32 → Int32 → Mem → Option (Int32 × Mem)
  | 0, _, _, _, _, _, _, _, _, _ => none
  | n + 1, x3, x4, x5, x6, x7, x8, x9, x10, M => if 4 ≤ x10 then f_X6_look_135 p1 p2 t52 x3 x4 x5 x6 x7 x8 x9 M else if ((x3 >>> (x8 &&& 31)) &&& 1) = 1 then if ((x3 >>> (x10 &&& 31)) &&& 1) = 1 then rd (M 70) 100 ((25 * x8) + x6) fun r5 => rd (M 70) 100 ((25 * x10) + x6) fun r7 => if r5 = r7 then f_X6_look_126 p1 p2 (f_X6_look_64 p1 p2 t52 n) x3 x4 x5 x6 x7 x8 x10 x9 1 M else f_X6_look_125 p1 p2 (f_X6_look_64 p1 p2 t52 n) x3 x4 x5 x6 x7 x8 x10 x9 M else f_X6_look_125 p1 p2 (f_X6_look_64 p1 p2 t52 n) x3 x4 x5 x6 x7 x8 x10 x9 M else f_X6_look_135 p1 p2 t52 x3 x4 x5 x6 x7 x8 x9 M
theorem o_X6_look_64 {E : GE} {Q : Option Value → Mem → Prop} {p1 : Int32} {p2 : Int32} {t52 : Int32 → Int32 → Int32 → Int32 → Int32 → Int32 → Mem → Option (Int32 × Mem)} (ht52 : ∀ (x3 : Int32) (x4 : Int32) (x5 : Int32) (x6 : Int32) (x7 : Int32) (x8 : Int32) (M : Mem), wp (t52 x3 x4 x5 x6 x7 x8 M) gIM Q → Ev E mi_X6_look 52 [(0, .ref (ad E 54)), (2, .int p2), (3, .int x3), (4, .int x4), (5, .int x5), (6, .int x6), (7, .int x7), (8, .int x8)] [] M Q) : ∀ (n : Nat) {x3 : Int32} {x4 : Int32} {x5 : Int32} {x6 : Int32} {x7 : Int32} {x8 : Int32} {x9 : Int32} {x10 : Int32} {M : Mem}, wp (f_X6_look_64 p1 p2 t52 n x3 x4 x5 x6 x7 x8 x9 x10 M) gIM Q → Ev E mi_X6_look 64 [(0, .ref (ad E 54)), (2, .int p2), (3, .int x3), (4, .int x4), (5, .int x5), (6, .int x6), (7, .int x7), (8, .int x8), (9, .int x9), (10, .int x10)] [] M Q := by
  intro n
  induction n with
  | zero => intro _ _ _ _ _ _ _ _ _ h; exact absurd h wp_none
  | succ n ih =>
    intro x3 x4 x5 x6 x7 x8 x9 x10 M h
    unfold f_X6_look_64 at h
    refine Ev.iload dX6_look_64 9 rfl ?_
    refine Ev.iconst (v := 4) dX6_look_66 rfl ?_
    refine Ev.icmp_ge (tgt := 135) dX6_look_67 (by decide) (fun c1 => ?_) (fun c1 => ?_)
    · replace h := wp_t c1 h
      refine Ev.sub [0, 1, 2, 3, 4, 5, 6, 7, 8] rfl ?_
      exact o_X6_look_135 ht52 h
    · replace h := wp_f c1 h
      refine Ev.iload_n dX6_look_70 rfl 2 rfl ?_
      refine Ev.iload dX6_look_71 7 rfl ?_
      refine Ev.ishr dX6_look_73 ?_
      refine Ev.iconst (v := 1) dX6_look_74 rfl ?_
      refine Ev.iand dX6_look_75 ?_
      refine Ev.iconst (v := 1) dX6_look_76 rfl ?_
      refine Ev.icmp_ne (tgt := 135) dX6_look_77 (by decide) (fun c2 => ?_) (fun c2 => ?_)
      · replace h := wp_t c2 h
        refine Ev.iload dX6_look_80 8 rfl ?_
        refine Ev.iload_n dX6_look_82 rfl 2 rfl ?_
        refine Ev.iload dX6_look_83 9 rfl ?_
        refine Ev.ishr dX6_look_85 ?_
        refine Ev.iconst (v := 1) dX6_look_86 rfl ?_
        refine Ev.iand dX6_look_87 ?_
        refine Ev.iconst (v := 1) dX6_look_88 rfl ?_
        refine Ev.icmp_ne (tgt := 125) dX6_look_89 (by decide) (fun c3 => ?_) (fun c3 => ?_)
        · replace h := wp_t c3 h
          refine Ev.aload_n dX6_look_92 rfl 0 rfl ?_
          refine Ev.get dX6_look_93 fl_X6_55 rfl (Nat.le_of_ble_eq_true rfl) (v := .ref (ad E 70)) rfl ?_
          refine Ev.bipush (v := 25) dX6_look_96 rfl ?_
          refine Ev.iload dX6_look_98 7 rfl ?_
          refine Ev.imul dX6_look_100 ?_
          refine Ev.iload dX6_look_101 5 rfl ?_
          refine Ev.iadd dX6_look_103 ?_
          obtain ⟨g4, h⟩ := wp_rd h
          refine Ev.iald dX6_look_104 rfl (Nat.le_of_ble_eq_true rfl) rfl g4 ?_
          refine Ev.topi (fun r5 er5 => ?_)
          replace h := h r5 er5
          refine Ev.aload_n dX6_look_105 rfl 0 rfl ?_
          refine Ev.get dX6_look_106 fl_X6_55 rfl (Nat.le_of_ble_eq_true rfl) (v := .ref (ad E 70)) rfl ?_
          refine Ev.bipush (v := 25) dX6_look_109 rfl ?_
          refine Ev.iload dX6_look_111 9 rfl ?_
          refine Ev.imul dX6_look_113 ?_
          refine Ev.iload dX6_look_114 5 rfl ?_
          refine Ev.iadd dX6_look_116 ?_
          obtain ⟨g6, h⟩ := wp_rd h
          refine Ev.iald dX6_look_117 rfl (Nat.le_of_ble_eq_true rfl) rfl g6 ?_
          refine Ev.topi (fun r7 er7 => ?_)
          replace h := h r7 er7
          refine Ev.icmp_ne (tgt := 125) dX6_look_118 (by decide) (fun c8 => ?_) (fun c8 => ?_)
          · replace h := wp_t c8 h
            refine Ev.iconst (v := 1) dX6_look_121 rfl ?_
            refine Ev.goto (tgt := 126) dX6_look_122 (by decide) ?_
            refine Ev.sub [0, 1, 2, 3, 4, 5, 6, 7, 9] rfl ?_
            exact o_X6_look_126 (fun _ _ _ _ _ _ _ _ _ h => ih h) h
          · replace h := wp_f c8 h
            refine Ev.sub [0, 1, 2, 3, 4, 5, 6, 7, 9] rfl ?_
            exact o_X6_look_125 (fun _ _ _ _ _ _ _ _ _ h => ih h) h
        · replace h := wp_f c3 h
          refine Ev.sub [0, 1, 2, 3, 4, 5, 6, 7, 9] rfl ?_
          exact o_X6_look_125 (fun _ _ _ _ _ _ _ _ _ h => ih h) h
      · replace h := wp_f c2 h
        refine Ev.sub [0, 1, 2, 3, 4, 5, 6, 7, 8] rfl ?_
        exact o_X6_look_135 ht52 h
noncomputable def f_X6_look_187 (p1 : Int32) (p2 : Int32) (t39 : Int32 → Int32 → Int32 → Int32 → Mem → Option (Int32 × Mem)) (x3 : Int32) (x5 : Int32) (x6 : Int32) (s0 : Int32) (M : Mem) : Option (Int32 × Mem) := t39 x3 s0 x5 (x6 + 1) M
theorem o_X6_look_187 {E : GE} {Q : Option Value → Mem → Prop} {p1 : Int32} {p2 : Int32} {t39 : Int32 → Int32 → Int32 → Int32 → Mem → Option (Int32 × Mem)} {x3 : Int32} {x5 : Int32} {x6 : Int32} {s0 : Int32} {M : Mem} (ht39 : ∀ (x3 : Int32) (x4 : Int32) (x5 : Int32) (x6 : Int32) (M : Mem), wp (t39 x3 x4 x5 x6 M) gIM Q → Ev E mi_X6_look 39 [(0, .ref (ad E 54)), (2, .int p2), (3, .int x3), (4, .int x4), (5, .int x5), (6, .int x6)] [] M Q) (h : wp (f_X6_look_187 p1 p2 t39 x3 x5 x6 s0 M) gIM Q) : Ev E mi_X6_look 187 [(0, .ref (ad E 54)), (2, .int p2), (3, .int x3), (5, .int x5), (6, .int x6)] [.int s0] M Q := by
  unfold f_X6_look_187 at h
  refine Ev.istore dX6_look_187 (Nat.le_of_ble_eq_true rfl) rfl ?_
  show Ev E mi_X6_look 189 [(4, .int s0), (0, .ref (ad E 54)), (2, .int p2), (3, .int x3), (5, .int x5), (6, .int x6)] [] M Q
  refine Ev.iinc (v := x6 + 1) dX6_look_189 5 rfl rfl (Nat.le_of_ble_eq_true rfl) rfl ?_
  show Ev E mi_X6_look 192 [(6, .int (x6 + 1)), (4, .int s0), (0, .ref (ad E 54)), (2, .int p2), (3, .int x3), (5, .int x5)] [] M Q
  refine Ev.goto (tgt := 39) dX6_look_192 (by decide) ?_
  refine Ev.sub [2, 3, 4, 1, 5, 0] rfl ?_
  exact ht39 _ _ _ _ _ h
noncomputable def f_X6_look_171 (p1 : Int32) (p2 : Int32) (t39 : Int32 → Int32 → Int32 → Int32 → Mem → Option (Int32 × Mem)) (x3 : Int32) (x4 : Int32) (x6 : Int32) (x7 : Int32) (s0 : Int32) (M : Mem) : Option (Int32 × Mem) := if x4 ≤ x7 then f_X6_look_187 p1 p2 t39 x3 s0 x6 x4 M else f_X6_look_187 p1 p2 t39 x3 s0 x6 x7 M
theorem o_X6_look_171 {E : GE} {Q : Option Value → Mem → Prop} {p1 : Int32} {p2 : Int32} {t39 : Int32 → Int32 → Int32 → Int32 → Mem → Option (Int32 × Mem)} {x3 : Int32} {x4 : Int32} {x6 : Int32} {x7 : Int32} {s0 : Int32} {M : Mem} (ht39 : ∀ (x3 : Int32) (x4 : Int32) (x5 : Int32) (x6 : Int32) (M : Mem), wp (t39 x3 x4 x5 x6 M) gIM Q → Ev E mi_X6_look 39 [(0, .ref (ad E 54)), (2, .int p2), (3, .int x3), (4, .int x4), (5, .int x5), (6, .int x6)] [] M Q) (h : wp (f_X6_look_171 p1 p2 t39 x3 x4 x6 x7 s0 M) gIM Q) : Ev E mi_X6_look 171 [(0, .ref (ad E 54)), (2, .int p2), (3, .int x3), (4, .int x4), (6, .int x6), (7, .int x7)] [.int s0] M Q := by
  unfold f_X6_look_171 at h
  refine Ev.istore dX6_look_171 (Nat.le_of_ble_eq_true rfl) rfl ?_
  show Ev E mi_X6_look 173 [(5, .int s0), (0, .ref (ad E 54)), (2, .int p2), (3, .int x3), (4, .int x4), (6, .int x6), (7, .int x7)] [] M Q
  refine Ev.iload dX6_look_173 6 rfl ?_
  refine Ev.iload dX6_look_175 4 rfl ?_
  refine Ev.icmp_ge (tgt := 185) dX6_look_177 (by decide) (fun c1 => ?_) (fun c1 => ?_)
  · replace h := wp_t c1 h
    refine Ev.iload dX6_look_185 4 rfl ?_
    refine Ev.sub [1, 2, 3, 0, 5] rfl ?_
    exact o_X6_look_187 ht39 h
  · replace h := wp_f c1 h
    refine Ev.iload dX6_look_180 6 rfl ?_
    refine Ev.goto (tgt := 187) dX6_look_182 (by decide) ?_
    refine Ev.sub [1, 2, 3, 0, 5] rfl ?_
    exact o_X6_look_187 ht39 h
noncomputable def f_X6_look_157 (p1 : Int32) (p2 : Int32) (t39 : Int32 → Int32 → Int32 → Int32 → Mem → Option (Int32 × Mem)) (x3 : Int32) (x4 : Int32) (x5 : Int32) (x6 : Int32) (x7 : Int32) (M : Mem) : Option (Int32 × Mem) := if x4 ≤ x7 then f_X6_look_171 p1 p2 t39 x3 x4 x6 x7 x5 M else f_X6_look_171 p1 p2 t39 x3 x4 x6 x7 x6 M
theorem o_X6_look_157 {E : GE} {Q : Option Value → Mem → Prop} {p1 : Int32} {p2 : Int32} {t39 : Int32 → Int32 → Int32 → Int32 → Mem → Option (Int32 × Mem)} {x3 : Int32} {x4 : Int32} {x5 : Int32} {x6 : Int32} {x7 : Int32} {M : Mem} (ht39 : ∀ (x3 : Int32) (x4 : Int32) (x5 : Int32) (x6 : Int32) (M : Mem), wp (t39 x3 x4 x5 x6 M) gIM Q → Ev E mi_X6_look 39 [(0, .ref (ad E 54)), (2, .int p2), (3, .int x3), (4, .int x4), (5, .int x5), (6, .int x6)] [] M Q) (h : wp (f_X6_look_157 p1 p2 t39 x3 x4 x5 x6 x7 M) gIM Q) : Ev E mi_X6_look 157 [(0, .ref (ad E 54)), (2, .int p2), (3, .int x3), (4, .int x4), (5, .int x5), (6, .int x6), (7, .int x7)] [] M Q := by
  unfold f_X6_look_157 at h
  refine Ev.iload dX6_look_157 6 rfl ?_
  refine Ev.iload dX6_look_159 3 rfl ?_
  refine Ev.icmp_ge (tgt := 169) dX6_look_161 (by decide) (fun c1 => ?_) (fun c1 => ?_)
  · replace h := wp_t c1 h
    refine Ev.iload dX6_look_169 4 rfl ?_
    refine Ev.sub [0, 1, 2, 3, 5, 6] rfl ?_
    exact o_X6_look_171 ht39 h
  · replace h := wp_f c1 h
    refine Ev.iload dX6_look_164 5 rfl ?_
    refine Ev.goto (tgt := 171) dX6_look_166 (by decide) ?_
    refine Ev.sub [0, 1, 2, 3, 5, 6] rfl ?_
    exact o_X6_look_171 ht39 h
noncomputable def f_X6_look_52 (p1 : Int32) (p2 : Int32) (t39 : Int32 → Int32 → Int32 → Int32 → Mem → Option (Int32 × Mem)) : Nat → Int32 → Int32 → Int32 → Int32 → Int32 → Int32 → Mem → Option (Int32 × Mem)
  | 0, _, _, _, _, _, _, _ => none
  | n + 1, x3, x4, x5, x6, x7, x8, M => if 4 ≤ x8 then f_X6_look_157 p1 p2 t39 x3 x4 x5 x6 x7 M else f_X6_look_64 p1 p2 (f_X6_look_52 p1 p2 t39 n) FU x3 x4 x5 x6 x7 x8 0 0 M
theorem o_X6_look_52 {E : GE} {Q : Option Value → Mem → Prop} {p1 : Int32} {p2 : Int32} {t39 : Int32 → Int32 → Int32 → Int32 → Mem → Option (Int32 × Mem)} (ht39 : ∀ (x3 : Int32) (x4 : Int32) (x5 : Int32) (x6 : Int32) (M : Mem), wp (t39 x3 x4 x5 x6 M) gIM Q → Ev E mi_X6_look 39 [(0, .ref (ad E 54)), (2, .int p2), (3, .int x3), (4, .int x4), (5, .int x5), (6, .int x6)] [] M Q) : ∀ (n : Nat) {x3 : Int32} {x4 : Int32} {x5 : Int32} {x6 : Int32} {x7 : Int32} {x8 : Int32} {M : Mem}, wp (f_X6_look_52 p1 p2 t39 n x3 x4 x5 x6 x7 x8 M) gIM Q → Ev E mi_X6_look 52 [(0, .ref (ad E 54)), (2, .int p2), (3, .int x3), (4, .int x4), (5, .int x5), (6, .int x6), (7, .int x7), (8, .int x8)] [] M Q := by
  intro n
  induction n with
  | zero => intro _ _ _ _ _ _ _ h; exact absurd h wp_none
  | succ n ih =>
    intro x3 x4 x5 x6 x7 x8 M h
    unfold f_X6_look_52 at h
    refine Ev.iload dX6_look_52 7 rfl ?_
    refine Ev.iconst (v := 4) dX6_look_54 rfl ?_
    refine Ev.icmp_ge (tgt := 157) dX6_look_55 (by decide) (fun c1 => ?_) (fun c1 => ?_)
    · replace h := wp_t c1 h
      refine Ev.sub [0, 1, 2, 3, 4, 5, 6] rfl ?_
      exact o_X6_look_157 ht39 h
    · replace h := wp_f c1 h
      refine Ev.iconst (v := 0) dX6_look_58 rfl ?_
      refine Ev.istore dX6_look_59 (Nat.le_of_ble_eq_true rfl) rfl ?_
      show Ev E mi_X6_look 61 [(9, .int 0), (0, .ref (ad E 54)), (2, .int p2), (3, .int x3), (4, .int x4), (5, .int x5), (6, .int x6), (7, .int x7), (8, .int x8)] [] M Q
      refine Ev.iconst (v := 0) dX6_look_61 rfl ?_
      refine Ev.istore dX6_look_62 (Nat.le_of_ble_eq_true rfl) rfl ?_
      show Ev E mi_X6_look 64 [(10, .int 0), (9, .int 0), (0, .ref (ad E 54)), (2, .int p2), (3, .int x3), (4, .int x4), (5, .int x5), (6, .int x6), (7, .int x7), (8, .int x8)] [] M Q
      refine Ev.sub [2, 3, 4, 5, 6, 7, 8, 9, 1, 0] rfl ?_
      exact o_X6_look_64 (fun _ _ _ _ _ _ _ h => ih h) FU h
noncomputable def f_X6_look_206 (p1 : Int32) (p2 : Int32) (x5 : Int32) (M : Mem) : Option (Int32 × Mem) := some (x5, M)
theorem o_X6_look_206 {E : GE} {Q : Option Value → Mem → Prop} {p1 : Int32} {p2 : Int32} {x5 : Int32} {M : Mem} (h : wp (f_X6_look_206 p1 p2 x5 M) gIM Q) : Ev E mi_X6_look 206 [(5, .int x5)] [] M Q := by
  unfold f_X6_look_206 at h
  refine Ev.iload dX6_look_206 0 rfl ?_
  refine Ev.goto (tgt := 213) dX6_look_208 (by decide) ?_
  exact Ev.ret dX6_look_213 rfl rfl (wp_ret h)
noncomputable def f_X6_look_195 (p1 : Int32) (p2 : Int32) (x4 : Int32) (x5 : Int32) (M : Mem) : Option (Int32 × Mem) := if x5 = (-4) then f_X6_look_206 p1 p2 x5 M else if p2 = 0 then f_X6_look_206 p1 p2 x5 M else some (x4, M)
theorem o_X6_look_195 {E : GE} {Q : Option Value → Mem → Prop} {p1 : Int32} {p2 : Int32} {x4 : Int32} {x5 : Int32} {M : Mem} (h : wp (f_X6_look_195 p1 p2 x4 x5 M) gIM Q) : Ev E mi_X6_look 195 [(2, .int p2), (4, .int x4), (5, .int x5)] [] M Q := by
  unfold f_X6_look_195 at h
  refine Ev.iload dX6_look_195 2 rfl ?_
  refine Ev.bipush (v := (-4)) dX6_look_197 rfl ?_
  refine Ev.icmp_eq (tgt := 206) dX6_look_199 (by decide) (fun c1 => ?_) (fun c1 => ?_)
  · replace h := wp_t c1 h
    refine Ev.sub [2] rfl ?_
    exact o_X6_look_206 h
  · replace h := wp_f c1 h
    refine Ev.iload_n dX6_look_202 rfl 0 rfl ?_
    refine Ev.if_ne (tgt := 211) dX6_look_203 (by decide) (fun c2 => ?_) (fun c2 => ?_)
    · replace h := wp_t c2 h
      refine Ev.sub [2] rfl ?_
      exact o_X6_look_206 h
    · replace h := wp_f c2 h
      refine Ev.iload dX6_look_211 1 rfl ?_
      exact Ev.ret dX6_look_213 rfl rfl (wp_ret h)
noncomputable def f_X6_look_39 (p1 : Int32) (p2 : Int32) : Nat → Int32 → Int32 → Int32 → Int32 → Mem → Option (Int32 × Mem)
  | 0, _, _, _, _, _ => none
  | n + 1, x3, x4, x5, x6, M => if 24 < x6 then f_X6_look_195 p1 p2 x4 x5 M else f_X6_look_52 p1 p2 (f_X6_look_39 p1 p2 n) FU x3 x4 x5 x6 0 0 M
theorem o_X6_look_39 {E : GE} {Q : Option Value → Mem → Prop} {p1 : Int32} {p2 : Int32} : ∀ (n : Nat) {x3 : Int32} {x4 : Int32} {x5 : Int32} {x6 : Int32} {M : Mem}, wp (f_X6_look_39 p1 p2 n x3 x4 x5 x6 M) gIM Q → Ev E mi_X6_look 39 [(0, .ref (ad E 54)), (2, .int p2), (3, .int x3), (4, .int x4), (5, .int x5), (6, .int x6)] [] M Q := by
  intro n
  induction n with
  | zero => intro _ _ _ _ _ h; exact absurd h wp_none
  | succ n ih =>
    intro x3 x4 x5 x6 M h
    unfold f_X6_look_39 at h
    refine Ev.iload dX6_look_39 5 rfl ?_
    refine Ev.bipush (v := 24) dX6_look_41 rfl ?_
    refine Ev.icmp_gt (tgt := 195) dX6_look_43 (by decide) (fun c1 => ?_) (fun c1 => ?_)
    · replace h := wp_t c1 h
      refine Ev.sub [1, 3, 4] rfl ?_
      exact o_X6_look_195 h
    · replace h := wp_f c1 h
      refine Ev.iconst (v := 0) dX6_look_46 rfl ?_
      refine Ev.istore dX6_look_47 (Nat.le_of_ble_eq_true rfl) rfl ?_
      show Ev E mi_X6_look 49 [(7, .int 0), (0, .ref (ad E 54)), (2, .int p2), (3, .int x3), (4, .int x4), (5, .int x5), (6, .int x6)] [] M Q
      refine Ev.iconst (v := 0) dX6_look_49 rfl ?_
      refine Ev.istore dX6_look_50 (Nat.le_of_ble_eq_true rfl) rfl ?_
      show Ev E mi_X6_look 52 [(8, .int 0), (7, .int 0), (0, .ref (ad E 54)), (2, .int p2), (3, .int x3), (4, .int x4), (5, .int x5), (6, .int x6)] [] M Q
      refine Ev.sub [2, 3, 4, 5, 6, 7, 1, 0] rfl ?_
      exact o_X6_look_52 (fun _ _ _ _ _ h => ih h) FU h
noncomputable def f_X6_look (p1 : Int32) (p2 : Int32) (M : Mem) : Option (Int32 × Mem) := (f_X6_isTub p1 M).bind fun r1 => if r1 = 0 then some ((-1), M) else (f_X6_in p2.toInt64 0 1 M).bind fun r3 => if r3 = 0 then some ((-1), M) else (f_X6_kindsOf p1 M).bind fun r5 => (f_X6_bitsOf r5.1 r5.2).bind fun r6 => f_X6_look_39 p1 p2 FU r5.1 r6 (-4) 0 r5.2
theorem o_X6_look {E : GE} {Q : Option Value → Mem → Prop} {p1 : Int32} {p2 : Int32} {M : Mem} (h : wp (f_X6_look p1 p2 M) gIM Q) : Runs E mi_X6_look [.ref (ad E 54), .int p1, .int p2] M Q := by
  refine Runs.ofEv (by decide +kernel) (Nat.le_of_ble_eq_true rfl) ?_
  show Ev E mi_X6_look 0 [(0, .ref (ad E 54)), (1, .int p1), (2, .int p2)] [] M Q
  unfold f_X6_look at h
  refine Ev.aload_n dX6_look_0 rfl 0 rfl ?_
  refine Ev.iload_n dX6_look_1 rfl 1 rfl ?_
  obtain ⟨r1, er1, h⟩ := wp_bind h
  refine Ev.callV (k := 54) (as := [.int p1]) (rest := []) dX6_look_2 cl_X6_173 mok_X6_isTub rfl (Nat.le_of_ble_eq_true rfl) (Nat.le_of_ble_eq_true rfl) ⟨Nat.le_of_ble_eq_true rfl, Nat.le_of_ble_eq_true rfl⟩ (Nat.le_of_ble_eq_true rfl) rfl rfl (o_X6_isTub ⟨r1, er1, ?_⟩)
  show Ev E mi_X6_look 5 [(0, .ref (ad E 54)), (1, .int p1), (2, .int p2)] [.int r1] M Q
  refine Ev.if_eq (tgt := 18) dX6_look_5 (by decide) (fun c2 => ?_) (fun c2 => ?_)
  · replace h := wp_t c2 h
    refine Ev.iconst (v := (-1)) dX6_look_18 rfl ?_
    exact Ev.ret dX6_look_19 rfl rfl (wp_ret h)
  · replace h := wp_f c2 h
    refine Ev.iload_n dX6_look_8 rfl 2 rfl ?_
    refine Ev.i2l dX6_look_9 ?_
    refine Ev.lconst (v := 0) dX6_look_10 rfl ?_
    refine Ev.lconst (v := 1) dX6_look_11 rfl ?_
    obtain ⟨r3, er3, h⟩ := wp_bind h
    refine Ev.callS (as := [.long p2.toInt64, .long 0, .long 1]) (rest := []) dX6_look_12 cl_X6_73 mos_X6_in ⟨Nat.le_of_ble_eq_true rfl, Nat.le_of_ble_eq_true rfl⟩ (Nat.le_of_ble_eq_true rfl) rfl rfl (o_X6_in ⟨r3, er3, ?_⟩)
    show Ev E mi_X6_look 15 [(0, .ref (ad E 54)), (1, .int p1), (2, .int p2)] [.int r3] M Q
    refine Ev.if_ne (tgt := 20) dX6_look_15 (by decide) (fun c4 => ?_) (fun c4 => ?_)
    · replace h := wp_t c4 h
      refine Ev.iconst (v := (-1)) dX6_look_18 rfl ?_
      exact Ev.ret dX6_look_19 rfl rfl (wp_ret h)
    · replace h := wp_f c4 h
      refine Ev.aload_n dX6_look_20 rfl 0 rfl ?_
      refine Ev.iload_n dX6_look_21 rfl 1 rfl ?_
      obtain ⟨r5, er5, h⟩ := wp_bind h
      refine Ev.callV (k := 54) (as := [.int p1]) (rest := []) dX6_look_22 cl_X6_258 mok_X6_kindsOf rfl (Nat.le_of_ble_eq_true rfl) (Nat.le_of_ble_eq_true rfl) ⟨Nat.le_of_ble_eq_true rfl, Nat.le_of_ble_eq_true rfl⟩ (Nat.le_of_ble_eq_true rfl) rfl rfl (o_X6_kindsOf ⟨r5, er5, ?_⟩)
      show Ev E mi_X6_look 25 [(0, .ref (ad E 54)), (1, .int p1), (2, .int p2)] [.int r5.1] r5.2 Q
      refine Ev.istore_n dX6_look_25 rfl (Nat.le_of_ble_eq_true rfl) rfl ?_
      show Ev E mi_X6_look 26 [(3, .int r5.1), (0, .ref (ad E 54)), (1, .int p1), (2, .int p2)] [] r5.2 Q
      refine Ev.iload_n dX6_look_26 rfl 0 rfl ?_
      obtain ⟨r6, er6, h⟩ := wp_bind h
      refine Ev.callS (as := [.int r5.1]) (rest := []) dX6_look_27 cl_X6_170 mos_X6_bitsOf ⟨Nat.le_of_ble_eq_true rfl, Nat.le_of_ble_eq_true rfl⟩ (Nat.le_of_ble_eq_true rfl) rfl rfl (o_X6_bitsOf ⟨r6, er6, ?_⟩)
      show Ev E mi_X6_look 30 [(3, .int r5.1), (0, .ref (ad E 54)), (1, .int p1), (2, .int p2)] [.int r6] r5.2 Q
      refine Ev.istore dX6_look_30 (Nat.le_of_ble_eq_true rfl) rfl ?_
      show Ev E mi_X6_look 32 [(4, .int r6), (3, .int r5.1), (0, .ref (ad E 54)), (1, .int p1), (2, .int p2)] [] r5.2 Q
      refine Ev.bipush (v := (-4)) dX6_look_32 rfl ?_
      refine Ev.istore dX6_look_34 (Nat.le_of_ble_eq_true rfl) rfl ?_
      show Ev E mi_X6_look 36 [(5, .int (-4)), (4, .int r6), (3, .int r5.1), (0, .ref (ad E 54)), (1, .int p1), (2, .int p2)] [] r5.2 Q
      refine Ev.iconst (v := 0) dX6_look_36 rfl ?_
      refine Ev.istore dX6_look_37 (Nat.le_of_ble_eq_true rfl) rfl ?_
      show Ev E mi_X6_look 39 [(6, .int 0), (5, .int (-4)), (4, .int r6), (3, .int r5.1), (0, .ref (ad E 54)), (1, .int p1), (2, .int p2)] [] r5.2 Q
      refine Ev.sub [4, 6, 3, 2, 1, 0] rfl ?_
      exact o_X6_look_39 FU h

noncomputable def f_X6_drift_156 (p1 : Int32) (p2 : Int32) (p3 : Int32) (x5 : Int32) (M : Mem) : Option (Int32 × Mem) := if p3 = 0 then some (x5, M) else (f_X6_tubsOf 1 (-4) M).bind fun r2 => some (r2, M)
theorem o_X6_drift_156 {E : GE} {Q : Option Value → Mem → Prop} {p1 : Int32} {p2 : Int32} {p3 : Int32} {x5 : Int32} {M : Mem} (h : wp (f_X6_drift_156 p1 p2 p3 x5 M) gIM Q) : Ev E mi_X6_drift 156 [(0, .ref (ad E 54)), (3, .int p3), (5, .int x5)] [] M Q := by
  unfold f_X6_drift_156 at h
  refine Ev.iload_n dX6_drift_156 rfl 1 rfl ?_
  refine Ev.if_ne (tgt := 165) dX6_drift_157 (by decide) (fun c1 => ?_) (fun c1 => ?_)
  · replace h := wp_t c1 h
    refine Ev.iload dX6_drift_160 2 rfl ?_
    refine Ev.goto (tgt := 172) dX6_drift_162 (by decide) ?_
    exact Ev.ret dX6_drift_172 rfl rfl (wp_ret h)
  · replace h := wp_f c1 h
    refine Ev.aload_n dX6_drift_165 rfl 0 rfl ?_
    refine Ev.iconst (v := 1) dX6_drift_166 rfl ?_
    refine Ev.bipush (v := (-4)) dX6_drift_167 rfl ?_
    obtain ⟨r2, er2, h⟩ := wp_bind h
    refine Ev.callV (k := 54) (as := [.int 1, .int (-4)]) (rest := []) dX6_drift_169 cl_X6_223 mok_X6_tubsOf rfl (Nat.le_of_ble_eq_true rfl) (Nat.le_of_ble_eq_true rfl) ⟨Nat.le_of_ble_eq_true rfl, Nat.le_of_ble_eq_true rfl⟩ (Nat.le_of_ble_eq_true rfl) rfl rfl (o_X6_tubsOf ⟨r2, er2, ?_⟩)
    show Ev E mi_X6_drift 172 [(0, .ref (ad E 54)), (3, .int p3), (5, .int x5)] [.int r2] M Q
    exact Ev.ret dX6_drift_172 rfl rfl (wp_ret h)
noncomputable def f_X6_drift_54 (p1 : Int32) (p2 : Int32) (p3 : Int32) : Nat → Int32 → Int32 → Int32 → Mem → Option (Int32 × Mem)
  | 0, _, _, _, _ => none
  | n + 1, x4, x5, x6, M => if p2 ≤ x6 then f_X6_drift_156 p1 p2 p3 x5 M else li ((x4 * 1103515245) + 12345) fun y2 => li ((y2 >>> (16 &&& 31)) &&& 32767) fun y3 => rd (M 55) 360 20 fun r5 => nz r5 <| li (y3 - y3 / r5 * r5) fun y7 => inb (292 + y7) 360 <| lm (up M 55 (292 + y7).toNatClampNeg ((y3 / 8) - (y3 / 8) / 10 * 10)) fun M9 => inb (296 + y7) 360 <| lm (up M9 55 (296 + y7).toNatClampNeg (1 + ((y3 / 128) - (y3 / 128) / 9 * 9))) fun M11 => (f_X6_worth 288 (-4) M11).bind fun r12 => li (x5 + r12.1) fun y13 => (f_X6_drift_54 p1 p2 p3 n) y2 y13 (x6 + 1) r12.2
theorem o_X6_drift_54 {E : GE} {Q : Option Value → Mem → Prop} {p1 : Int32} {p2 : Int32} {p3 : Int32} : ∀ (n : Nat) {x4 : Int32} {x5 : Int32} {x6 : Int32} {M : Mem}, wp (f_X6_drift_54 p1 p2 p3 n x4 x5 x6 M) gIM Q → Ev E mi_X6_drift 54 [(0, .ref (ad E 54)), (2, .int p2), (3, .int p3), (4, .int x4), (5, .int x5), (6, .int x6)] [] M Q := by
  intro n
  induction n with
  | zero => intro _ _ _ _ h; exact absurd h wp_none
  | succ n ih =>
    intro x4 x5 x6 M h
    unfold f_X6_drift_54 at h
    refine Ev.iload dX6_drift_54 5 rfl ?_
    refine Ev.iload_n dX6_drift_56 rfl 1 rfl ?_
    refine Ev.icmp_ge (tgt := 156) dX6_drift_57 (by decide) (fun c1 => ?_) (fun c1 => ?_)
    · replace h := wp_t c1 h
      refine Ev.sub [0, 2, 4] rfl ?_
      exact o_X6_drift_156 h
    · replace h := wp_f c1 h
      refine Ev.iload dX6_drift_60 3 rfl ?_
      refine Ev.ldcw dX6_drift_62 fc_X6_263 ?_
      refine Ev.imul dX6_drift_65 ?_
      refine Ev.sipush (v := 12345) dX6_drift_66 rfl ?_
      refine Ev.iadd dX6_drift_69 ?_
      refine Ev.topi (fun y2 ey2 => ?_)
      replace h := wp_li h y2 ey2
      refine Ev.istore dX6_drift_70 (Nat.le_of_ble_eq_true rfl) rfl ?_
      show Ev E mi_X6_drift 72 [(4, .int y2), (0, .ref (ad E 54)), (2, .int p2), (3, .int p3), (5, .int x5), (6, .int x6)] [] M Q
      refine Ev.iload dX6_drift_72 0 rfl ?_
      refine Ev.bipush (v := 16) dX6_drift_74 rfl ?_
      refine Ev.ishr dX6_drift_76 ?_
      refine Ev.sipush (v := 32767) dX6_drift_77 rfl ?_
      refine Ev.iand dX6_drift_80 ?_
      refine Ev.topi (fun y3 ey3 => ?_)
      replace h := wp_li h y3 ey3
      refine Ev.istore dX6_drift_81 (Nat.le_of_ble_eq_true rfl) rfl ?_
      show Ev E mi_X6_drift 83 [(7, .int y3), (4, .int y2), (0, .ref (ad E 54)), (2, .int p2), (3, .int p3), (5, .int x5), (6, .int x6)] [] M Q
      refine Ev.iload dX6_drift_83 0 rfl ?_
      refine Ev.aload_n dX6_drift_85 rfl 2 rfl ?_
      refine Ev.get dX6_drift_86 fl_X6_7 rfl (Nat.le_of_ble_eq_true rfl) (v := .ref (ad E 55)) rfl ?_
      refine Ev.bipush (v := 20) dX6_drift_89 rfl ?_
      obtain ⟨g4, h⟩ := wp_rd h
      refine Ev.iald dX6_drift_91 rfl (Nat.le_of_ble_eq_true rfl) rfl g4 ?_
      refine Ev.topi (fun r5 er5 => ?_)
      replace h := h r5 er5
      obtain ⟨g6, h⟩ := wp_nz h
      refine Ev.irem dX6_drift_92 g6 ?_
      refine Ev.topi (fun y7 ey7 => ?_)
      replace h := wp_li h y7 ey7
      refine Ev.istore dX6_drift_93 (Nat.le_of_ble_eq_true rfl) rfl ?_
      show Ev E mi_X6_drift 95 [(8, .int y7), (7, .int y3), (4, .int y2), (0, .ref (ad E 54)), (2, .int p2), (3, .int p3), (5, .int x5), (6, .int x6)] [] M Q
      refine Ev.aload_n dX6_drift_95 rfl 3 rfl ?_
      refine Ev.get dX6_drift_96 fl_X6_7 rfl (Nat.le_of_ble_eq_true rfl) (v := .ref (ad E 55)) rfl ?_
      refine Ev.sipush (v := 292) dX6_drift_99 rfl ?_
      refine Ev.iload dX6_drift_102 0 rfl ?_
      refine Ev.iadd dX6_drift_104 ?_
      refine Ev.iload dX6_drift_105 1 rfl ?_
      refine Ev.bipush (v := 8) dX6_drift_107 rfl ?_
      refine Ev.idiv dX6_drift_109 (by decide) ?_
      refine Ev.bipush (v := 10) dX6_drift_110 rfl ?_
      refine Ev.irem dX6_drift_112 (by decide) ?_
      obtain ⟨g8, h⟩ := wp_inb h
      refine Ev.iast dX6_drift_113 rfl (Nat.le_of_ble_eq_true rfl) rfl g8 ?_
      refine Ev.topM (fun M9 eM9 => ?_)
      replace h := wp_lm h M9 eM9
      refine Ev.aload_n dX6_drift_114 rfl 3 rfl ?_
      refine Ev.get dX6_drift_115 fl_X6_7 rfl (Nat.le_of_ble_eq_true rfl) (v := .ref (ad E 55)) rfl ?_
      refine Ev.sipush (v := 296) dX6_drift_118 rfl ?_
      refine Ev.iload dX6_drift_121 0 rfl ?_
      refine Ev.iadd dX6_drift_123 ?_
      refine Ev.iconst (v := 1) dX6_drift_124 rfl ?_
      refine Ev.iload dX6_drift_125 1 rfl ?_
      refine Ev.sipush (v := 128) dX6_drift_127 rfl ?_
      refine Ev.idiv dX6_drift_130 (by decide) ?_
      refine Ev.bipush (v := 9) dX6_drift_131 rfl ?_
      refine Ev.irem dX6_drift_133 (by decide) ?_
      refine Ev.iadd dX6_drift_134 ?_
      obtain ⟨g10, h⟩ := wp_inb h
      refine Ev.iast dX6_drift_135 rfl (Nat.le_of_ble_eq_true rfl) rfl g10 ?_
      refine Ev.topM (fun M11 eM11 => ?_)
      replace h := wp_lm h M11 eM11
      refine Ev.iload dX6_drift_136 6 rfl ?_
      refine Ev.aload_n dX6_drift_138 rfl 3 rfl ?_
      refine Ev.sipush (v := 288) dX6_drift_139 rfl ?_
      refine Ev.bipush (v := (-4)) dX6_drift_142 rfl ?_
      obtain ⟨r12, er12, h⟩ := wp_bind h
      refine Ev.callV (k := 54) (as := [.int 288, .int (-4)]) (rest := [.int x5]) dX6_drift_144 cl_X6_220 mok_X6_worth rfl (Nat.le_of_ble_eq_true rfl) (Nat.le_of_ble_eq_true rfl) ⟨Nat.le_of_ble_eq_true rfl, Nat.le_of_ble_eq_true rfl⟩ (Nat.le_of_ble_eq_true rfl) rfl rfl (o_X6_worth ⟨r12, er12, ?_⟩)
      show Ev E mi_X6_drift 147 [(8, .int y7), (7, .int y3), (4, .int y2), (0, .ref (ad E 54)), (2, .int p2), (3, .int p3), (5, .int x5), (6, .int x6)] [.int r12.1, .int x5] r12.2 Q
      refine Ev.iadd dX6_drift_147 ?_
      refine Ev.topi (fun y13 ey13 => ?_)
      replace h := wp_li h y13 ey13
      refine Ev.istore dX6_drift_148 (Nat.le_of_ble_eq_true rfl) rfl ?_
      show Ev E mi_X6_drift 150 [(5, .int y13), (8, .int y7), (7, .int y3), (4, .int y2), (0, .ref (ad E 54)), (2, .int p2), (3, .int p3), (6, .int x6)] [] r12.2 Q
      refine Ev.iinc (v := x6 + 1) dX6_drift_150 7 rfl rfl (Nat.le_of_ble_eq_true rfl) rfl ?_
      show Ev E mi_X6_drift 153 [(6, .int (x6 + 1)), (5, .int y13), (8, .int y7), (7, .int y3), (4, .int y2), (0, .ref (ad E 54)), (2, .int p2), (3, .int p3)] [] r12.2 Q
      refine Ev.goto (tgt := 54) dX6_drift_153 (by decide) ?_
      refine Ev.sub [5, 6, 7, 4, 1, 0] rfl ?_
      exact ih h
noncomputable def f_X6_drift (p1 : Int32) (p2 : Int32) (p3 : Int32) (M : Mem) : Option (Int32 × Mem) := (f_X6_in p2.toInt64 1 60 M).bind fun r1 => if r1 = 0 then some ((-1), M) else (f_X6_in p3.toInt64 0 1 M).bind fun r3 => if r3 = 0 then some ((-1), M) else rd (M 55) 360 20 fun r6 => if r6 = 0 then some ((-2), M) else (f_X6_copies 0 288 M).bind fun r8 => f_X6_drift_54 p1 p2 p3 FU p1 0 0 r8
theorem o_X6_drift {E : GE} {Q : Option Value → Mem → Prop} {p1 : Int32} {p2 : Int32} {p3 : Int32} {M : Mem} (h : wp (f_X6_drift p1 p2 p3 M) gIM Q) : Runs E mi_X6_drift [.ref (ad E 54), .int p1, .int p2, .int p3] M Q := by
  refine Runs.ofEv (by decide +kernel) (Nat.le_of_ble_eq_true rfl) ?_
  show Ev E mi_X6_drift 0 [(0, .ref (ad E 54)), (1, .int p1), (2, .int p2), (3, .int p3)] [] M Q
  unfold f_X6_drift at h
  refine Ev.iload_n dX6_drift_0 rfl 2 rfl ?_
  refine Ev.i2l dX6_drift_1 ?_
  refine Ev.lconst (v := 1) dX6_drift_2 rfl ?_
  refine Ev.ldc2 dX6_drift_3 fc_X6_261 ?_
  obtain ⟨r1, er1, h⟩ := wp_bind h
  refine Ev.callS (as := [.long p2.toInt64, .long 1, .long 60]) (rest := []) dX6_drift_6 cl_X6_73 mos_X6_in ⟨Nat.le_of_ble_eq_true rfl, Nat.le_of_ble_eq_true rfl⟩ (Nat.le_of_ble_eq_true rfl) rfl rfl (o_X6_in ⟨r1, er1, ?_⟩)
  show Ev E mi_X6_drift 9 [(0, .ref (ad E 54)), (1, .int p1), (2, .int p2), (3, .int p3)] [.int r1] M Q
  refine Ev.if_eq (tgt := 22) dX6_drift_9 (by decide) (fun c2 => ?_) (fun c2 => ?_)
  · replace h := wp_t c2 h
    refine Ev.iconst (v := (-1)) dX6_drift_22 rfl ?_
    exact Ev.ret dX6_drift_23 rfl rfl (wp_ret h)
  · replace h := wp_f c2 h
    refine Ev.iload_n dX6_drift_12 rfl 3 rfl ?_
    refine Ev.i2l dX6_drift_13 ?_
    refine Ev.lconst (v := 0) dX6_drift_14 rfl ?_
    refine Ev.lconst (v := 1) dX6_drift_15 rfl ?_
    obtain ⟨r3, er3, h⟩ := wp_bind h
    refine Ev.callS (as := [.long p3.toInt64, .long 0, .long 1]) (rest := []) dX6_drift_16 cl_X6_73 mos_X6_in ⟨Nat.le_of_ble_eq_true rfl, Nat.le_of_ble_eq_true rfl⟩ (Nat.le_of_ble_eq_true rfl) rfl rfl (o_X6_in ⟨r3, er3, ?_⟩)
    show Ev E mi_X6_drift 19 [(0, .ref (ad E 54)), (1, .int p1), (2, .int p2), (3, .int p3)] [.int r3] M Q
    refine Ev.if_ne (tgt := 24) dX6_drift_19 (by decide) (fun c4 => ?_) (fun c4 => ?_)
    · replace h := wp_t c4 h
      refine Ev.iconst (v := (-1)) dX6_drift_22 rfl ?_
      exact Ev.ret dX6_drift_23 rfl rfl (wp_ret h)
    · replace h := wp_f c4 h
      refine Ev.aload_n dX6_drift_24 rfl 0 rfl ?_
      refine Ev.get dX6_drift_25 fl_X6_7 rfl (Nat.le_of_ble_eq_true rfl) (v := .ref (ad E 55)) rfl ?_
      refine Ev.bipush (v := 20) dX6_drift_28 rfl ?_
      obtain ⟨g5, h⟩ := wp_rd h
      refine Ev.iald dX6_drift_30 rfl (Nat.le_of_ble_eq_true rfl) rfl g5 ?_
      refine Ev.topi (fun r6 er6 => ?_)
      replace h := h r6 er6
      refine Ev.if_ne (tgt := 37) dX6_drift_31 (by decide) (fun c7 => ?_) (fun c7 => ?_)
      · replace h := wp_t c7 h
        refine Ev.bipush (v := (-2)) dX6_drift_34 rfl ?_
        exact Ev.ret dX6_drift_36 rfl rfl (wp_ret h)
      · replace h := wp_f c7 h
        refine Ev.aload_n dX6_drift_37 rfl 0 rfl ?_
        refine Ev.iconst (v := 0) dX6_drift_38 rfl ?_
        refine Ev.sipush (v := 288) dX6_drift_39 rfl ?_
        obtain ⟨r8, er8, h⟩ := wp_bind h
        refine Ev.callV (k := 54) (as := [.int 0, .int 288]) (rest := []) dX6_drift_42 cl_X6_226 mok_X6_copies rfl (Nat.le_of_ble_eq_true rfl) (Nat.le_of_ble_eq_true rfl) ⟨Nat.le_of_ble_eq_true rfl, Nat.le_of_ble_eq_true rfl⟩ (Nat.le_of_ble_eq_true rfl) rfl rfl (o_X6_copies ⟨r8, er8, ?_⟩)
        show Ev E mi_X6_drift 45 [(0, .ref (ad E 54)), (1, .int p1), (2, .int p2), (3, .int p3)] [] r8 Q
        refine Ev.iload_n dX6_drift_45 rfl 1 rfl ?_
        refine Ev.istore dX6_drift_46 (Nat.le_of_ble_eq_true rfl) rfl ?_
        show Ev E mi_X6_drift 48 [(4, .int p1), (0, .ref (ad E 54)), (1, .int p1), (2, .int p2), (3, .int p3)] [] r8 Q
        refine Ev.iconst (v := 0) dX6_drift_48 rfl ?_
        refine Ev.istore dX6_drift_49 (Nat.le_of_ble_eq_true rfl) rfl ?_
        show Ev E mi_X6_drift 51 [(5, .int 0), (4, .int p1), (0, .ref (ad E 54)), (1, .int p1), (2, .int p2), (3, .int p3)] [] r8 Q
        refine Ev.iconst (v := 0) dX6_drift_51 rfl ?_
        refine Ev.istore dX6_drift_52 (Nat.le_of_ble_eq_true rfl) rfl ?_
        show Ev E mi_X6_drift 54 [(6, .int 0), (5, .int 0), (4, .int p1), (0, .ref (ad E 54)), (1, .int p1), (2, .int p2), (3, .int p3)] [] r8 Q
        refine Ev.sub [3, 5, 6, 2, 1, 0] rfl ?_
        exact o_X6_drift_54 FU h

noncomputable def f_X6_keep_37 (p1 : Int32) (s0 : Int32) (M : Mem) : Option (Int32 × Mem) := inb p1 2 <| lm (up M 71 p1.toNatClampNeg (vp_nar .boolean 1)) fun M2 => some (s0, M2)
theorem o_X6_keep_37 {E : GE} {Q : Option Value → Mem → Prop} {p1 : Int32} {s0 : Int32} {M : Mem} (h : wp (f_X6_keep_37 p1 s0 M) gIM Q) : Ev E mi_X6_keep 37 [(0, .ref (ad E 54)), (1, .int p1)] [.int s0] M Q := by
  unfold f_X6_keep_37 at h
  refine Ev.istore_n dX6_keep_37 rfl (Nat.le_of_ble_eq_true rfl) rfl ?_
  show Ev E mi_X6_keep 38 [(2, .int s0), (0, .ref (ad E 54)), (1, .int p1)] [] M Q
  refine Ev.aload_n dX6_keep_38 rfl 1 rfl ?_
  refine Ev.get dX6_keep_39 fl_X6_58 rfl (Nat.le_of_ble_eq_true rfl) (v := .ref (ad E 71)) rfl ?_
  refine Ev.iload_n dX6_keep_42 rfl 2 rfl ?_
  refine Ev.iconst (v := 1) dX6_keep_43 rfl ?_
  obtain ⟨g1, h⟩ := wp_inb h
  refine Ev.zast dX6_keep_44 rfl (Nat.le_of_ble_eq_true rfl) rfl g1 ?_
  refine Ev.topM (fun M2 eM2 => ?_)
  replace h := wp_lm h M2 eM2
  refine Ev.iload_n dX6_keep_45 rfl 0 rfl ?_
  exact Ev.ret dX6_keep_46 rfl rfl (wp_ret h)
noncomputable def f_X6_keep (p1 : Int32) (M : Mem) : Option (Int32 × Mem) := (f_X6_in p1.toInt64 0 1 M).bind fun r1 => if r1 = 0 then some ((-1), M) else (f_X6_copies 0 (72 * (p1 + 1)) M).bind fun r3 => rd (r3 71) 2 p1 fun r5 => if r5 = 0 then f_X6_keep_37 p1 0 r3 else f_X6_keep_37 p1 1 r3
theorem o_X6_keep {E : GE} {Q : Option Value → Mem → Prop} {p1 : Int32} {M : Mem} (h : wp (f_X6_keep p1 M) gIM Q) : Runs E mi_X6_keep [.ref (ad E 54), .int p1] M Q := by
  refine Runs.ofEv (by decide +kernel) (Nat.le_of_ble_eq_true rfl) ?_
  show Ev E mi_X6_keep 0 [(0, .ref (ad E 54)), (1, .int p1)] [] M Q
  unfold f_X6_keep at h
  refine Ev.iload_n dX6_keep_0 rfl 1 rfl ?_
  refine Ev.i2l dX6_keep_1 ?_
  refine Ev.lconst (v := 0) dX6_keep_2 rfl ?_
  refine Ev.lconst (v := 1) dX6_keep_3 rfl ?_
  obtain ⟨r1, er1, h⟩ := wp_bind h
  refine Ev.callS (as := [.long p1.toInt64, .long 0, .long 1]) (rest := []) dX6_keep_4 cl_X6_73 mos_X6_in ⟨Nat.le_of_ble_eq_true rfl, Nat.le_of_ble_eq_true rfl⟩ (Nat.le_of_ble_eq_true rfl) rfl rfl (o_X6_in ⟨r1, er1, ?_⟩)
  show Ev E mi_X6_keep 7 [(0, .ref (ad E 54)), (1, .int p1)] [.int r1] M Q
  refine Ev.if_ne (tgt := 12) dX6_keep_7 (by decide) (fun c2 => ?_) (fun c2 => ?_)
  · replace h := wp_t c2 h
    refine Ev.iconst (v := (-1)) dX6_keep_10 rfl ?_
    exact Ev.ret dX6_keep_11 rfl rfl (wp_ret h)
  · replace h := wp_f c2 h
    refine Ev.aload_n dX6_keep_12 rfl 0 rfl ?_
    refine Ev.iconst (v := 0) dX6_keep_13 rfl ?_
    refine Ev.bipush (v := 72) dX6_keep_14 rfl ?_
    refine Ev.iload_n dX6_keep_16 rfl 1 rfl ?_
    refine Ev.iconst (v := 1) dX6_keep_17 rfl ?_
    refine Ev.iadd dX6_keep_18 ?_
    refine Ev.imul dX6_keep_19 ?_
    obtain ⟨r3, er3, h⟩ := wp_bind h
    refine Ev.callV (k := 54) (as := [.int 0, .int (72 * (p1 + 1))]) (rest := []) dX6_keep_20 cl_X6_226 mok_X6_copies rfl (Nat.le_of_ble_eq_true rfl) (Nat.le_of_ble_eq_true rfl) ⟨Nat.le_of_ble_eq_true rfl, Nat.le_of_ble_eq_true rfl⟩ (Nat.le_of_ble_eq_true rfl) rfl rfl (o_X6_copies ⟨r3, er3, ?_⟩)
    show Ev E mi_X6_keep 23 [(0, .ref (ad E 54)), (1, .int p1)] [] r3 Q
    refine Ev.aload_n dX6_keep_23 rfl 0 rfl ?_
    refine Ev.get dX6_keep_24 fl_X6_58 rfl (Nat.le_of_ble_eq_true rfl) (v := .ref (ad E 71)) rfl ?_
    refine Ev.iload_n dX6_keep_27 rfl 1 rfl ?_
    obtain ⟨g4, h⟩ := wp_rd h
    refine Ev.zald dX6_keep_28 rfl (Nat.le_of_ble_eq_true rfl) rfl g4 ?_
    refine Ev.topi (fun r5 er5 => ?_)
    replace h := h r5 er5
    refine Ev.if_eq (tgt := 36) dX6_keep_29 (by decide) (fun c6 => ?_) (fun c6 => ?_)
    · replace h := wp_t c6 h
      refine Ev.iconst (v := 0) dX6_keep_36 rfl ?_
      exact o_X6_keep_37 h
    · replace h := wp_f c6 h
      refine Ev.iconst (v := 1) dX6_keep_32 rfl ?_
      refine Ev.goto (tgt := 37) dX6_keep_33 (by decide) ?_
      exact o_X6_keep_37 h

noncomputable def f_X6_back (p1 : Int32) (M : Mem) : Option (Int32 × Mem) := (f_X6_in p1.toInt64 0 1 M).bind fun r1 => if r1 = 0 then some ((-1), M) else rd (M 71) 2 p1 fun r4 => if r4 = 0 then some ((-2), M) else (f_X6_copies (72 * (p1 + 1)) 0 M).bind fun r6 => (f_X6_estates r6).bind fun r7 => some (r7, r6)
theorem o_X6_back {E : GE} {Q : Option Value → Mem → Prop} {p1 : Int32} {M : Mem} (h : wp (f_X6_back p1 M) gIM Q) : Runs E mi_X6_back [.ref (ad E 54), .int p1] M Q := by
  refine Runs.ofEv (by decide +kernel) (Nat.le_of_ble_eq_true rfl) ?_
  show Ev E mi_X6_back 0 [(0, .ref (ad E 54)), (1, .int p1)] [] M Q
  unfold f_X6_back at h
  refine Ev.iload_n dX6_back_0 rfl 1 rfl ?_
  refine Ev.i2l dX6_back_1 ?_
  refine Ev.lconst (v := 0) dX6_back_2 rfl ?_
  refine Ev.lconst (v := 1) dX6_back_3 rfl ?_
  obtain ⟨r1, er1, h⟩ := wp_bind h
  refine Ev.callS (as := [.long p1.toInt64, .long 0, .long 1]) (rest := []) dX6_back_4 cl_X6_73 mos_X6_in ⟨Nat.le_of_ble_eq_true rfl, Nat.le_of_ble_eq_true rfl⟩ (Nat.le_of_ble_eq_true rfl) rfl rfl (o_X6_in ⟨r1, er1, ?_⟩)
  show Ev E mi_X6_back 7 [(0, .ref (ad E 54)), (1, .int p1)] [.int r1] M Q
  refine Ev.if_ne (tgt := 12) dX6_back_7 (by decide) (fun c2 => ?_) (fun c2 => ?_)
  · replace h := wp_t c2 h
    refine Ev.iconst (v := (-1)) dX6_back_10 rfl ?_
    exact Ev.ret dX6_back_11 rfl rfl (wp_ret h)
  · replace h := wp_f c2 h
    refine Ev.aload_n dX6_back_12 rfl 0 rfl ?_
    refine Ev.get dX6_back_13 fl_X6_58 rfl (Nat.le_of_ble_eq_true rfl) (v := .ref (ad E 71)) rfl ?_
    refine Ev.iload_n dX6_back_16 rfl 1 rfl ?_
    obtain ⟨g3, h⟩ := wp_rd h
    refine Ev.zald dX6_back_17 rfl (Nat.le_of_ble_eq_true rfl) rfl g3 ?_
    refine Ev.topi (fun r4 er4 => ?_)
    replace h := h r4 er4
    refine Ev.if_ne (tgt := 24) dX6_back_18 (by decide) (fun c5 => ?_) (fun c5 => ?_)
    · replace h := wp_t c5 h
      refine Ev.bipush (v := (-2)) dX6_back_21 rfl ?_
      exact Ev.ret dX6_back_23 rfl rfl (wp_ret h)
    · replace h := wp_f c5 h
      refine Ev.aload_n dX6_back_24 rfl 0 rfl ?_
      refine Ev.bipush (v := 72) dX6_back_25 rfl ?_
      refine Ev.iload_n dX6_back_27 rfl 1 rfl ?_
      refine Ev.iconst (v := 1) dX6_back_28 rfl ?_
      refine Ev.iadd dX6_back_29 ?_
      refine Ev.imul dX6_back_30 ?_
      refine Ev.iconst (v := 0) dX6_back_31 rfl ?_
      obtain ⟨r6, er6, h⟩ := wp_bind h
      refine Ev.callV (k := 54) (as := [.int (72 * (p1 + 1)), .int 0]) (rest := []) dX6_back_32 cl_X6_226 mok_X6_copies rfl (Nat.le_of_ble_eq_true rfl) (Nat.le_of_ble_eq_true rfl) ⟨Nat.le_of_ble_eq_true rfl, Nat.le_of_ble_eq_true rfl⟩ (Nat.le_of_ble_eq_true rfl) rfl rfl (o_X6_copies ⟨r6, er6, ?_⟩)
      show Ev E mi_X6_back 35 [(0, .ref (ad E 54)), (1, .int p1)] [] r6 Q
      refine Ev.aload_n dX6_back_35 rfl 0 rfl ?_
      obtain ⟨r7, er7, h⟩ := wp_bind h
      refine Ev.callV (k := 54) (as := []) (rest := []) dX6_back_36 cl_X6_164 mok_X6_estates rfl (Nat.le_of_ble_eq_true rfl) (Nat.le_of_ble_eq_true rfl) ⟨Nat.le_of_ble_eq_true rfl, Nat.le_of_ble_eq_true rfl⟩ (Nat.le_of_ble_eq_true rfl) rfl rfl (o_X6_estates ⟨r7, er7, ?_⟩)
      show Ev E mi_X6_back 39 [(0, .ref (ad E 54)), (1, .int p1)] [.int r7] r6 Q
      exact Ev.ret dX6_back_39 rfl rfl (wp_ret h)

noncomputable def f_X6_sheet_56 (p1 : Int32) (p2 : Int32) (p3 : Int32) : Nat → Int32 → Mem → Option (Int32 × Mem)
  | 0, _, _ => none
  | n + 1, x4, M => if 40 ≤ x4 then some (1, M) else inb ((40 * p1) + x4) 160 <| lm (up M 74 ((40 * p1) + x4).toNatClampNeg 0) fun M3 => (f_X6_sheet_56 p1 p2 p3 n) (x4 + 1) M3
theorem o_X6_sheet_56 {E : GE} {Q : Option Value → Mem → Prop} {p1 : Int32} {p2 : Int32} {p3 : Int32} : ∀ (n : Nat) {x4 : Int32} {M : Mem}, wp (f_X6_sheet_56 p1 p2 p3 n x4 M) gIM Q → Ev E mi_X6_sheet 56 [(0, .ref (ad E 54)), (1, .int p1), (4, .int x4)] [] M Q := by
  intro n
  induction n with
  | zero => intro _ _ h; exact absurd h wp_none
  | succ n ih =>
    intro x4 M h
    unfold f_X6_sheet_56 at h
    refine Ev.iload dX6_sheet_56 2 rfl ?_
    refine Ev.bipush (v := 40) dX6_sheet_58 rfl ?_
    refine Ev.icmp_ge (tgt := 82) dX6_sheet_60 (by decide) (fun c1 => ?_) (fun c1 => ?_)
    · replace h := wp_t c1 h
      refine Ev.iconst (v := 1) dX6_sheet_82 rfl ?_
      exact Ev.ret dX6_sheet_83 rfl rfl (wp_ret h)
    · replace h := wp_f c1 h
      refine Ev.aload_n dX6_sheet_63 rfl 0 rfl ?_
      refine Ev.get dX6_sheet_64 fl_X6_68 rfl (Nat.le_of_ble_eq_true rfl) (v := .ref (ad E 74)) rfl ?_
      refine Ev.bipush (v := 40) dX6_sheet_67 rfl ?_
      refine Ev.iload_n dX6_sheet_69 rfl 1 rfl ?_
      refine Ev.imul dX6_sheet_70 ?_
      refine Ev.iload dX6_sheet_71 2 rfl ?_
      refine Ev.iadd dX6_sheet_73 ?_
      refine Ev.iconst (v := 0) dX6_sheet_74 rfl ?_
      obtain ⟨g2, h⟩ := wp_inb h
      refine Ev.iast dX6_sheet_75 rfl (Nat.le_of_ble_eq_true rfl) rfl g2 ?_
      refine Ev.topM (fun M3 eM3 => ?_)
      replace h := wp_lm h M3 eM3
      refine Ev.iinc (v := x4 + 1) dX6_sheet_76 2 rfl rfl (Nat.le_of_ble_eq_true rfl) rfl ?_
      show Ev E mi_X6_sheet 79 [(4, .int (x4 + 1)), (0, .ref (ad E 54)), (1, .int p1)] [] M3 Q
      refine Ev.goto (tgt := 56) dX6_sheet_79 (by decide) ?_
      refine Ev.sub [1, 2, 0] rfl ?_
      exact ih h
noncomputable def f_X6_sheet (p1 : Int32) (p2 : Int32) (p3 : Int32) (M : Mem) : Option (Int32 × Mem) := (f_X6_in p1.toInt64 0 3 M).bind fun r1 => if r1 = 0 then some ((-1), M) else (f_X6_in p2.toInt64 0 2 M).bind fun r3 => if r3 = 0 then some ((-1), M) else if p3 ≤ 40 then if 0 ≤ p3 then inb p1 4 <| lm (up M 72 p1.toNatClampNeg p2) fun M8 => inb p1 4 <| lm (up M8 73 p1.toNatClampNeg p3) fun M10 => f_X6_sheet_56 p1 p2 p3 FU 0 M10 else some ((-14), M) else some ((-1), M)
theorem o_X6_sheet {E : GE} {Q : Option Value → Mem → Prop} {p1 : Int32} {p2 : Int32} {p3 : Int32} {M : Mem} (h : wp (f_X6_sheet p1 p2 p3 M) gIM Q) : Runs E mi_X6_sheet [.ref (ad E 54), .int p1, .int p2, .int p3] M Q := by
  refine Runs.ofEv (by decide +kernel) (Nat.le_of_ble_eq_true rfl) ?_
  show Ev E mi_X6_sheet 0 [(0, .ref (ad E 54)), (1, .int p1), (2, .int p2), (3, .int p3)] [] M Q
  unfold f_X6_sheet at h
  refine Ev.iload_n dX6_sheet_0 rfl 1 rfl ?_
  refine Ev.i2l dX6_sheet_1 ?_
  refine Ev.lconst (v := 0) dX6_sheet_2 rfl ?_
  refine Ev.ldc2 dX6_sheet_3 fc_X6_182 ?_
  obtain ⟨r1, er1, h⟩ := wp_bind h
  refine Ev.callS (as := [.long p1.toInt64, .long 0, .long 3]) (rest := []) dX6_sheet_6 cl_X6_73 mos_X6_in ⟨Nat.le_of_ble_eq_true rfl, Nat.le_of_ble_eq_true rfl⟩ (Nat.le_of_ble_eq_true rfl) rfl rfl (o_X6_in ⟨r1, er1, ?_⟩)
  show Ev E mi_X6_sheet 9 [(0, .ref (ad E 54)), (1, .int p1), (2, .int p2), (3, .int p3)] [.int r1] M Q
  refine Ev.if_eq (tgt := 30) dX6_sheet_9 (by decide) (fun c2 => ?_) (fun c2 => ?_)
  · replace h := wp_t c2 h
    refine Ev.iconst (v := (-1)) dX6_sheet_30 rfl ?_
    exact Ev.ret dX6_sheet_31 rfl rfl (wp_ret h)
  · replace h := wp_f c2 h
    refine Ev.iload_n dX6_sheet_12 rfl 2 rfl ?_
    refine Ev.i2l dX6_sheet_13 ?_
    refine Ev.lconst (v := 0) dX6_sheet_14 rfl ?_
    refine Ev.ldc2 dX6_sheet_15 fc_X6_218 ?_
    obtain ⟨r3, er3, h⟩ := wp_bind h
    refine Ev.callS (as := [.long p2.toInt64, .long 0, .long 2]) (rest := []) dX6_sheet_18 cl_X6_73 mos_X6_in ⟨Nat.le_of_ble_eq_true rfl, Nat.le_of_ble_eq_true rfl⟩ (Nat.le_of_ble_eq_true rfl) rfl rfl (o_X6_in ⟨r3, er3, ?_⟩)
    show Ev E mi_X6_sheet 21 [(0, .ref (ad E 54)), (1, .int p1), (2, .int p2), (3, .int p3)] [.int r3] M Q
    refine Ev.if_eq (tgt := 30) dX6_sheet_21 (by decide) (fun c4 => ?_) (fun c4 => ?_)
    · replace h := wp_t c4 h
      refine Ev.iconst (v := (-1)) dX6_sheet_30 rfl ?_
      exact Ev.ret dX6_sheet_31 rfl rfl (wp_ret h)
    · replace h := wp_f c4 h
      refine Ev.iload_n dX6_sheet_24 rfl 3 rfl ?_
      refine Ev.bipush (v := 40) dX6_sheet_25 rfl ?_
      refine Ev.icmp_le (tgt := 32) dX6_sheet_27 (by decide) (fun c5 => ?_) (fun c5 => ?_)
      · replace h := wp_t c5 h
        refine Ev.iload_n dX6_sheet_32 rfl 3 rfl ?_
        refine Ev.if_ge (tgt := 39) dX6_sheet_33 (by decide) (fun c6 => ?_) (fun c6 => ?_)
        · replace h := wp_t c6 h
          refine Ev.aload_n dX6_sheet_39 rfl 0 rfl ?_
          refine Ev.get dX6_sheet_40 fl_X6_62 rfl (Nat.le_of_ble_eq_true rfl) (v := .ref (ad E 72)) rfl ?_
          refine Ev.iload_n dX6_sheet_43 rfl 1 rfl ?_
          refine Ev.iload_n dX6_sheet_44 rfl 2 rfl ?_
          obtain ⟨g7, h⟩ := wp_inb h
          refine Ev.iast dX6_sheet_45 rfl (Nat.le_of_ble_eq_true rfl) rfl g7 ?_
          refine Ev.topM (fun M8 eM8 => ?_)
          replace h := wp_lm h M8 eM8
          refine Ev.aload_n dX6_sheet_46 rfl 0 rfl ?_
          refine Ev.get dX6_sheet_47 fl_X6_65 rfl (Nat.le_of_ble_eq_true rfl) (v := .ref (ad E 73)) rfl ?_
          refine Ev.iload_n dX6_sheet_50 rfl 1 rfl ?_
          refine Ev.iload_n dX6_sheet_51 rfl 3 rfl ?_
          obtain ⟨g9, h⟩ := wp_inb h
          refine Ev.iast dX6_sheet_52 rfl (Nat.le_of_ble_eq_true rfl) rfl g9 ?_
          refine Ev.topM (fun M10 eM10 => ?_)
          replace h := wp_lm h M10 eM10
          refine Ev.iconst (v := 0) dX6_sheet_53 rfl ?_
          refine Ev.istore dX6_sheet_54 (Nat.le_of_ble_eq_true rfl) rfl ?_
          show Ev E mi_X6_sheet 56 [(4, .int 0), (0, .ref (ad E 54)), (1, .int p1), (2, .int p2), (3, .int p3)] [] M10 Q
          refine Ev.sub [1, 2, 0] rfl ?_
          exact o_X6_sheet_56 FU h
        · replace h := wp_f c6 h
          refine Ev.bipush (v := (-14)) dX6_sheet_36 rfl ?_
          exact Ev.ret dX6_sheet_38 rfl rfl (wp_ret h)
      · replace h := wp_f c5 h
        refine Ev.iconst (v := (-1)) dX6_sheet_30 rfl ?_
        exact Ev.ret dX6_sheet_31 rfl rfl (wp_ret h)

noncomputable def f_X6_lay (p1 : Int32) (p2 : Int32) (p3 : Int32) (M : Mem) : Option (Int32 × Mem) := (f_X6_in p1.toInt64 0 3 M).bind fun r1 => if r1 = 0 then some ((-1), M) else rd (M 72) 4 p1 fun r4 => if r4 = (-4) then some ((-11), M) else rd (M 73) 4 p1 fun r7 => (f_X6_in p2.toInt64 0 ((r7 - 1).toInt64) M).bind fun r8 => if r8 = 0 then some ((-12), M) else rd (M 72) 4 p1 fun r11 => if r11 = 0 then inb ((40 * p1) + p2) 160 <| lm (up M 74 ((40 * p1) + p2).toNatClampNeg ((p3 <<< (24 &&& 31)) >>> (24 &&& 31))) fun M14 => some (1, M14) else rd (M 72) 4 p1 fun r16 => if r16 = 1 then inb ((40 * p1) + p2) 160 <| lm (up M 74 ((40 * p1) + p2).toNatClampNeg ((p3 <<< (16 &&& 31)) >>> (16 &&& 31))) fun M19 => some (1, M19) else inb ((40 * p1) + p2) 160 <| lm (up M 74 ((40 * p1) + p2).toNatClampNeg p3) fun M21 => some (1, M21)
theorem o_X6_lay {E : GE} {Q : Option Value → Mem → Prop} {p1 : Int32} {p2 : Int32} {p3 : Int32} {M : Mem} (h : wp (f_X6_lay p1 p2 p3 M) gIM Q) : Runs E mi_X6_lay [.ref (ad E 54), .int p1, .int p2, .int p3] M Q := by
  refine Runs.ofEv (by decide +kernel) (Nat.le_of_ble_eq_true rfl) ?_
  show Ev E mi_X6_lay 0 [(0, .ref (ad E 54)), (1, .int p1), (2, .int p2), (3, .int p3)] [] M Q
  unfold f_X6_lay at h
  refine Ev.iload_n dX6_lay_0 rfl 1 rfl ?_
  refine Ev.i2l dX6_lay_1 ?_
  refine Ev.lconst (v := 0) dX6_lay_2 rfl ?_
  refine Ev.ldc2 dX6_lay_3 fc_X6_182 ?_
  obtain ⟨r1, er1, h⟩ := wp_bind h
  refine Ev.callS (as := [.long p1.toInt64, .long 0, .long 3]) (rest := []) dX6_lay_6 cl_X6_73 mos_X6_in ⟨Nat.le_of_ble_eq_true rfl, Nat.le_of_ble_eq_true rfl⟩ (Nat.le_of_ble_eq_true rfl) rfl rfl (o_X6_in ⟨r1, er1, ?_⟩)
  show Ev E mi_X6_lay 9 [(0, .ref (ad E 54)), (1, .int p1), (2, .int p2), (3, .int p3)] [.int r1] M Q
  refine Ev.if_ne (tgt := 14) dX6_lay_9 (by decide) (fun c2 => ?_) (fun c2 => ?_)
  · replace h := wp_t c2 h
    refine Ev.iconst (v := (-1)) dX6_lay_12 rfl ?_
    exact Ev.ret dX6_lay_13 rfl rfl (wp_ret h)
  · replace h := wp_f c2 h
    refine Ev.aload_n dX6_lay_14 rfl 0 rfl ?_
    refine Ev.get dX6_lay_15 fl_X6_62 rfl (Nat.le_of_ble_eq_true rfl) (v := .ref (ad E 72)) rfl ?_
    refine Ev.iload_n dX6_lay_18 rfl 1 rfl ?_
    obtain ⟨g3, h⟩ := wp_rd h
    refine Ev.iald dX6_lay_19 rfl (Nat.le_of_ble_eq_true rfl) rfl g3 ?_
    refine Ev.topi (fun r4 er4 => ?_)
    replace h := h r4 er4
    refine Ev.bipush (v := (-4)) dX6_lay_20 rfl ?_
    refine Ev.icmp_ne (tgt := 28) dX6_lay_22 (by decide) (fun c5 => ?_) (fun c5 => ?_)
    · replace h := wp_t c5 h
      refine Ev.bipush (v := (-11)) dX6_lay_25 rfl ?_
      exact Ev.ret dX6_lay_27 rfl rfl (wp_ret h)
    · replace h := wp_f c5 h
      refine Ev.iload_n dX6_lay_28 rfl 2 rfl ?_
      refine Ev.i2l dX6_lay_29 ?_
      refine Ev.lconst (v := 0) dX6_lay_30 rfl ?_
      refine Ev.aload_n dX6_lay_31 rfl 0 rfl ?_
      refine Ev.get dX6_lay_32 fl_X6_65 rfl (Nat.le_of_ble_eq_true rfl) (v := .ref (ad E 73)) rfl ?_
      refine Ev.iload_n dX6_lay_35 rfl 1 rfl ?_
      obtain ⟨g6, h⟩ := wp_rd h
      refine Ev.iald dX6_lay_36 rfl (Nat.le_of_ble_eq_true rfl) rfl g6 ?_
      refine Ev.topi (fun r7 er7 => ?_)
      replace h := h r7 er7
      refine Ev.iconst (v := 1) dX6_lay_37 rfl ?_
      refine Ev.isub dX6_lay_38 ?_
      refine Ev.i2l dX6_lay_39 ?_
      obtain ⟨r8, er8, h⟩ := wp_bind h
      refine Ev.callS (as := [.long p2.toInt64, .long 0, .long ((r7 - 1).toInt64)]) (rest := []) dX6_lay_40 cl_X6_73 mos_X6_in ⟨Nat.le_of_ble_eq_true rfl, Nat.le_of_ble_eq_true rfl⟩ (Nat.le_of_ble_eq_true rfl) rfl rfl (o_X6_in ⟨r8, er8, ?_⟩)
      show Ev E mi_X6_lay 43 [(0, .ref (ad E 54)), (1, .int p1), (2, .int p2), (3, .int p3)] [.int r8] M Q
      refine Ev.if_ne (tgt := 49) dX6_lay_43 (by decide) (fun c9 => ?_) (fun c9 => ?_)
      · replace h := wp_t c9 h
        refine Ev.bipush (v := (-12)) dX6_lay_46 rfl ?_
        exact Ev.ret dX6_lay_48 rfl rfl (wp_ret h)
      · replace h := wp_f c9 h
        refine Ev.aload_n dX6_lay_49 rfl 0 rfl ?_
        refine Ev.get dX6_lay_50 fl_X6_68 rfl (Nat.le_of_ble_eq_true rfl) (v := .ref (ad E 74)) rfl ?_
        refine Ev.bipush (v := 40) dX6_lay_53 rfl ?_
        refine Ev.iload_n dX6_lay_55 rfl 1 rfl ?_
        refine Ev.imul dX6_lay_56 ?_
        refine Ev.iload_n dX6_lay_57 rfl 2 rfl ?_
        refine Ev.iadd dX6_lay_58 ?_
        refine Ev.aload_n dX6_lay_59 rfl 0 rfl ?_
        refine Ev.get dX6_lay_60 fl_X6_62 rfl (Nat.le_of_ble_eq_true rfl) (v := .ref (ad E 72)) rfl ?_
        refine Ev.iload_n dX6_lay_63 rfl 1 rfl ?_
        obtain ⟨g10, h⟩ := wp_rd h
        refine Ev.iald dX6_lay_64 rfl (Nat.le_of_ble_eq_true rfl) rfl g10 ?_
        refine Ev.topi (fun r11 er11 => ?_)
        replace h := h r11 er11
        refine Ev.if_ne (tgt := 78) dX6_lay_65 (by decide) (fun c12 => ?_) (fun c12 => ?_)
        · replace h := wp_t c12 h
          refine Ev.iload_n dX6_lay_68 rfl 3 rfl ?_
          refine Ev.bipush (v := 24) dX6_lay_69 rfl ?_
          refine Ev.ishl dX6_lay_71 ?_
          refine Ev.bipush (v := 24) dX6_lay_72 rfl ?_
          refine Ev.ishr dX6_lay_74 ?_
          refine Ev.goto (tgt := 99) dX6_lay_75 (by decide) ?_
          obtain ⟨g13, h⟩ := wp_inb h
          refine Ev.iast dX6_lay_99 rfl (Nat.le_of_ble_eq_true rfl) rfl g13 ?_
          refine Ev.topM (fun M14 eM14 => ?_)
          replace h := wp_lm h M14 eM14
          refine Ev.iconst (v := 1) dX6_lay_100 rfl ?_
          exact Ev.ret dX6_lay_101 rfl rfl (wp_ret h)
        · replace h := wp_f c12 h
          refine Ev.aload_n dX6_lay_78 rfl 0 rfl ?_
          refine Ev.get dX6_lay_79 fl_X6_62 rfl (Nat.le_of_ble_eq_true rfl) (v := .ref (ad E 72)) rfl ?_
          refine Ev.iload_n dX6_lay_82 rfl 1 rfl ?_
          obtain ⟨g15, h⟩ := wp_rd h
          refine Ev.iald dX6_lay_83 rfl (Nat.le_of_ble_eq_true rfl) rfl g15 ?_
          refine Ev.topi (fun r16 er16 => ?_)
          replace h := h r16 er16
          refine Ev.iconst (v := 1) dX6_lay_84 rfl ?_
          refine Ev.icmp_ne (tgt := 98) dX6_lay_85 (by decide) (fun c17 => ?_) (fun c17 => ?_)
          · replace h := wp_t c17 h
            refine Ev.iload_n dX6_lay_88 rfl 3 rfl ?_
            refine Ev.bipush (v := 16) dX6_lay_89 rfl ?_
            refine Ev.ishl dX6_lay_91 ?_
            refine Ev.bipush (v := 16) dX6_lay_92 rfl ?_
            refine Ev.ishr dX6_lay_94 ?_
            refine Ev.goto (tgt := 99) dX6_lay_95 (by decide) ?_
            obtain ⟨g18, h⟩ := wp_inb h
            refine Ev.iast dX6_lay_99 rfl (Nat.le_of_ble_eq_true rfl) rfl g18 ?_
            refine Ev.topM (fun M19 eM19 => ?_)
            replace h := wp_lm h M19 eM19
            refine Ev.iconst (v := 1) dX6_lay_100 rfl ?_
            exact Ev.ret dX6_lay_101 rfl rfl (wp_ret h)
          · replace h := wp_f c17 h
            refine Ev.iload_n dX6_lay_98 rfl 3 rfl ?_
            obtain ⟨g20, h⟩ := wp_inb h
            refine Ev.iast dX6_lay_99 rfl (Nat.le_of_ble_eq_true rfl) rfl g20 ?_
            refine Ev.topM (fun M21 eM21 => ?_)
            replace h := wp_lm h M21 eM21
            refine Ev.iconst (v := 1) dX6_lay_100 rfl ?_
            exact Ev.ret dX6_lay_101 rfl rfl (wp_ret h)

noncomputable def f_X6_read_184 (p1 : Int32) (p2 : Int32) (p3 : Int32) (p4 : Int32) (x6 : Int32) (M : Mem) : Option (Int32 × Mem) := (f_X6_copies 216 0 M).bind fun r1 => some ((-20) - x6, r1)
theorem o_X6_read_184 {E : GE} {Q : Option Value → Mem → Prop} {p1 : Int32} {p2 : Int32} {p3 : Int32} {p4 : Int32} {x6 : Int32} {M : Mem} (h : wp (f_X6_read_184 p1 p2 p3 p4 x6 M) gIM Q) : Ev E mi_X6_read 184 [(0, .ref (ad E 54)), (6, .int x6)] [] M Q := by
  unfold f_X6_read_184 at h
  refine Ev.aload_n dX6_read_184 rfl 0 rfl ?_
  refine Ev.sipush (v := 216) dX6_read_185 rfl ?_
  refine Ev.iconst (v := 0) dX6_read_188 rfl ?_
  obtain ⟨r1, er1, h⟩ := wp_bind h
  refine Ev.callV (k := 54) (as := [.int 216, .int 0]) (rest := []) dX6_read_189 cl_X6_226 mok_X6_copies rfl (Nat.le_of_ble_eq_true rfl) (Nat.le_of_ble_eq_true rfl) ⟨Nat.le_of_ble_eq_true rfl, Nat.le_of_ble_eq_true rfl⟩ (Nat.le_of_ble_eq_true rfl) rfl rfl (o_X6_copies ⟨r1, er1, ?_⟩)
  show Ev E mi_X6_read 192 [(0, .ref (ad E 54)), (6, .int x6)] [] r1 Q
  refine Ev.bipush (v := (-20)) dX6_read_192 rfl ?_
  refine Ev.iload dX6_read_194 1 rfl ?_
  refine Ev.isub dX6_read_196 ?_
  exact Ev.ret dX6_read_197 rfl rfl (wp_ret h)
noncomputable def f_X6_read_201 (p1 : Int32) (p2 : Int32) (p3 : Int32) (p4 : Int32) (t56 : Int32 → Int32 → Int32 → Mem → Option (Int32 × Mem)) (x5 : Int32) (x6 : Int32) (x7 : Int32) (M : Mem) : Option (Int32 × Mem) := t56 x5 x6 (x7 + 1) M
theorem o_X6_read_201 {E : GE} {Q : Option Value → Mem → Prop} {p1 : Int32} {p2 : Int32} {p3 : Int32} {p4 : Int32} {t56 : Int32 → Int32 → Int32 → Mem → Option (Int32 × Mem)} {x5 : Int32} {x6 : Int32} {x7 : Int32} {M : Mem} (ht56 : ∀ (x5 : Int32) (x6 : Int32) (x7 : Int32) (M : Mem), wp (t56 x5 x6 x7 M) gIM Q → Ev E mi_X6_read 56 [(0, .ref (ad E 54)), (1, .int p1), (2, .int p2), (3, .int p3), (4, .int p4), (5, .int x5), (6, .int x6), (7, .int x7)] [] M Q) (h : wp (f_X6_read_201 p1 p2 p3 p4 t56 x5 x6 x7 M) gIM Q) : Ev E mi_X6_read 201 [(0, .ref (ad E 54)), (1, .int p1), (2, .int p2), (3, .int p3), (4, .int p4), (5, .int x5), (6, .int x6), (7, .int x7)] [] M Q := by
  unfold f_X6_read_201 at h
  refine Ev.iinc (v := x7 + 1) dX6_read_201 7 rfl rfl (Nat.le_of_ble_eq_true rfl) rfl ?_
  show Ev E mi_X6_read 204 [(7, .int (x7 + 1)), (0, .ref (ad E 54)), (1, .int p1), (2, .int p2), (3, .int p3), (4, .int p4), (5, .int x5), (6, .int x6)] [] M Q
  refine Ev.goto (tgt := 56) dX6_read_204 (by decide) ?_
  refine Ev.sub [1, 2, 3, 4, 5, 6, 7, 0] rfl ?_
  exact ht56 _ _ _ _ h
noncomputable def f_X6_read_126 (p1 : Int32) (p2 : Int32) (p3 : Int32) (p4 : Int32) (t56 : Int32 → Int32 → Int32 → Mem → Option (Int32 × Mem)) (x6 : Int32) (x7 : Int32) (s0 : Int32) (M : Mem) : Option (Int32 × Mem) := if s0 = 0 then if (x7 - x7 / 3 * 3) = 2 then li (((40 * p1) + p3) + x7) fun y3 => rd (M 74) 160 (y3 - 2) fun r5 => rd (M 74) 160 (y3 - 1) fun r7 => rd (M 74) 160 y3 fun r9 => (f_X6_casts r5 r7 r9 M).bind fun r10 => if 0 ≤ r10.1 then f_X6_read_201 p1 p2 p3 p4 t56 s0 (x6 + 1) x7 r10.2 else f_X6_read_184 p1 p2 p3 p4 x6 r10.2 else f_X6_read_201 p1 p2 p3 p4 t56 s0 x6 x7 M else f_X6_read_201 p1 p2 p3 p4 t56 s0 x6 x7 M
theorem o_X6_read_126 {E : GE} {Q : Option Value → Mem → Prop} {p1 : Int32} {p2 : Int32} {p3 : Int32} {p4 : Int32} {t56 : Int32 → Int32 → Int32 → Mem → Option (Int32 × Mem)} {x6 : Int32} {x7 : Int32} {s0 : Int32} {M : Mem} (ht56 : ∀ (x5 : Int32) (x6 : Int32) (x7 : Int32) (M : Mem), wp (t56 x5 x6 x7 M) gIM Q → Ev E mi_X6_read 56 [(0, .ref (ad E 54)), (1, .int p1), (2, .int p2), (3, .int p3), (4, .int p4), (5, .int x5), (6, .int x6), (7, .int x7)] [] M Q) (h : wp (f_X6_read_126 p1 p2 p3 p4 t56 x6 x7 s0 M) gIM Q) : Ev E mi_X6_read 126 [(0, .ref (ad E 54)), (1, .int p1), (2, .int p2), (3, .int p3), (4, .int p4), (6, .int x6), (7, .int x7)] [.int s0] M Q := by
  unfold f_X6_read_126 at h
  refine Ev.istore dX6_read_126 (Nat.le_of_ble_eq_true rfl) rfl ?_
  show Ev E mi_X6_read 128 [(5, .int s0), (0, .ref (ad E 54)), (1, .int p1), (2, .int p2), (3, .int p3), (4, .int p4), (6, .int x6), (7, .int x7)] [] M Q
  refine Ev.iload dX6_read_128 0 rfl ?_
  refine Ev.if_ne (tgt := 201) dX6_read_130 (by decide) (fun c1 => ?_) (fun c1 => ?_)
  · replace h := wp_t c1 h
    refine Ev.iload dX6_read_133 7 rfl ?_
    refine Ev.iconst (v := 3) dX6_read_135 rfl ?_
    refine Ev.irem dX6_read_136 (by decide) ?_
    refine Ev.iconst (v := 2) dX6_read_137 rfl ?_
    refine Ev.icmp_ne (tgt := 201) dX6_read_138 (by decide) (fun c2 => ?_) (fun c2 => ?_)
    · replace h := wp_t c2 h
      refine Ev.bipush (v := 40) dX6_read_141 rfl ?_
      refine Ev.iload_n dX6_read_143 rfl 2 rfl ?_
      refine Ev.imul dX6_read_144 ?_
      refine Ev.iload_n dX6_read_145 rfl 4 rfl ?_
      refine Ev.iadd dX6_read_146 ?_
      refine Ev.iload dX6_read_147 7 rfl ?_
      refine Ev.iadd dX6_read_149 ?_
      refine Ev.topi (fun y3 ey3 => ?_)
      replace h := wp_li h y3 ey3
      refine Ev.istore dX6_read_150 (Nat.le_of_ble_eq_true rfl) rfl ?_
      show Ev E mi_X6_read 152 [(8, .int y3), (5, .int s0), (0, .ref (ad E 54)), (1, .int p1), (2, .int p2), (3, .int p3), (4, .int p4), (6, .int x6), (7, .int x7)] [] M Q
      refine Ev.aload_n dX6_read_152 rfl 2 rfl ?_
      refine Ev.aload_n dX6_read_153 rfl 2 rfl ?_
      refine Ev.get dX6_read_154 fl_X6_68 rfl (Nat.le_of_ble_eq_true rfl) (v := .ref (ad E 74)) rfl ?_
      refine Ev.iload dX6_read_157 0 rfl ?_
      refine Ev.iconst (v := 2) dX6_read_159 rfl ?_
      refine Ev.isub dX6_read_160 ?_
      obtain ⟨g4, h⟩ := wp_rd h
      refine Ev.iald dX6_read_161 rfl (Nat.le_of_ble_eq_true rfl) rfl g4 ?_
      refine Ev.topi (fun r5 er5 => ?_)
      replace h := h r5 er5
      refine Ev.aload_n dX6_read_162 rfl 2 rfl ?_
      refine Ev.get dX6_read_163 fl_X6_68 rfl (Nat.le_of_ble_eq_true rfl) (v := .ref (ad E 74)) rfl ?_
      refine Ev.iload dX6_read_166 0 rfl ?_
      refine Ev.iconst (v := 1) dX6_read_168 rfl ?_
      refine Ev.isub dX6_read_169 ?_
      obtain ⟨g6, h⟩ := wp_rd h
      refine Ev.iald dX6_read_170 rfl (Nat.le_of_ble_eq_true rfl) rfl g6 ?_
      refine Ev.topi (fun r7 er7 => ?_)
      replace h := h r7 er7
      refine Ev.aload_n dX6_read_171 rfl 2 rfl ?_
      refine Ev.get dX6_read_172 fl_X6_68 rfl (Nat.le_of_ble_eq_true rfl) (v := .ref (ad E 74)) rfl ?_
      refine Ev.iload dX6_read_175 0 rfl ?_
      obtain ⟨g8, h⟩ := wp_rd h
      refine Ev.iald dX6_read_177 rfl (Nat.le_of_ble_eq_true rfl) rfl g8 ?_
      refine Ev.topi (fun r9 er9 => ?_)
      replace h := h r9 er9
      obtain ⟨r10, er10, h⟩ := wp_bind h
      refine Ev.callV (k := 54) (as := [.int r5, .int r7, .int r9]) (rest := []) dX6_read_178 cl_X6_195 mok_X6_casts rfl (Nat.le_of_ble_eq_true rfl) (Nat.le_of_ble_eq_true rfl) ⟨Nat.le_of_ble_eq_true rfl, Nat.le_of_ble_eq_true rfl⟩ (Nat.le_of_ble_eq_true rfl) rfl rfl (o_X6_casts ⟨r10, er10, ?_⟩)
      show Ev E mi_X6_read 181 [(8, .int y3), (5, .int s0), (0, .ref (ad E 54)), (1, .int p1), (2, .int p2), (3, .int p3), (4, .int p4), (6, .int x6), (7, .int x7)] [.int r10.1] r10.2 Q
      refine Ev.if_ge (tgt := 198) dX6_read_181 (by decide) (fun c11 => ?_) (fun c11 => ?_)
      · replace h := wp_t c11 h
        refine Ev.iinc (v := x6 + 1) dX6_read_198 7 rfl rfl (Nat.le_of_ble_eq_true rfl) rfl ?_
        show Ev E mi_X6_read 201 [(6, .int (x6 + 1)), (8, .int y3), (5, .int s0), (0, .ref (ad E 54)), (1, .int p1), (2, .int p2), (3, .int p3), (4, .int p4), (7, .int x7)] [] r10.2 Q
        refine Ev.sub [3, 4, 5, 6, 7, 2, 0, 8] rfl ?_
        exact o_X6_read_201 ht56 h
      · replace h := wp_f c11 h
        refine Ev.sub [2, 7] rfl ?_
        exact o_X6_read_184 h
    · replace h := wp_f c2 h
      refine Ev.sub [1, 2, 3, 4, 5, 0, 6, 7] rfl ?_
      exact o_X6_read_201 ht56 h
  · replace h := wp_f c1 h
    refine Ev.sub [1, 2, 3, 4, 5, 0, 6, 7] rfl ?_
    exact o_X6_read_201 ht56 h
noncomputable def f_X6_read_56 (p1 : Int32) (p2 : Int32) (p3 : Int32) (p4 : Int32) : Nat → Int32 → Int32 → Int32 → Mem → Option (Int32 × Mem)
  | 0, _, _, _, _ => none
  | n + 1, x5, x6, x7, M => if (3 * p4) ≤ x7 then lm (up M 54 35 x5) fun M2 => some (x6, M2) else if x5 = 0 then rd (M 72) 4 p1 fun r5 => if r5 = (-4) then f_X6_read_126 p1 p2 p3 p4 (f_X6_read_56 p1 p2 p3 p4 n) x6 x7 1 M else rd (M 72) 4 p1 fun r8 => if r8 = p2 then rd (M 73) 4 p1 fun r11 => (f_X6_in (p3.toInt64 + x7.toInt64) 0 ((r11 - 1).toInt64) M).bind fun r12 => if r12 = 0 then f_X6_read_126 p1 p2 p3 p4 (f_X6_read_56 p1 p2 p3 p4 n) x6 x7 2 M else f_X6_read_126 p1 p2 p3 p4 (f_X6_read_56 p1 p2 p3 p4 n) x6 x7 0 M else f_X6_read_126 p1 p2 p3 p4 (f_X6_read_56 p1 p2 p3 p4 n) x6 x7 3 M else lm (up M 54 35 x5) fun M14 => some (x6, M14)
theorem o_X6_read_56 {E : GE} {Q : Option Value → Mem → Prop} {p1 : Int32} {p2 : Int32} {p3 : Int32} {p4 : Int32} : ∀ (n : Nat) {x5 : Int32} {x6 : Int32} {x7 : Int32} {M : Mem}, wp (f_X6_read_56 p1 p2 p3 p4 n x5 x6 x7 M) gIM Q → Ev E mi_X6_read 56 [(0, .ref (ad E 54)), (1, .int p1), (2, .int p2), (3, .int p3), (4, .int p4), (5, .int x5), (6, .int x6), (7, .int x7)] [] M Q := by
  intro n
  induction n with
  | zero => intro _ _ _ _ h; exact absurd h wp_none
  | succ n ih =>
    intro x5 x6 x7 M h
    unfold f_X6_read_56 at h
    refine Ev.iload dX6_read_56 7 rfl ?_
    refine Ev.iconst (v := 3) dX6_read_58 rfl ?_
    refine Ev.iload dX6_read_59 4 rfl ?_
    refine Ev.imul dX6_read_61 ?_
    refine Ev.icmp_ge (tgt := 207) dX6_read_62 (by decide) (fun c1 => ?_) (fun c1 => ?_)
    · replace h := wp_t c1 h
      refine Ev.aload_n dX6_read_207 rfl 0 rfl ?_
      refine Ev.iload dX6_read_208 5 rfl ?_
      refine Ev.putA dX6_read_210 fl_X6_266 rfl (Nat.le_of_ble_eq_true rfl) rfl rfl pf_I rfl rfl ?_
      refine Ev.topM (fun M2 eM2 => ?_)
      replace h := wp_lm h M2 eM2
      refine Ev.iload dX6_read_213 6 rfl ?_
      exact Ev.ret dX6_read_215 rfl rfl (wp_ret h)
    · replace h := wp_f c1 h
      refine Ev.iload dX6_read_65 5 rfl ?_
      refine Ev.if_ne (tgt := 207) dX6_read_67 (by decide) (fun c3 => ?_) (fun c3 => ?_)
      · replace h := wp_t c3 h
        refine Ev.aload_n dX6_read_70 rfl 0 rfl ?_
        refine Ev.get dX6_read_71 fl_X6_62 rfl (Nat.le_of_ble_eq_true rfl) (v := .ref (ad E 72)) rfl ?_
        refine Ev.iload_n dX6_read_74 rfl 1 rfl ?_
        obtain ⟨g4, h⟩ := wp_rd h
        refine Ev.iald dX6_read_75 rfl (Nat.le_of_ble_eq_true rfl) rfl g4 ?_
        refine Ev.topi (fun r5 er5 => ?_)
        replace h := h r5 er5
        refine Ev.bipush (v := (-4)) dX6_read_76 rfl ?_
        refine Ev.icmp_ne (tgt := 85) dX6_read_78 (by decide) (fun c6 => ?_) (fun c6 => ?_)
        · replace h := wp_t c6 h
          refine Ev.iconst (v := 1) dX6_read_81 rfl ?_
          refine Ev.goto (tgt := 126) dX6_read_82 (by decide) ?_
          refine Ev.sub [0, 1, 2, 3, 4, 6, 7] rfl ?_
          exact o_X6_read_126 (fun _ _ _ _ h => ih h) h
        · replace h := wp_f c6 h
          refine Ev.aload_n dX6_read_85 rfl 0 rfl ?_
          refine Ev.get dX6_read_86 fl_X6_62 rfl (Nat.le_of_ble_eq_true rfl) (v := .ref (ad E 72)) rfl ?_
          refine Ev.iload_n dX6_read_89 rfl 1 rfl ?_
          obtain ⟨g7, h⟩ := wp_rd h
          refine Ev.iald dX6_read_90 rfl (Nat.le_of_ble_eq_true rfl) rfl g7 ?_
          refine Ev.topi (fun r8 er8 => ?_)
          replace h := h r8 er8
          refine Ev.iload_n dX6_read_91 rfl 2 rfl ?_
          refine Ev.icmp_eq (tgt := 99) dX6_read_92 (by decide) (fun c9 => ?_) (fun c9 => ?_)
          · replace h := wp_t c9 h
            refine Ev.iload_n dX6_read_99 rfl 3 rfl ?_
            refine Ev.i2l dX6_read_100 ?_
            refine Ev.iload dX6_read_101 7 rfl ?_
            refine Ev.i2l dX6_read_103 ?_
            refine Ev.ladd dX6_read_104 ?_
            refine Ev.lconst (v := 0) dX6_read_105 rfl ?_
            refine Ev.aload_n dX6_read_106 rfl 0 rfl ?_
            refine Ev.get dX6_read_107 fl_X6_65 rfl (Nat.le_of_ble_eq_true rfl) (v := .ref (ad E 73)) rfl ?_
            refine Ev.iload_n dX6_read_110 rfl 1 rfl ?_
            obtain ⟨g10, h⟩ := wp_rd h
            refine Ev.iald dX6_read_111 rfl (Nat.le_of_ble_eq_true rfl) rfl g10 ?_
            refine Ev.topi (fun r11 er11 => ?_)
            replace h := h r11 er11
            refine Ev.iconst (v := 1) dX6_read_112 rfl ?_
            refine Ev.isub dX6_read_113 ?_
            refine Ev.i2l dX6_read_114 ?_
            obtain ⟨r12, er12, h⟩ := wp_bind h
            refine Ev.callS (as := [.long (p3.toInt64 + x7.toInt64), .long 0, .long ((r11 - 1).toInt64)]) (rest := []) dX6_read_115 cl_X6_73 mos_X6_in ⟨Nat.le_of_ble_eq_true rfl, Nat.le_of_ble_eq_true rfl⟩ (Nat.le_of_ble_eq_true rfl) rfl rfl (o_X6_in ⟨r12, er12, ?_⟩)
            show Ev E mi_X6_read 118 [(0, .ref (ad E 54)), (1, .int p1), (2, .int p2), (3, .int p3), (4, .int p4), (5, .int x5), (6, .int x6), (7, .int x7)] [.int r12] M Q
            refine Ev.if_ne (tgt := 125) dX6_read_118 (by decide) (fun c13 => ?_) (fun c13 => ?_)
            · replace h := wp_t c13 h
              refine Ev.iconst (v := 2) dX6_read_121 rfl ?_
              refine Ev.goto (tgt := 126) dX6_read_122 (by decide) ?_
              refine Ev.sub [0, 1, 2, 3, 4, 6, 7] rfl ?_
              exact o_X6_read_126 (fun _ _ _ _ h => ih h) h
            · replace h := wp_f c13 h
              refine Ev.iconst (v := 0) dX6_read_125 rfl ?_
              refine Ev.sub [0, 1, 2, 3, 4, 6, 7] rfl ?_
              exact o_X6_read_126 (fun _ _ _ _ h => ih h) h
          · replace h := wp_f c9 h
            refine Ev.iconst (v := 3) dX6_read_95 rfl ?_
            refine Ev.goto (tgt := 126) dX6_read_96 (by decide) ?_
            refine Ev.sub [0, 1, 2, 3, 4, 6, 7] rfl ?_
            exact o_X6_read_126 (fun _ _ _ _ h => ih h) h
      · replace h := wp_f c3 h
        refine Ev.aload_n dX6_read_207 rfl 0 rfl ?_
        refine Ev.iload dX6_read_208 5 rfl ?_
        refine Ev.putA dX6_read_210 fl_X6_266 rfl (Nat.le_of_ble_eq_true rfl) rfl rfl pf_I rfl rfl ?_
        refine Ev.topM (fun M14 eM14 => ?_)
        replace h := wp_lm h M14 eM14
        refine Ev.iload dX6_read_213 6 rfl ?_
        exact Ev.ret dX6_read_215 rfl rfl (wp_ret h)
noncomputable def f_X6_read (p1 : Int32) (p2 : Int32) (p3 : Int32) (p4 : Int32) (M : Mem) : Option (Int32 × Mem) := (f_X6_in p1.toInt64 0 3 M).bind fun r1 => if r1 = 0 then some ((-1), M) else (f_X6_in p2.toInt64 0 2 M).bind fun r3 => if r3 = 0 then some ((-1), M) else (f_X6_in p4.toInt64 0 13 M).bind fun r5 => if r5 = 0 then some ((-1), M) else (f_X6_copies 0 216 M).bind fun r7 => f_X6_read_56 p1 p2 p3 p4 FU 0 0 0 r7
theorem o_X6_read {E : GE} {Q : Option Value → Mem → Prop} {p1 : Int32} {p2 : Int32} {p3 : Int32} {p4 : Int32} {M : Mem} (h : wp (f_X6_read p1 p2 p3 p4 M) gIM Q) : Runs E mi_X6_read [.ref (ad E 54), .int p1, .int p2, .int p3, .int p4] M Q := by
  refine Runs.ofEv (by decide +kernel) (Nat.le_of_ble_eq_true rfl) ?_
  show Ev E mi_X6_read 0 [(0, .ref (ad E 54)), (1, .int p1), (2, .int p2), (3, .int p3), (4, .int p4)] [] M Q
  unfold f_X6_read at h
  refine Ev.iload_n dX6_read_0 rfl 1 rfl ?_
  refine Ev.i2l dX6_read_1 ?_
  refine Ev.lconst (v := 0) dX6_read_2 rfl ?_
  refine Ev.ldc2 dX6_read_3 fc_X6_182 ?_
  obtain ⟨r1, er1, h⟩ := wp_bind h
  refine Ev.callS (as := [.long p1.toInt64, .long 0, .long 3]) (rest := []) dX6_read_6 cl_X6_73 mos_X6_in ⟨Nat.le_of_ble_eq_true rfl, Nat.le_of_ble_eq_true rfl⟩ (Nat.le_of_ble_eq_true rfl) rfl rfl (o_X6_in ⟨r1, er1, ?_⟩)
  show Ev E mi_X6_read 9 [(0, .ref (ad E 54)), (1, .int p1), (2, .int p2), (3, .int p3), (4, .int p4)] [.int r1] M Q
  refine Ev.if_eq (tgt := 37) dX6_read_9 (by decide) (fun c2 => ?_) (fun c2 => ?_)
  · replace h := wp_t c2 h
    refine Ev.iconst (v := (-1)) dX6_read_37 rfl ?_
    exact Ev.ret dX6_read_38 rfl rfl (wp_ret h)
  · replace h := wp_f c2 h
    refine Ev.iload_n dX6_read_12 rfl 2 rfl ?_
    refine Ev.i2l dX6_read_13 ?_
    refine Ev.lconst (v := 0) dX6_read_14 rfl ?_
    refine Ev.ldc2 dX6_read_15 fc_X6_218 ?_
    obtain ⟨r3, er3, h⟩ := wp_bind h
    refine Ev.callS (as := [.long p2.toInt64, .long 0, .long 2]) (rest := []) dX6_read_18 cl_X6_73 mos_X6_in ⟨Nat.le_of_ble_eq_true rfl, Nat.le_of_ble_eq_true rfl⟩ (Nat.le_of_ble_eq_true rfl) rfl rfl (o_X6_in ⟨r3, er3, ?_⟩)
    show Ev E mi_X6_read 21 [(0, .ref (ad E 54)), (1, .int p1), (2, .int p2), (3, .int p3), (4, .int p4)] [.int r3] M Q
    refine Ev.if_eq (tgt := 37) dX6_read_21 (by decide) (fun c4 => ?_) (fun c4 => ?_)
    · replace h := wp_t c4 h
      refine Ev.iconst (v := (-1)) dX6_read_37 rfl ?_
      exact Ev.ret dX6_read_38 rfl rfl (wp_ret h)
    · replace h := wp_f c4 h
      refine Ev.iload dX6_read_24 4 rfl ?_
      refine Ev.i2l dX6_read_26 ?_
      refine Ev.lconst (v := 0) dX6_read_27 rfl ?_
      refine Ev.ldc2 dX6_read_28 fc_X6_264 ?_
      obtain ⟨r5, er5, h⟩ := wp_bind h
      refine Ev.callS (as := [.long p4.toInt64, .long 0, .long 13]) (rest := []) dX6_read_31 cl_X6_73 mos_X6_in ⟨Nat.le_of_ble_eq_true rfl, Nat.le_of_ble_eq_true rfl⟩ (Nat.le_of_ble_eq_true rfl) rfl rfl (o_X6_in ⟨r5, er5, ?_⟩)
      show Ev E mi_X6_read 34 [(0, .ref (ad E 54)), (1, .int p1), (2, .int p2), (3, .int p3), (4, .int p4)] [.int r5] M Q
      refine Ev.if_ne (tgt := 39) dX6_read_34 (by decide) (fun c6 => ?_) (fun c6 => ?_)
      · replace h := wp_t c6 h
        refine Ev.iconst (v := (-1)) dX6_read_37 rfl ?_
        exact Ev.ret dX6_read_38 rfl rfl (wp_ret h)
      · replace h := wp_f c6 h
        refine Ev.aload_n dX6_read_39 rfl 0 rfl ?_
        refine Ev.iconst (v := 0) dX6_read_40 rfl ?_
        refine Ev.sipush (v := 216) dX6_read_41 rfl ?_
        obtain ⟨r7, er7, h⟩ := wp_bind h
        refine Ev.callV (k := 54) (as := [.int 0, .int 216]) (rest := []) dX6_read_44 cl_X6_226 mok_X6_copies rfl (Nat.le_of_ble_eq_true rfl) (Nat.le_of_ble_eq_true rfl) ⟨Nat.le_of_ble_eq_true rfl, Nat.le_of_ble_eq_true rfl⟩ (Nat.le_of_ble_eq_true rfl) rfl rfl (o_X6_copies ⟨r7, er7, ?_⟩)
        show Ev E mi_X6_read 47 [(0, .ref (ad E 54)), (1, .int p1), (2, .int p2), (3, .int p3), (4, .int p4)] [] r7 Q
        refine Ev.iconst (v := 0) dX6_read_47 rfl ?_
        refine Ev.istore dX6_read_48 (Nat.le_of_ble_eq_true rfl) rfl ?_
        show Ev E mi_X6_read 50 [(5, .int 0), (0, .ref (ad E 54)), (1, .int p1), (2, .int p2), (3, .int p3), (4, .int p4)] [] r7 Q
        refine Ev.iconst (v := 0) dX6_read_50 rfl ?_
        refine Ev.istore dX6_read_51 (Nat.le_of_ble_eq_true rfl) rfl ?_
        show Ev E mi_X6_read 53 [(6, .int 0), (5, .int 0), (0, .ref (ad E 54)), (1, .int p1), (2, .int p2), (3, .int p3), (4, .int p4)] [] r7 Q
        refine Ev.iconst (v := 0) dX6_read_53 rfl ?_
        refine Ev.istore dX6_read_54 (Nat.le_of_ble_eq_true rfl) rfl ?_
        show Ev E mi_X6_read 56 [(7, .int 0), (6, .int 0), (5, .int 0), (0, .ref (ad E 54)), (1, .int p1), (2, .int p2), (3, .int p3), (4, .int p4)] [] r7 Q
        refine Ev.sub [3, 4, 5, 6, 7, 2, 1, 0] rfl ?_
        exact o_X6_read_56 FU h

noncomputable def f_X6_torn (M : Mem) : Option Int32 := some (M 54 35)
theorem o_X6_torn {E : GE} {Q : Option Value → Mem → Prop} {M : Mem} (h : wp (f_X6_torn M) (gI M) Q) : Runs E mi_X6_torn [.ref (ad E 54)] M Q := by
  refine Runs.ofEv (by decide +kernel) (Nat.le_of_ble_eq_true rfl) ?_
  show Ev E mi_X6_torn 0 [(0, .ref (ad E 54))] [] M Q
  unfold f_X6_torn at h
  refine Ev.aload_n dX6_torn_0 rfl 0 rfl ?_
  refine Ev.get dX6_torn_1 fl_X6_266 rfl (Nat.le_of_ble_eq_true rfl) rfl ?_
  exact Ev.ret dX6_torn_4 rfl rfl (wp_ret h)

noncomputable def f_X6_count_68 (p1 : Int32) (M : Mem) (t42 : Int32 → Int32 → Int32 → Option Int32) (x2 : Int32) (x4 : Int32) (s0 : Int32) (s1 : Int32) : Option Int32 := li (s0 + s1) fun y1 => t42 x2 y1 (x4 + 1)
theorem o_X6_count_68 {E : GE} {Q : Option Value → Mem → Prop} {p1 : Int32} {M : Mem} {t42 : Int32 → Int32 → Int32 → Option Int32} {x2 : Int32} {x4 : Int32} {s0 : Int32} {s1 : Int32} (ht42 : ∀ (x2 : Int32) (x3 : Int32) (x4 : Int32), wp (t42 x2 x3 x4) (gI M) Q → Ev E mi_X6_count 42 [(0, .ref (ad E 54)), (1, .int p1), (2, .int x2), (3, .int x3), (4, .int x4)] [] M Q) (h : wp (f_X6_count_68 p1 M t42 x2 x4 s0 s1) (gI M) Q) : Ev E mi_X6_count 68 [(0, .ref (ad E 54)), (1, .int p1), (2, .int x2), (4, .int x4)] [.int s1, .int s0] M Q := by
  unfold f_X6_count_68 at h
  refine Ev.iadd dX6_count_68 ?_
  refine Ev.topi (fun y1 ey1 => ?_)
  replace h := wp_li h y1 ey1
  refine Ev.istore_n dX6_count_69 rfl (Nat.le_of_ble_eq_true rfl) rfl ?_
  show Ev E mi_X6_count 70 [(3, .int y1), (0, .ref (ad E 54)), (1, .int p1), (2, .int x2), (4, .int x4)] [] M Q
  refine Ev.iinc (v := x4 + 1) dX6_count_70 4 rfl rfl (Nat.le_of_ble_eq_true rfl) rfl ?_
  show Ev E mi_X6_count 73 [(4, .int (x4 + 1)), (3, .int y1), (0, .ref (ad E 54)), (1, .int p1), (2, .int x2)] [] M Q
  refine Ev.goto (tgt := 42) dX6_count_73 (by decide) ?_
  refine Ev.sub [2, 3, 4, 1, 0] rfl ?_
  exact ht42 _ _ _ h
noncomputable def f_X6_count_135 (p1 : Int32) (M : Mem) (s0 : Int32) : Option Int32 := rd (M 71) 2 1 fun r2 => if r2 = 0 then some (s0 + 0) else some (s0 + 1)
theorem o_X6_count_135 {E : GE} {Q : Option Value → Mem → Prop} {p1 : Int32} {M : Mem} {s0 : Int32} (h : wp (f_X6_count_135 p1 M s0) (gI M) Q) : Ev E mi_X6_count 135 [(0, .ref (ad E 54))] [.int s0] M Q := by
  unfold f_X6_count_135 at h
  refine Ev.aload_n dX6_count_135 rfl 0 rfl ?_
  refine Ev.get dX6_count_136 fl_X6_58 rfl (Nat.le_of_ble_eq_true rfl) (v := .ref (ad E 71)) rfl ?_
  refine Ev.iconst (v := 1) dX6_count_139 rfl ?_
  obtain ⟨g1, h⟩ := wp_rd h
  refine Ev.zald dX6_count_140 rfl (Nat.le_of_ble_eq_true rfl) rfl g1 ?_
  refine Ev.topi (fun r2 er2 => ?_)
  replace h := h r2 er2
  refine Ev.if_eq (tgt := 148) dX6_count_141 (by decide) (fun c3 => ?_) (fun c3 => ?_)
  · replace h := wp_t c3 h
    refine Ev.iconst (v := 0) dX6_count_148 rfl ?_
    refine Ev.iadd dX6_count_149 ?_
    exact Ev.ret dX6_count_150 rfl rfl (wp_ret h)
  · replace h := wp_f c3 h
    refine Ev.iconst (v := 1) dX6_count_144 rfl ?_
    refine Ev.goto (tgt := 149) dX6_count_145 (by decide) ?_
    refine Ev.iadd dX6_count_149 ?_
    exact Ev.ret dX6_count_150 rfl rfl (wp_ret h)
noncomputable def f_X6_count_76 (p1 : Int32) (M : Mem) (x2 : Int32) (x3 : Int32) : Option Int32 := if p1 = 0 then some (M 54 29) else if p1 = 1 then rd (M 71) 2 0 fun r4 => if r4 = 0 then f_X6_count_135 p1 M 0 else f_X6_count_135 p1 M 1 else if p1 = 2 then some (M 54 9) else if p1 = 3 then rd (M 72) 4 0 fun r9 => if r9 = (-4) then some (-4) else rd (M 73) 4 0 fun r12 => some r12 else if p1 = 4 then some x2 else if p1 = 5 then some x3 else some (-1)
theorem o_X6_count_76 {E : GE} {Q : Option Value → Mem → Prop} {p1 : Int32} {M : Mem} {x2 : Int32} {x3 : Int32} (h : wp (f_X6_count_76 p1 M x2 x3) (gI M) Q) : Ev E mi_X6_count 76 [(0, .ref (ad E 54)), (1, .int p1), (2, .int x2), (3, .int x3)] [] M Q := by
  unfold f_X6_count_76 at h
  refine Ev.iload_n dX6_count_76 rfl 1 rfl ?_
  by_cases c1 : p1 = 0
  · replace h := wp_t c1 h
    refine Ev.tsIn (tgt := 116) dX6_count_77 c1 (by decide) (by decide) rfl (by decide) ?_
    refine Ev.aload_n dX6_count_116 rfl 0 rfl ?_
    refine Ev.get dX6_count_117 fl_X6_159 rfl (Nat.le_of_ble_eq_true rfl) rfl ?_
    exact Ev.ret dX6_count_120 rfl rfl (wp_ret h)
  · replace h := wp_f c1 h
    by_cases c2 : p1 = 1
    · replace h := wp_t c2 h
      refine Ev.tsIn (tgt := 121) dX6_count_77 c2 (by decide) (by decide) rfl (by decide) ?_
      refine Ev.aload_n dX6_count_121 rfl 0 rfl ?_
      refine Ev.get dX6_count_122 fl_X6_58 rfl (Nat.le_of_ble_eq_true rfl) (v := .ref (ad E 71)) rfl ?_
      refine Ev.iconst (v := 0) dX6_count_125 rfl ?_
      obtain ⟨g3, h⟩ := wp_rd h
      refine Ev.zald dX6_count_126 rfl (Nat.le_of_ble_eq_true rfl) rfl g3 ?_
      refine Ev.topi (fun r4 er4 => ?_)
      replace h := h r4 er4
      refine Ev.if_eq (tgt := 134) dX6_count_127 (by decide) (fun c5 => ?_) (fun c5 => ?_)
      · replace h := wp_t c5 h
        refine Ev.iconst (v := 0) dX6_count_134 rfl ?_
        refine Ev.sub [0] rfl ?_
        exact o_X6_count_135 h
      · replace h := wp_f c5 h
        refine Ev.iconst (v := 1) dX6_count_130 rfl ?_
        refine Ev.goto (tgt := 135) dX6_count_131 (by decide) ?_
        refine Ev.sub [0] rfl ?_
        exact o_X6_count_135 h
    · replace h := wp_f c2 h
      by_cases c6 : p1 = 2
      · replace h := wp_t c6 h
        refine Ev.tsIn (tgt := 151) dX6_count_77 c6 (by decide) (by decide) rfl (by decide) ?_
        refine Ev.aload_n dX6_count_151 rfl 0 rfl ?_
        refine Ev.get dX6_count_152 fl_X6_77 rfl (Nat.le_of_ble_eq_true rfl) rfl ?_
        exact Ev.ret dX6_count_155 rfl rfl (wp_ret h)
      · replace h := wp_f c6 h
        by_cases c7 : p1 = 3
        · replace h := wp_t c7 h
          refine Ev.tsIn (tgt := 156) dX6_count_77 c7 (by decide) (by decide) rfl (by decide) ?_
          refine Ev.aload_n dX6_count_156 rfl 0 rfl ?_
          refine Ev.get dX6_count_157 fl_X6_62 rfl (Nat.le_of_ble_eq_true rfl) (v := .ref (ad E 72)) rfl ?_
          refine Ev.iconst (v := 0) dX6_count_160 rfl ?_
          obtain ⟨g8, h⟩ := wp_rd h
          refine Ev.iald dX6_count_161 rfl (Nat.le_of_ble_eq_true rfl) rfl g8 ?_
          refine Ev.topi (fun r9 er9 => ?_)
          replace h := h r9 er9
          refine Ev.bipush (v := (-4)) dX6_count_162 rfl ?_
          refine Ev.icmp_ne (tgt := 172) dX6_count_164 (by decide) (fun c10 => ?_) (fun c10 => ?_)
          · replace h := wp_t c10 h
            refine Ev.bipush (v := (-4)) dX6_count_167 rfl ?_
            refine Ev.goto (tgt := 178) dX6_count_169 (by decide) ?_
            exact Ev.ret dX6_count_178 rfl rfl (wp_ret h)
          · replace h := wp_f c10 h
            refine Ev.aload_n dX6_count_172 rfl 0 rfl ?_
            refine Ev.get dX6_count_173 fl_X6_65 rfl (Nat.le_of_ble_eq_true rfl) (v := .ref (ad E 73)) rfl ?_
            refine Ev.iconst (v := 0) dX6_count_176 rfl ?_
            obtain ⟨g11, h⟩ := wp_rd h
            refine Ev.iald dX6_count_177 rfl (Nat.le_of_ble_eq_true rfl) rfl g11 ?_
            refine Ev.topi (fun r12 er12 => ?_)
            replace h := h r12 er12
            exact Ev.ret dX6_count_178 rfl rfl (wp_ret h)
        · replace h := wp_f c7 h
          by_cases c13 : p1 = 4
          · replace h := wp_t c13 h
            refine Ev.tsIn (tgt := 179) dX6_count_77 c13 (by decide) (by decide) rfl (by decide) ?_
            refine Ev.iload_n dX6_count_179 rfl 2 rfl ?_
            exact Ev.ret dX6_count_180 rfl rfl (wp_ret h)
          · replace h := wp_f c13 h
            by_cases c14 : p1 = 5
            · replace h := wp_t c14 h
              refine Ev.tsIn (tgt := 181) dX6_count_77 c14 (by decide) (by decide) rfl (by decide) ?_
              refine Ev.iload_n dX6_count_181 rfl 3 rfl ?_
              exact Ev.ret dX6_count_182 rfl rfl (wp_ret h)
            · replace h := wp_f c14 h
              refine Ev.tsOut (tgt := 183) dX6_count_77 (by have qc1 : ¬ (p1).toInt = 0 := fun q => c1 (Int32.toInt_inj.mp q); have qc2 : ¬ (p1).toInt = 1 := fun q => c2 (Int32.toInt_inj.mp q); have qc6 : ¬ (p1).toInt = 2 := fun q => c6 (Int32.toInt_inj.mp q); have qc7 : ¬ (p1).toInt = 3 := fun q => c7 (Int32.toInt_inj.mp q); have qc13 : ¬ (p1).toInt = 4 := fun q => c13 (Int32.toInt_inj.mp q); have qc14 : ¬ (p1).toInt = 5 := fun q => c14 (Int32.toInt_inj.mp q); omega) (by decide) ?_
              refine Ev.iconst (v := (-1)) dX6_count_183 rfl ?_
              exact Ev.ret dX6_count_184 rfl rfl (wp_ret h)
noncomputable def f_X6_count_42 (p1 : Int32) (M : Mem) : Nat → Int32 → Int32 → Int32 → Option Int32
  | 0, _, _, _ => none
  | n + 1, x2, x3, x4 => if 10 ≤ x4 then f_X6_count_76 p1 M x2 x3 else rd (M 55) 360 (37 + x4) fun r3 => if r3 = 0 then f_X6_count_68 p1 M (f_X6_count_42 p1 M n) x2 x4 x3 0 else f_X6_count_68 p1 M (f_X6_count_42 p1 M n) x2 x4 x3 1
theorem o_X6_count_42 {E : GE} {Q : Option Value → Mem → Prop} {p1 : Int32} {M : Mem} : ∀ (n : Nat) {x2 : Int32} {x3 : Int32} {x4 : Int32}, wp (f_X6_count_42 p1 M n x2 x3 x4) (gI M) Q → Ev E mi_X6_count 42 [(0, .ref (ad E 54)), (1, .int p1), (2, .int x2), (3, .int x3), (4, .int x4)] [] M Q := by
  intro n
  induction n with
  | zero => intro _ _ _ h; exact absurd h wp_none
  | succ n ih =>
    intro x2 x3 x4 h
    unfold f_X6_count_42 at h
    refine Ev.iload dX6_count_42 4 rfl ?_
    refine Ev.bipush (v := 10) dX6_count_44 rfl ?_
    refine Ev.icmp_ge (tgt := 76) dX6_count_46 (by decide) (fun c1 => ?_) (fun c1 => ?_)
    · replace h := wp_t c1 h
      refine Ev.sub [0, 1, 2, 3] rfl ?_
      exact o_X6_count_76 h
    · replace h := wp_f c1 h
      refine Ev.iload_n dX6_count_49 rfl 3 rfl ?_
      refine Ev.aload_n dX6_count_50 rfl 0 rfl ?_
      refine Ev.get dX6_count_51 fl_X6_7 rfl (Nat.le_of_ble_eq_true rfl) (v := .ref (ad E 55)) rfl ?_
      refine Ev.bipush (v := 37) dX6_count_54 rfl ?_
      refine Ev.iload dX6_count_56 4 rfl ?_
      refine Ev.iadd dX6_count_58 ?_
      obtain ⟨g2, h⟩ := wp_rd h
      refine Ev.iald dX6_count_59 rfl (Nat.le_of_ble_eq_true rfl) rfl g2 ?_
      refine Ev.topi (fun r3 er3 => ?_)
      replace h := h r3 er3
      refine Ev.if_eq (tgt := 67) dX6_count_60 (by decide) (fun c4 => ?_) (fun c4 => ?_)
      · replace h := wp_t c4 h
        refine Ev.iconst (v := 0) dX6_count_67 rfl ?_
        refine Ev.sub [0, 1, 2, 4] rfl ?_
        exact o_X6_count_68 (fun _ _ _ h => ih h) h
      · replace h := wp_f c4 h
        refine Ev.iconst (v := 1) dX6_count_63 rfl ?_
        refine Ev.goto (tgt := 68) dX6_count_64 (by decide) ?_
        refine Ev.sub [0, 1, 2, 4] rfl ?_
        exact o_X6_count_68 (fun _ _ _ h => ih h) h
noncomputable def f_X6_count_39 (p1 : Int32) (M : Mem) (x2 : Int32) (x3 : Int32) : Option Int32 := f_X6_count_42 p1 M FU x2 x3 0
theorem o_X6_count_39 {E : GE} {Q : Option Value → Mem → Prop} {p1 : Int32} {M : Mem} {x2 : Int32} {x3 : Int32} (h : wp (f_X6_count_39 p1 M x2 x3) (gI M) Q) : Ev E mi_X6_count 39 [(0, .ref (ad E 54)), (1, .int p1), (2, .int x2), (3, .int x3)] [] M Q := by
  unfold f_X6_count_39 at h
  refine Ev.iconst (v := 0) dX6_count_39 rfl ?_
  refine Ev.istore dX6_count_40 (Nat.le_of_ble_eq_true rfl) rfl ?_
  show Ev E mi_X6_count 42 [(4, .int 0), (0, .ref (ad E 54)), (1, .int p1), (2, .int x2), (3, .int x3)] [] M Q
  refine Ev.sub [1, 2, 3, 4, 0] rfl ?_
  exact o_X6_count_42 FU h
noncomputable def f_X6_count_7 (p1 : Int32) (M : Mem) : Nat → Int32 → Int32 → Int32 → Option Int32
  | 0, _, _, _ => none
  | n + 1, x2, x3, x4 => if (M 54 2) ≤ x4 then f_X6_count_39 p1 M x2 x3 else rd (M 55) 360 ((21 + (4 * x4)) + 3) fun r3 => li (x2 + r3) fun y4 => (f_X6_count_7 p1 M n) y4 x3 (x4 + 1)
theorem o_X6_count_7 {E : GE} {Q : Option Value → Mem → Prop} {p1 : Int32} {M : Mem} : ∀ (n : Nat) {x2 : Int32} {x3 : Int32} {x4 : Int32}, wp (f_X6_count_7 p1 M n x2 x3 x4) (gI M) Q → Ev E mi_X6_count 7 [(0, .ref (ad E 54)), (1, .int p1), (2, .int x2), (3, .int x3), (4, .int x4)] [] M Q := by
  intro n
  induction n with
  | zero => intro _ _ _ h; exact absurd h wp_none
  | succ n ih =>
    intro x2 x3 x4 h
    unfold f_X6_count_7 at h
    refine Ev.iload dX6_count_7 4 rfl ?_
    refine Ev.aload_n dX6_count_9 rfl 0 rfl ?_
    refine Ev.get dX6_count_10 fl_X6_156 rfl (Nat.le_of_ble_eq_true rfl) rfl ?_
    refine Ev.icmp_ge (tgt := 39) dX6_count_13 (by decide) (fun c1 => ?_) (fun c1 => ?_)
    · replace h := wp_t c1 h
      refine Ev.sub [0, 1, 2, 3] rfl ?_
      exact o_X6_count_39 h
    · replace h := wp_f c1 h
      refine Ev.iload_n dX6_count_16 rfl 2 rfl ?_
      refine Ev.aload_n dX6_count_17 rfl 0 rfl ?_
      refine Ev.get dX6_count_18 fl_X6_7 rfl (Nat.le_of_ble_eq_true rfl) (v := .ref (ad E 55)) rfl ?_
      refine Ev.bipush (v := 21) dX6_count_21 rfl ?_
      refine Ev.iconst (v := 4) dX6_count_23 rfl ?_
      refine Ev.iload dX6_count_24 4 rfl ?_
      refine Ev.imul dX6_count_26 ?_
      refine Ev.iadd dX6_count_27 ?_
      refine Ev.iconst (v := 3) dX6_count_28 rfl ?_
      refine Ev.iadd dX6_count_29 ?_
      obtain ⟨g2, h⟩ := wp_rd h
      refine Ev.iald dX6_count_30 rfl (Nat.le_of_ble_eq_true rfl) rfl g2 ?_
      refine Ev.topi (fun r3 er3 => ?_)
      replace h := h r3 er3
      refine Ev.iadd dX6_count_31 ?_
      refine Ev.topi (fun y4 ey4 => ?_)
      replace h := wp_li h y4 ey4
      refine Ev.istore_n dX6_count_32 rfl (Nat.le_of_ble_eq_true rfl) rfl ?_
      show Ev E mi_X6_count 33 [(2, .int y4), (0, .ref (ad E 54)), (1, .int p1), (3, .int x3), (4, .int x4)] [] M Q
      refine Ev.iinc (v := x4 + 1) dX6_count_33 4 rfl rfl (Nat.le_of_ble_eq_true rfl) rfl ?_
      show Ev E mi_X6_count 36 [(4, .int (x4 + 1)), (2, .int y4), (0, .ref (ad E 54)), (1, .int p1), (3, .int x3)] [] M Q
      refine Ev.goto (tgt := 7) dX6_count_36 (by decide) ?_
      refine Ev.sub [2, 3, 1, 4, 0] rfl ?_
      exact ih h
noncomputable def f_X6_count (p1 : Int32) (M : Mem) : Option Int32 := f_X6_count_7 p1 M FU 0 0 0
theorem o_X6_count {E : GE} {Q : Option Value → Mem → Prop} {p1 : Int32} {M : Mem} (h : wp (f_X6_count p1 M) (gI M) Q) : Runs E mi_X6_count [.ref (ad E 54), .int p1] M Q := by
  refine Runs.ofEv (by decide +kernel) (Nat.le_of_ble_eq_true rfl) ?_
  show Ev E mi_X6_count 0 [(0, .ref (ad E 54)), (1, .int p1)] [] M Q
  unfold f_X6_count at h
  refine Ev.iconst (v := 0) dX6_count_0 rfl ?_
  refine Ev.istore_n dX6_count_1 rfl (Nat.le_of_ble_eq_true rfl) rfl ?_
  show Ev E mi_X6_count 2 [(2, .int 0), (0, .ref (ad E 54)), (1, .int p1)] [] M Q
  refine Ev.iconst (v := 0) dX6_count_2 rfl ?_
  refine Ev.istore_n dX6_count_3 rfl (Nat.le_of_ble_eq_true rfl) rfl ?_
  show Ev E mi_X6_count 4 [(3, .int 0), (2, .int 0), (0, .ref (ad E 54)), (1, .int p1)] [] M Q
  refine Ev.iconst (v := 0) dX6_count_4 rfl ?_
  refine Ev.istore dX6_count_5 (Nat.le_of_ble_eq_true rfl) rfl ?_
  show Ev E mi_X6_count 7 [(4, .int 0), (3, .int 0), (2, .int 0), (0, .ref (ad E 54)), (1, .int p1)] [] M Q
  refine Ev.sub [3, 4, 2, 1, 0] rfl ?_
  exact o_X6_count_7 FU h
