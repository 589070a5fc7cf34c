/-! plain tools for the functions -/
theorem inb_ok {α : Type} {j n : Nat} {x : Option α} (h : j < n) (hn : n < 2 ^ 31) : inb (nI j) n x = x := by
  unfold inb
  exact if_neg (nI_in h hn)
theorem rd_ok {α : Type} {f : Nat → Int32} {j n : Nat} {k : Int32 → Option α} (h : j < n) (hn : n < 2 ^ 31) : rd f n (nI j) k = k (f j) := by
  unfold rd
  rw [if_neg (nI_in h hn), nI_clamp (by omega)]
def fill (M : Mem) (c a b : Nat) (v : Int32) : Mem := fun c' i => if c' = c ∧ a ≤ i ∧ i < b then v else M c' i
theorem fill_end (M : Mem) (c a : Nat) (v : Int32) : fill M c a a v = M := by
  funext c' i
  unfold fill
  exact if_neg (by omega)
theorem fill_step (M : Mem) (c : Nat) {a b : Nat} (v : Int32) (h : a < b) : fill (up M c a v) c (a + 1) b v = fill M c a b v := by
  funext c' i
  unfold fill
  by_cases h1 : c' = c
  · subst h1
    by_cases h2 : i = a
    · subst h2
      rw [if_neg (by omega), if_pos ⟨rfl, Nat.le_refl _, h⟩, up_same]
    · rw [up_slot h2]
      by_cases h3 : a ≤ i ∧ i < b
      · rw [if_pos ⟨rfl, by omega, h3.2⟩, if_pos ⟨rfl, h3.1, h3.2⟩]
      · rw [if_neg (by omega), if_neg (by omega)]
  · rw [if_neg (fun q => h1 q.1), if_neg (fun q => h1 q.1), up_cell h1]
theorem emp38 (k : Nat) : ∀ (n j : Nat) (M : Mem), j ≤ 24 → 24 - j < n → f_X2_empty_38 k n (nI j) M = some (fill M (k + 4) j 24 0) := by
  intro n
  induction n with
  | zero => intro j M h1 h2; omega
  | succ n ih =>
    intro j M h1 h2
    unfold f_X2_empty_38
    rw [show (24 : Int32) = nI 24 from rfl]
    by_cases hj : j = 24
    · subst hj
      rw [if_pos ((nI_leI (by omega) (by omega)).mpr (Nat.le_refl _)), fill_end]
    · rw [if_neg (fun q => absurd ((nI_leI (by omega) (by omega)).mp q) (by omega)), inb_ok (by omega) (by omega)]
      dsimp only [lm]
      rw [nI_clamp (by omega), nI_1, ih (j + 1) _ (by omega) (by omega), fill_step _ _ _ (by omega)]
theorem emp17 (k : Nat) : ∀ (n j : Nat) (M : Mem), j ≤ 10 → 10 - j < n → f_X2_empty_17 k n (nI j) M = f_X2_empty_36 k (fill M (k + 3) j 10 2) := by
  intro n
  induction n with
  | zero => intro j M h1 h2; omega
  | succ n ih =>
    intro j M h1 h2
    unfold f_X2_empty_17
    rw [show (10 : Int32) = nI 10 from rfl]
    by_cases hj : j = 10
    · subst hj
      rw [if_pos ((nI_leI (by omega) (by omega)).mpr (Nat.le_refl _)), fill_end]
    · rw [if_neg (fun q => absurd ((nI_leI (by omega) (by omega)).mp q) (by omega)), inb_ok (by omega) (by omega)]
      dsimp only [lm]
      rw [nI_clamp (by omega), nI_1, ih (j + 1) _ (by omega) (by omega), fill_step _ _ _ (by omega)]
def mEmpty (k : Nat) (M : Mem) : Mem := fill (fill (up (up (up M k 4 0) k 5 0) k 6 0) (k + 3) 0 10 2) (k + 4) 0 24 0
theorem f_empty_eq (k : Nat) (M : Mem) : f_X2_empty k M = some (mEmpty k M) := by
  have h1 := emp17 k FU 0 (up (up (up M k 4 0) k 5 0) k 6 0) (by omega) (FU_gt (by omega))
  have h2 := emp38 k FU 0 (fill (up (up (up M k 4 0) k 5 0) k 6 0) (k + 3) 0 10 2) (by omega) (FU_gt (by omega))
  rw [nI_0] at h1 h2
  unfold f_X2_empty
  dsimp only [lm]
  rw [h1]
  unfold f_X2_empty_36
  rw [h2]
  rfl
theorem fvR_ref {E : GE} {R : RM} {k c j q : Nat} {f : Nat → Int32} (h : R k j = some q) (hr : isRefF c j = true) : fvR E R k c f j = .ref (ad E q) := by
  simp [fvR, hr, h, va_rf]
theorem Ec.topM {E : GE} {B : Nat} {y : MI} {pc : Nat} {lv : List (Nat × Value)} {stk : List Value} {n cs ss : Nat} {R : RM} {M : Mem} {Q : Nat → RM → Mem → Prop} (k : ∀ z : Mem, z = M → Ec E B y pc lv stk n cs ss R z Q) : Ec E B y pc lv stk n cs ss R M Q := k M rfl
theorem new_ty0 : ∀ j, j < 6 → defaultValue (tyX0 j) = if isRefF 0 j = true then .null else .int 0 := by decide +kernel
theorem new_ty1 : ∀ j, j < 7 → defaultValue (tyX1 j) = if isRefF 1 j = true then .null else .int 0 := by decide +kernel
theorem new_ty2 : ∀ j, j < 7 → defaultValue (tyX2 j) = if isRefF 2 j = true then .null else .int 0 := by decide +kernel
theorem new_ty3 : ∀ j, j < 3 → defaultValue (tyX3 j) = if isRefF 3 j = true then .null else .int 0 := by decide +kernel
theorem new_ty4 : ∀ j, j < 6 → defaultValue (tyX4 j) = if isRefF 4 j = true then .null else .int 0 := by decide +kernel
theorem new_ty5 : ∀ j, j < 17 → defaultValue (tyX5 j) = if isRefF 5 j = true then .null else .int 0 := by decide +kernel
theorem new_ty6 : ∀ j, j < 36 → defaultValue (tyX6 j) = if isRefF 6 j = true then .null else .int 0 := by decide +kernel
theorem k_X2_empty_38 {E : GE} {B nn : Nat} {R : RM} {Q : Nat → RM → Mem → Prop} {k0 : Nat} (gk0 : isSea k0) (gn : nn = k0 + 5) (gR2 : R k0 2 = some (k0 + 3)) (gR3 : R k0 3 = some (k0 + 4)) : ∀ (n : Nat) {x1 : Int32} {M : Mem}, wp (f_X2_empty_38 k0 n x1 M) gVM (fun _ M9 => Q nn R M9) → Ec E B mi_X2_empty 38 [(0, .ref (ad E k0)), (1, .int x1)] [] nn 0 0 R M Q := by
  intro n
  induction n with
  | zero => intro _ _ h; exact absurd h wp_none
  | succ n ih =>
    intro x1 M h
    unfold f_X2_empty_38 at h
    refine Ec.iload_n dX2_empty_38 rfl 1 rfl ?_
    refine Ec.bipush (v := 24) dX2_empty_39 rfl ?_
    refine Ec.icmp_ge (tgt := 57) dX2_empty_41 (by decide) (fun c1 => ?_) (fun c1 => ?_)
    · replace h := wp_t c1 h
      exact Ec.vret dX2_empty_57 rfl rfl rfl (wp_ret h)
    · replace h := wp_f c1 h
      refine Ec.aload_n dX2_empty_44 rfl 0 rfl ?_
      refine Ec.get dX2_empty_45 fl_X2_21 (sea_k0 gk0) (by omega) (fvR_ref gR3 rfl) ?_
      refine Ec.iload_n dX2_empty_48 rfl 1 rfl ?_
      refine Ec.iconst (v := 0) dX2_empty_49 rfl ?_
      obtain ⟨g2, h⟩ := wp_inb h
      refine Ec.iast dX2_empty_50 (sea_k4x gk0) (by omega) (sea_l4 gk0) g2 ?_
      refine Ec.topM (fun M3 eM3 => ?_)
      replace h := wp_lm h M3 eM3
      refine Ec.iinc (v := x1 + 1) dX2_empty_51 1 rfl rfl (Nat.le_of_ble_eq_true rfl) rfl ?_
      show Ec E B mi_X2_empty 54 [(1, .int (x1 + 1)), (0, .ref (ad E k0))] [] nn 0 0 R M3 Q
      refine Ec.goto (tgt := 38) dX2_empty_54 (by decide) ?_
      refine Ec.sub [1, 0] rfl ?_
      exact ih h
theorem k_X2_empty_36 {E : GE} {B nn : Nat} {R : RM} {Q : Nat → RM → Mem → Prop} {k0 : Nat} {M : Mem} (gk0 : isSea k0) (gn : nn = k0 + 5) (gR2 : R k0 2 = some (k0 + 3)) (gR3 : R k0 3 = some (k0 + 4)) (h : wp (f_X2_empty_36 k0 M) gVM (fun _ M9 => Q nn R M9)) : Ec E B mi_X2_empty 36 [(0, .ref (ad E k0))] [] nn 0 0 R M Q := by
  unfold f_X2_empty_36 at h
  refine Ec.iconst (v := 0) dX2_empty_36 rfl ?_
  refine Ec.istore_n dX2_empty_37 rfl (Nat.le_of_ble_eq_true rfl) rfl ?_
  show Ec E B mi_X2_empty 38 [(1, .int 0), (0, .ref (ad E k0))] [] nn 0 0 R M Q
  refine Ec.sub [1, 0] rfl ?_
  exact k_X2_empty_38 gk0 gn gR2 gR3 FU h
theorem k_X2_empty_17 {E : GE} {B nn : Nat} {R : RM} {Q : Nat → RM → Mem → Prop} {k0 : Nat} (gk0 : isSea k0) (gn : nn = k0 + 5) (gR2 : R k0 2 = some (k0 + 3)) (gR3 : R k0 3 = some (k0 + 4)) : ∀ (n : Nat) {x1 : Int32} {M : Mem}, wp (f_X2_empty_17 k0 n x1 M) gVM (fun _ M9 => Q nn R M9) → Ec E B mi_X2_empty 17 [(0, .ref (ad E k0)), (1, .int x1)] [] nn 0 0 R M Q := by
  intro n
  induction n with
  | zero => intro _ _ h; exact absurd h wp_none
  | succ n ih =>
    intro x1 M h
    unfold f_X2_empty_17 at h
    refine Ec.iload_n dX2_empty_17 rfl 1 rfl ?_
    refine Ec.bipush (v := 10) dX2_empty_18 rfl ?_
    refine Ec.icmp_ge (tgt := 36) dX2_empty_20 (by decide) (fun c1 => ?_) (fun c1 => ?_)
    · replace h := wp_t c1 h
      refine Ec.sub [0] rfl ?_
      exact k_X2_empty_36 gk0 gn gR2 gR3 h
    · replace h := wp_f c1 h
      refine Ec.aload_n dX2_empty_23 rfl 0 rfl ?_
      refine Ec.get dX2_empty_24 fl_X2_18 (sea_k0 gk0) (by omega) (fvR_ref gR2 rfl) ?_
      refine Ec.iload_n dX2_empty_27 rfl 1 rfl ?_
      refine Ec.iconst (v := 2) dX2_empty_28 rfl ?_
      obtain ⟨g2, h⟩ := wp_inb h
      refine Ec.iast dX2_empty_29 (sea_k3x gk0) (by omega) (sea_l3 gk0) g2 ?_
      refine Ec.topM (fun M3 eM3 => ?_)
      replace h := wp_lm h M3 eM3
      refine Ec.iinc (v := x1 + 1) dX2_empty_30 1 rfl rfl (Nat.le_of_ble_eq_true rfl) rfl ?_
      show Ec E B mi_X2_empty 33 [(1, .int (x1 + 1)), (0, .ref (ad E k0))] [] nn 0 0 R M3 Q
      refine Ec.goto (tgt := 17) dX2_empty_33 (by decide) ?_
      refine Ec.sub [1, 0] rfl ?_
      exact ih h
theorem k_X2_empty {E : GE} {B nn : Nat} {R : RM} {Q : Nat → RM → Mem → Prop} {k0 : Nat} {M : Mem} (gk0 : isSea k0) (gn : nn = k0 + 5) (gR2 : R k0 2 = some (k0 + 3)) (gR3 : R k0 3 = some (k0 + 4)) (h : wp (f_X2_empty k0 M) gVM (fun _ M9 => Q nn R M9)) : RunsC E B mi_X2_empty [.ref (ad E k0)] nn R M Q := by
  refine RunsC.ofEc (by decide +kernel) (Nat.le_of_ble_eq_true rfl) ?_
  show Ec E B mi_X2_empty 0 [(0, .ref (ad E k0))] [] nn 0 0 R M Q
  unfold f_X2_empty at h
  refine Ec.aload_n dX2_empty_0 rfl 0 rfl ?_
  refine Ec.iconst (v := 0) dX2_empty_1 rfl ?_
  refine Ec.putA dX2_empty_2 fl_X2_27 (sea_k0 gk0) (by omega) rfl rfl pf_I rfl rfl ?_
  refine Ec.topM (fun M1 eM1 => ?_)
  replace h := wp_lm h M1 eM1
  refine Ec.aload_n dX2_empty_5 rfl 0 rfl ?_
  refine Ec.iconst (v := 0) dX2_empty_6 rfl ?_
  refine Ec.putA dX2_empty_7 fl_X2_31 (sea_k0 gk0) (by omega) rfl rfl pf_I rfl rfl ?_
  refine Ec.topM (fun M2 eM2 => ?_)
  replace h := wp_lm h M2 eM2
  refine Ec.aload_n dX2_empty_10 rfl 0 rfl ?_
  refine Ec.iconst (v := 0) dX2_empty_11 rfl ?_
  refine Ec.putA dX2_empty_12 fl_X2_34 (sea_k0 gk0) (by omega) rfl rfl pf_I rfl rfl ?_
  refine Ec.topM (fun M3 eM3 => ?_)
  replace h := wp_lm h M3 eM3
  refine Ec.iconst (v := 0) dX2_empty_15 rfl ?_
  refine Ec.istore_n dX2_empty_16 rfl (Nat.le_of_ble_eq_true rfl) rfl ?_
  show Ec E B mi_X2_empty 17 [(1, .int 0), (0, .ref (ad E k0))] [] nn 0 0 R M3 Q
  refine Ec.sub [1, 0] rfl ?_
  exact k_X2_empty_17 gk0 gn gR2 gR3 FU h

abbrev mi_X4_init : MI := (yX4_init, cX4_init, 1, none, { frames := 1, cells := 1, slots := 160, locals := 12 })
theorem mcc_X4_init : MCC mi_X4_init 0 := ⟨⟨gw_of (q1_in _ (List.mem_of_getElem? (i := 3) rfl)) rfl, gw_of (q1_in _ (List.mem_of_getElem? (i := 33) rfl)) rfl⟩, rfl, by decide +kernel, by decide +kernel, by decide +kernel, gw_of (q1_in _ (List.mem_of_getElem? (i := 32) rfl)) rfl⟩
abbrev mi_X2_init : MI := (yX2_init, cX2_init, 1, none, { frames := 1, cells := 4, slots := 70, locals := 21 })
theorem mcc_X2_init : MCC mi_X2_init 0 := ⟨⟨gw_of (q1_in _ (List.mem_of_getElem? (i := 4) rfl)) rfl, gw_of (q1_in _ (List.mem_of_getElem? (i := 63) rfl)) rfl⟩, rfl, by decide +kernel, by decide +kernel, by decide +kernel, gw_of (q1_in _ (List.mem_of_getElem? (i := 62) rfl)) rfl⟩
abbrev mi_X1_init : MI := (yX1_init, cX1_init, 1, none, { frames := 2, cells := 7, slots := 243, locals := 41 })
theorem mcc_X1_init : MCC mi_X1_init 0 := ⟨⟨gw_of (q1_in _ (List.mem_of_getElem? (i := 2) rfl)) rfl, gw_of (q1_in _ (List.mem_of_getElem? (i := 27) rfl)) rfl⟩, rfl, by decide +kernel, by decide +kernel, by decide +kernel, gw_of (q1_in _ (List.mem_of_getElem? (i := 26) rfl)) rfl⟩
abbrev mi_X3_init : MI := (yX3_init, cX3_init, 1, none, { frames := 1, cells := 1, slots := 40, locals := 12 })
theorem mcc_X3_init : MCC mi_X3_init 0 := ⟨⟨gw_of (q1_in _ (List.mem_of_getElem? (i := 5) rfl)) rfl, gw_of (q1_in _ (List.mem_of_getElem? (i := 139) rfl)) rfl⟩, rfl, by decide +kernel, by decide +kernel, by decide +kernel, gw_of (q1_in _ (List.mem_of_getElem? (i := 138) rfl)) rfl⟩
abbrev mi_X0_init : MI := (yX0_init, cX0_init, 1, none, { frames := 1, cells := 6, slots := 24, locals := 12 })
theorem mcc_X0_init : MCC mi_X0_init 0 := ⟨⟨gw_of (q1_in _ (List.mem_of_getElem? (i := 6) rfl)) rfl, gw_of (q1_in _ (List.mem_of_getElem? (i := 159) rfl)) rfl⟩, rfl, by decide +kernel, by decide +kernel, by decide +kernel, gw_of (q1_in _ (List.mem_of_getElem? (i := 158) rfl)) rfl⟩
abbrev mi_X5_init : MI := (yX5_init, cX5_init, 1, none, { frames := 3, cells := 53, slots := 1014, locals := 61 })
theorem mcc_X5_init : MCC mi_X5_init 0 := ⟨⟨gw_of (q1_in _ (List.mem_of_getElem? (i := 1) rfl)) rfl, gw_of (q1_in _ (List.mem_of_getElem? (i := 19) rfl)) rfl⟩, rfl, by decide +kernel, by decide +kernel, by decide +kernel, gw_of (q1_in _ (List.mem_of_getElem? (i := 18) rfl)) rfl⟩
abbrev mi_X6_init : MI := (yX6_init, cX6_init, 1, none, { frames := 1, cells := 20, slots := 1155, locals := 12 })
theorem mcc_X6_init : MCC mi_X6_init 0 := ⟨⟨gw_of (q1_in _ (List.mem_of_getElem? (i := 7) rfl)) rfl, gw_of (q4_in _ (List.mem_of_getElem? (i := 31) rfl)) rfl⟩, rfl, by decide +kernel, by decide +kernel, by decide +kernel, gw_of (q4_in _ (List.mem_of_getElem? (i := 30) rfl)) rfl⟩
theorem mcc_X2_empty : MCC mi_X2_empty 0 := ⟨⟨mok_X2_empty.1.1.1, mok_X2_empty.1.1.2⟩, rfl, by decide +kernel, by decide +kernel, by decide +kernel, mok_X2_empty.2.1⟩
theorem obj_i : Cond.instanceMethod objectInit ∈ gwL := gw_of (q1_in _ (List.mem_of_getElem? (i := 21) rfl)) rfl
theorem obj_c : Cond.code objectInit ⟨#[0xb1]⟩ 1 none ∈ gwL := gw_of (q1_in _ (List.mem_of_getElem? (i := 22) rfl)) rfl
theorem arr_I : Cond.arrayClass .int ∈ gwL := gw_of (q1_in _ (List.mem_of_getElem? (i := 58) rfl)) rfl
theorem arr_Z : Cond.arrayClass .boolean ∈ gwL := gw_of (q1_in _ (List.mem_of_getElem? (i := 154) rfl)) rfl
theorem ko_X4 : Cond.methodLink RX4 3 objectInit ∈ gwL := gw_of (q1_in _ (List.mem_of_getElem? (i := 34) rfl)) rfl
theorem kl_X4_9 : FLk RX4 9 4 0 := ⟨_, _, _, rfl, Nat.le_of_ble_eq_true rfl, rfl, gw_of (q1_in _ (List.mem_of_getElem? (i := 35) rfl)) rfl⟩
theorem kp_X4_0 : parseFieldDescriptor "[I" = some (tyX4 0) := by decide +kernel
def mX4_init (M : Mem) : Mem := (upR M 3 (fun _ => 0))
def rX4_init (R : RM) : RM := (upO (upOR R 3 (fun _ => none)) 2 0 (some 3))
theorem k_X4_init {E : GE} {B : Nat} {R : RM} {M : Mem} {Q : Nat → RM → Mem → Prop} (h : Q 4 (rX4_init R) (mX4_init M)) : RunsC E B mi_X4_init [.ref (ad E 2)] 3 R M Q := by
  refine RunsC.ofEc (by decide +kernel) (Nat.le_of_ble_eq_true rfl) ?_
  show Ec E B mi_X4_init 0 [(0, .ref (ad E 2))] [] 3 0 0 R M Q
  refine Ec.aload_n dX4_init_0 rfl 0 rfl ?_
  refine Ec.obj dX4_init_1 ko_X4 obj_i obj_c ⟨Nat.le_of_ble_eq_true rfl, Nat.le_of_ble_eq_true rfl⟩ ?_
  refine Ec.aload_n dX4_init_4 rfl 0 rfl ?_
  refine Ec.sipush (v := 160) dX4_init_5 rfl ?_
  refine Ec.newI (N := 160) dX4_init_8 rfl rfl (by decide) rfl (Nat.le_of_ble_eq_true rfl) arr_I (Nat.le_of_ble_eq_true rfl) (Nat.le_of_ble_eq_true rfl) ?_
  refine Ec.putR dX4_init_10 kl_X4_9 rfl (Nat.le_of_ble_eq_true rfl) rfl rfl kp_X4_0 rfl rfl rfl rfl ?_
  exact Ec.vret dX4_init_13 rfl rfl rfl h
theorem ko_X2 : Cond.methodLink RX2 3 objectInit ∈ gwL := gw_of (q1_in _ (List.mem_of_getElem? (i := 64) rfl)) rfl
theorem kl_X2_9 : FLk RX2 9 2 0 := ⟨_, _, _, rfl, Nat.le_of_ble_eq_true rfl, rfl, gw_of (q1_in _ (List.mem_of_getElem? (i := 69) rfl)) rfl⟩
theorem kp_X2_0 : parseFieldDescriptor "[I" = some (tyX2 0) := by decide +kernel
theorem kl_X2_15 : FLk RX2 15 2 1 := ⟨_, _, _, rfl, Nat.le_of_ble_eq_true rfl, rfl, gw_of (q1_in _ (List.mem_of_getElem? (i := 70) rfl)) rfl⟩
theorem kp_X2_1 : parseFieldDescriptor "[I" = some (tyX2 1) := by decide +kernel
theorem kl_X2_18 : FLk RX2 18 2 2 := ⟨_, _, _, rfl, Nat.le_of_ble_eq_true rfl, rfl, gw_of (q1_in _ (List.mem_of_getElem? (i := 71) rfl)) rfl⟩
theorem kp_X2_2 : parseFieldDescriptor "[I" = some (tyX2 2) := by decide +kernel
theorem kl_X2_21 : FLk RX2 21 2 3 := ⟨_, _, _, rfl, Nat.le_of_ble_eq_true rfl, rfl, gw_of (q1_in _ (List.mem_of_getElem? (i := 75) rfl)) rfl⟩
theorem kp_X2_3 : parseFieldDescriptor "[I" = some (tyX2 3) := by decide +kernel
theorem kc_X2_24 : CLk RX2 24 mi_X2_empty := gw_of (q1_in _ (List.mem_of_getElem? (i := 65) rfl)) rfl
def mX2_init (k0 : Nat) (M : Mem) : Mem := (mEmpty k0 (upR (upR (upR (upR M (k0 + 1) (fun _ => 0)) (k0 + 2) (fun _ => 0)) (k0 + 3) (fun _ => 0)) (k0 + 4) (fun _ => 0)))
def rX2_init (k0 : Nat) (R : RM) : RM := (upO (upOR (upO (upOR (upO (upOR (upO (upOR R (k0 + 1) (fun _ => none)) k0 0 (some (k0 + 1))) (k0 + 2) (fun _ => none)) k0 1 (some (k0 + 2))) (k0 + 3) (fun _ => none)) k0 2 (some (k0 + 3))) (k0 + 4) (fun _ => none)) k0 3 (some (k0 + 4)))
theorem k_X2_init {E : GE} {B : Nat} {R : RM} {M : Mem} {Q : Nat → RM → Mem → Prop} {k0 : Nat} (gk0 : isSea k0) (h : Q (k0 + 5) (rX2_init k0 R) (mX2_init k0 M)) : RunsC E B mi_X2_init [.ref (ad E k0)] (k0 + 1) R M Q := by
  refine RunsC.ofEc (by decide +kernel) (Nat.le_of_ble_eq_true rfl) ?_
  show Ec E B mi_X2_init 0 [(0, .ref (ad E k0))] [] (k0 + 1) 0 0 R M Q
  refine Ec.aload_n dX2_init_0 rfl 0 rfl ?_
  refine Ec.obj dX2_init_1 ko_X2 obj_i obj_c ⟨Nat.le_of_ble_eq_true rfl, Nat.le_of_ble_eq_true rfl⟩ ?_
  refine Ec.aload_n dX2_init_4 rfl 0 rfl ?_
  refine Ec.bipush (v := 20) dX2_init_5 rfl ?_
  refine Ec.newI (N := 20) dX2_init_7 (sea_k1x gk0) (sea_l1 gk0) (by decide) rfl (Nat.le_of_ble_eq_true rfl) arr_I (Nat.le_of_ble_eq_true rfl) (Nat.le_of_ble_eq_true rfl) ?_
  refine Ec.putR dX2_init_9 kl_X2_9 (sea_k0 gk0) (by omega) rfl rfl kp_X2_0 rfl rfl rfl rfl ?_
  refine Ec.aload_n dX2_init_12 rfl 0 rfl ?_
  refine Ec.bipush (v := 16) dX2_init_13 rfl ?_
  refine Ec.newI (N := 16) dX2_init_15 (sea_k2x gk0) (sea_l2 gk0) (by decide) rfl (Nat.le_of_ble_eq_true rfl) arr_I (Nat.le_of_ble_eq_true rfl) (Nat.le_of_ble_eq_true rfl) ?_
  refine Ec.putR dX2_init_17 kl_X2_15 (sea_k0 gk0) (by omega) rfl rfl kp_X2_1 rfl rfl rfl rfl ?_
  refine Ec.aload_n dX2_init_20 rfl 0 rfl ?_
  refine Ec.bipush (v := 10) dX2_init_21 rfl ?_
  refine Ec.newI (N := 10) dX2_init_23 (sea_k3x gk0) (sea_l3 gk0) (by decide) rfl (Nat.le_of_ble_eq_true rfl) arr_I (Nat.le_of_ble_eq_true rfl) (Nat.le_of_ble_eq_true rfl) ?_
  refine Ec.putR dX2_init_25 kl_X2_18 (sea_k0 gk0) (by omega) rfl rfl kp_X2_2 rfl rfl rfl rfl ?_
  refine Ec.aload_n dX2_init_28 rfl 0 rfl ?_
  refine Ec.bipush (v := 24) dX2_init_29 rfl ?_
  refine Ec.newI (N := 24) dX2_init_31 (sea_k4x gk0) (sea_l4 gk0) (by decide) rfl (Nat.le_of_ble_eq_true rfl) arr_I (Nat.le_of_ble_eq_true rfl) (Nat.le_of_ble_eq_true rfl) ?_
  refine Ec.putR dX2_init_33 kl_X2_21 (sea_k0 gk0) (by omega) rfl rfl kp_X2_3 rfl rfl rfl rfl ?_
  refine Ec.aload_n dX2_init_36 rfl 0 rfl ?_
  refine Ec.callE (k := k0) (cs2 := 4) (ss2 := 70) dX2_init_37 kc_X2_24 mcc_X2_empty mok_X2_empty.2.2 (sea_k7 gk0) (by omega) (sea_cl gk0) ⟨⟨Nat.le_of_ble_eq_true rfl, Nat.le_of_ble_eq_true rfl⟩, Nat.le_of_ble_eq_true rfl, Nat.le_of_ble_eq_true rfl⟩ rfl rfl (k_X2_empty gk0 rfl (by simp [upO, upOR, show ¬ k0 = k0 + 1 + 1 + 1 + 1 by omega, show ¬ k0 = k0 + 1 + 1 + 1 by omega, show ¬ k0 = k0 + 1 + 1 by omega]) (by simp [upO, upOR, show ¬ k0 = k0 + 1 + 1 + 1 + 1 by omega, show ¬ k0 = k0 + 1 + 1 + 1 by omega, show ¬ k0 = k0 + 1 + 1 by omega]) ⟨_, f_empty_eq k0 _, ?_⟩)
  show Ec E B mi_X2_init 40 _ _ _ _ _ _ _ Q
  exact Ec.vret dX2_init_40 rfl rfl rfl h
theorem ko_X1 : Cond.methodLink RX1 3 objectInit ∈ gwL := gw_of (q1_in _ (List.mem_of_getElem? (i := 28) rfl)) rfl
theorem nk_X1_9 : Cond.classLink RX1 9 "FlotsamWill$Tape" ∈ gwL := gw_of (q1_in _ (List.mem_of_getElem? (i := 29) rfl)) rfl
theorem ni_X4 : Cond.instantiable RX4 6 ∈ gwL := gw_of (q1_in _ (List.mem_of_getElem? (i := 30) rfl)) rfl
theorem nn_X4 : Cond.initialized RX4 ∈ gwL := gw_of (q1_in _ (List.mem_of_getElem? (i := 3) rfl)) rfl
theorem kn_X1_11 : CNk RX1 11 mi_X4_init := List.mem_of_getElem? (i := 1) rfl
theorem kl_X1_12 : FLk RX1 12 1 0 := ⟨_, _, _, rfl, Nat.le_of_ble_eq_true rfl, rfl, gw_of (q1_in _ (List.mem_of_getElem? (i := 105) rfl)) rfl⟩
theorem kp_X1_0 : parseFieldDescriptor "LFlotsamWill$Tape;" = some (tyX1 0) := by decide +kernel
theorem nk_X1_18 : Cond.classLink RX1 18 "FlotsamWill$Sea" ∈ gwL := gw_of (q1_in _ (List.mem_of_getElem? (i := 59) rfl)) rfl
theorem ni_X2 : Cond.instantiable RX2 7 ∈ gwL := gw_of (q1_in _ (List.mem_of_getElem? (i := 60) rfl)) rfl
theorem nn_X2 : Cond.initialized RX2 ∈ gwL := gw_of (q1_in _ (List.mem_of_getElem? (i := 4) rfl)) rfl
theorem kn_X1_20 : CNk RX1 20 mi_X2_init := List.mem_of_getElem? (i := 2) rfl
theorem kl_X1_21 : FLk RX1 21 1 1 := ⟨_, _, _, rfl, Nat.le_of_ble_eq_true rfl, rfl, gw_of (q1_in _ (List.mem_of_getElem? (i := 107) rfl)) rfl⟩
theorem kp_X1_1 : parseFieldDescriptor "LFlotsamWill$Sea;" = some (tyX1 1) := by decide +kernel
def mX1_init (M : Mem) : Mem := (mX2_init 4 (upR (mX4_init (upR M 2 (fun _ => 0))) 4 (fun _ => 0)))
def rX1_init (R : RM) : RM := (upO (rX2_init 4 (upOR (upO (rX4_init (upOR R 2 (fun _ => none))) 1 0 (some 2)) 4 (fun _ => none))) 1 1 (some 4))
theorem k_X1_init {E : GE} {B : Nat} {R : RM} {M : Mem} {Q : Nat → RM → Mem → Prop} (h : Q 9 (rX1_init R) (mX1_init M)) : RunsC E B mi_X1_init [.ref (ad E 1)] 2 R M Q := by
  refine RunsC.ofEc (by decide +kernel) (Nat.le_of_ble_eq_true rfl) ?_
  show Ec E B mi_X1_init 0 [(0, .ref (ad E 1))] [] 2 0 0 R M Q
  refine Ec.aload_n dX1_init_0 rfl 0 rfl ?_
  refine Ec.obj dX1_init_1 ko_X1 obj_i obj_c ⟨Nat.le_of_ble_eq_true rfl, Nat.le_of_ble_eq_true rfl⟩ ?_
  refine Ec.aload_n dX1_init_4 rfl 0 rfl ?_
  refine Ec.new (c := 4) dX1_init_5 rfl rfl nk_X1_9 ni_X4 nn_X4 tyX4 tyX4_ok new_ty4 (Nat.le_of_ble_eq_true rfl) (Nat.le_of_ble_eq_true rfl) ?_
  refine Ec.dup dX1_init_8 rfl ?_
  refine Ec.initN (k := 2) (as := []) (rest := [.ref (ad E 2), .ref (ad E 1)]) (cs2 := 2) (ss2 := 166) dX1_init_9 kn_X1_11 mcc_X4_init rfl ⟨⟨Nat.le_of_ble_eq_true rfl, Nat.le_of_ble_eq_true rfl⟩, Nat.le_of_ble_eq_true rfl, Nat.le_of_ble_eq_true rfl⟩ (Nat.le_of_ble_eq_true rfl) rfl rfl rfl rfl (k_X4_init ?_)
  refine Ec.putR dX1_init_12 kl_X1_12 rfl (Nat.le_of_ble_eq_true rfl) rfl rfl kp_X1_0 rfl rfl rfl rfl ?_
  refine Ec.aload_n dX1_init_15 rfl 0 rfl ?_
  refine Ec.new (c := 2) dX1_init_16 rfl rfl nk_X1_18 ni_X2 nn_X2 tyX2 tyX2_ok new_ty2 (Nat.le_of_ble_eq_true rfl) (Nat.le_of_ble_eq_true rfl) ?_
  refine Ec.dup dX1_init_19 rfl ?_
  refine Ec.initN (k := 4) (as := []) (rest := [.ref (ad E 4), .ref (ad E 1)]) (cs2 := 7) (ss2 := 243) dX1_init_20 kn_X1_20 mcc_X2_init rfl ⟨⟨Nat.le_of_ble_eq_true rfl, Nat.le_of_ble_eq_true rfl⟩, Nat.le_of_ble_eq_true rfl, Nat.le_of_ble_eq_true rfl⟩ (Nat.le_of_ble_eq_true rfl) rfl rfl rfl rfl (k_X2_init sea_4 ?_)
  refine Ec.putR dX1_init_23 kl_X1_21 rfl (Nat.le_of_ble_eq_true rfl) rfl rfl kp_X1_1 rfl rfl rfl rfl ?_
  exact Ec.vret dX1_init_26 rfl rfl rfl h
theorem ko_X3 : Cond.methodLink RX3 3 objectInit ∈ gwL := gw_of (q1_in _ (List.mem_of_getElem? (i := 140) rfl)) rfl
theorem kl_X3_9 : FLk RX3 9 3 0 := ⟨_, _, _, rfl, Nat.le_of_ble_eq_true rfl, rfl, gw_of (q1_in _ (List.mem_of_getElem? (i := 141) rfl)) rfl⟩
theorem kp_X3_0 : parseFieldDescriptor "[I" = some (tyX3 0) := by decide +kernel
theorem kl_X3_15 : FLk RX3 15 3 1 := ⟨_, _, _, rfl, Nat.le_of_ble_eq_true rfl, rfl, gw_of (q1_in _ (List.mem_of_getElem? (i := 143) rfl)) rfl⟩
def mX3_init (k0 : Nat) (M : Mem) : Mem := (up (upR M (k0 + 1) (fun _ => 0)) k0 1 (-4))
def rX3_init (k0 : Nat) (R : RM) : RM := (upO (upOR R (k0 + 1) (fun _ => none)) k0 0 (some (k0 + 1)))
theorem k_X3_init {E : GE} {B : Nat} {R : RM} {M : Mem} {Q : Nat → RM → Mem → Prop} {k0 : Nat} (gk0 : isSheet k0) (h : Q (k0 + 2) (rX3_init k0 R) (mX3_init k0 M)) : RunsC E B mi_X3_init [.ref (ad E k0)] (k0 + 1) R M Q := by
  refine RunsC.ofEc (by decide +kernel) (Nat.le_of_ble_eq_true rfl) ?_
  show Ec E B mi_X3_init 0 [(0, .ref (ad E k0))] [] (k0 + 1) 0 0 R M Q
  refine Ec.aload_n dX3_init_0 rfl 0 rfl ?_
  refine Ec.obj dX3_init_1 ko_X3 obj_i obj_c ⟨Nat.le_of_ble_eq_true rfl, Nat.le_of_ble_eq_true rfl⟩ ?_
  refine Ec.aload_n dX3_init_4 rfl 0 rfl ?_
  refine Ec.bipush (v := 40) dX3_init_5 rfl ?_
  refine Ec.newI (N := 40) dX3_init_7 (sheet_k1x gk0) (sheet_l1 gk0) (by decide) rfl (Nat.le_of_ble_eq_true rfl) arr_I (Nat.le_of_ble_eq_true rfl) (Nat.le_of_ble_eq_true rfl) ?_
  refine Ec.putR dX3_init_9 kl_X3_9 (sheet_k0 gk0) (by omega) rfl rfl kp_X3_0 rfl rfl rfl rfl ?_
  refine Ec.aload_n dX3_init_12 rfl 0 rfl ?_
  refine Ec.bipush (v := (-4)) dX3_init_13 rfl ?_
  refine Ec.putA dX3_init_15 kl_X3_15 (sheet_k0 gk0) (by omega) rfl rfl pf_I rfl rfl ?_
  exact Ec.vret dX3_init_18 rfl rfl rfl h
theorem ko_X0 : Cond.methodLink RX0 3 objectInit ∈ gwL := gw_of (q1_in _ (List.mem_of_getElem? (i := 160) rfl)) rfl
theorem kl_X0_9 : FLk RX0 9 0 0 := ⟨_, _, _, rfl, Nat.le_of_ble_eq_true rfl, rfl, gw_of (q1_in _ (List.mem_of_getElem? (i := 161) rfl)) rfl⟩
theorem kp_X0_0 : parseFieldDescriptor "[I" = some (tyX0 0) := by decide +kernel
theorem kl_X0_15 : FLk RX0 15 0 1 := ⟨_, _, _, rfl, Nat.le_of_ble_eq_true rfl, rfl, gw_of (q1_in _ (List.mem_of_getElem? (i := 162) rfl)) rfl⟩
theorem kp_X0_1 : parseFieldDescriptor "[I" = some (tyX0 1) := by decide +kernel
theorem kl_X0_18 : FLk RX0 18 0 2 := ⟨_, _, _, rfl, Nat.le_of_ble_eq_true rfl, rfl, gw_of (q1_in _ (List.mem_of_getElem? (i := 164) rfl)) rfl⟩
theorem kp_X0_2 : parseFieldDescriptor "[I" = some (tyX0 2) := by decide +kernel
theorem kl_X0_21 : FLk RX0 21 0 3 := ⟨_, _, _, rfl, Nat.le_of_ble_eq_true rfl, rfl, gw_of (q1_in _ (List.mem_of_getElem? (i := 165) rfl)) rfl⟩
theorem kp_X0_3 : parseFieldDescriptor "[I" = some (tyX0 3) := by decide +kernel
theorem kl_X0_24 : FLk RX0 24 0 4 := ⟨_, _, _, rfl, Nat.le_of_ble_eq_true rfl, rfl, gw_of (q1_in _ (List.mem_of_getElem? (i := 167) rfl)) rfl⟩
theorem kp_X0_4 : parseFieldDescriptor "[I" = some (tyX0 4) := by decide +kernel
theorem kl_X0_27 : FLk RX0 27 0 5 := ⟨_, _, _, rfl, Nat.le_of_ble_eq_true rfl, rfl, gw_of (q1_in _ (List.mem_of_getElem? (i := 169) rfl)) rfl⟩
theorem kp_X0_5 : parseFieldDescriptor "[I" = some (tyX0 5) := by decide +kernel
def mX0_init (M : Mem) : Mem := (upR (upR (upR (upR (upR (upR M 41 (fun _ => 0)) 42 (fun _ => 0)) 43 (fun _ => 0)) 44 (fun _ => 0)) 45 (fun _ => 0)) 46 (fun _ => 0))
def rX0_init (R : RM) : RM := (upO (upOR (upO (upOR (upO (upOR (upO (upOR (upO (upOR (upO (upOR R 41 (fun _ => none)) 40 0 (some 41)) 42 (fun _ => none)) 40 1 (some 42)) 43 (fun _ => none)) 40 2 (some 43)) 44 (fun _ => none)) 40 3 (some 44)) 45 (fun _ => none)) 40 4 (some 45)) 46 (fun _ => none)) 40 5 (some 46))
theorem k_X0_init {E : GE} {B : Nat} {R : RM} {M : Mem} {Q : Nat → RM → Mem → Prop} (h : Q 47 (rX0_init R) (mX0_init M)) : RunsC E B mi_X0_init [.ref (ad E 40)] 41 R M Q := by
  refine RunsC.ofEc (by decide +kernel) (Nat.le_of_ble_eq_true rfl) ?_
  show Ec E B mi_X0_init 0 [(0, .ref (ad E 40))] [] 41 0 0 R M Q
  refine Ec.aload_n dX0_init_0 rfl 0 rfl ?_
  refine Ec.obj dX0_init_1 ko_X0 obj_i obj_c ⟨Nat.le_of_ble_eq_true rfl, Nat.le_of_ble_eq_true rfl⟩ ?_
  refine Ec.aload_n dX0_init_4 rfl 0 rfl ?_
  refine Ec.iconst (v := 4) dX0_init_5 rfl ?_
  refine Ec.newI (N := 4) dX0_init_6 rfl rfl (by decide) rfl (Nat.le_of_ble_eq_true rfl) arr_I (Nat.le_of_ble_eq_true rfl) (Nat.le_of_ble_eq_true rfl) ?_
  refine Ec.putR dX0_init_8 kl_X0_9 rfl (Nat.le_of_ble_eq_true rfl) rfl rfl kp_X0_0 rfl rfl rfl rfl ?_
  refine Ec.aload_n dX0_init_11 rfl 0 rfl ?_
  refine Ec.iconst (v := 4) dX0_init_12 rfl ?_
  refine Ec.newI (N := 4) dX0_init_13 rfl rfl (by decide) rfl (Nat.le_of_ble_eq_true rfl) arr_I (Nat.le_of_ble_eq_true rfl) (Nat.le_of_ble_eq_true rfl) ?_
  refine Ec.putR dX0_init_15 kl_X0_15 rfl (Nat.le_of_ble_eq_true rfl) rfl rfl kp_X0_1 rfl rfl rfl rfl ?_
  refine Ec.aload_n dX0_init_18 rfl 0 rfl ?_
  refine Ec.iconst (v := 4) dX0_init_19 rfl ?_
  refine Ec.newI (N := 4) dX0_init_20 rfl rfl (by decide) rfl (Nat.le_of_ble_eq_true rfl) arr_I (Nat.le_of_ble_eq_true rfl) (Nat.le_of_ble_eq_true rfl) ?_
  refine Ec.putR dX0_init_22 kl_X0_18 rfl (Nat.le_of_ble_eq_true rfl) rfl rfl kp_X0_2 rfl rfl rfl rfl ?_
  refine Ec.aload_n dX0_init_25 rfl 0 rfl ?_
  refine Ec.iconst (v := 4) dX0_init_26 rfl ?_
  refine Ec.newI (N := 4) dX0_init_27 rfl rfl (by decide) rfl (Nat.le_of_ble_eq_true rfl) arr_I (Nat.le_of_ble_eq_true rfl) (Nat.le_of_ble_eq_true rfl) ?_
  refine Ec.putR dX0_init_29 kl_X0_21 rfl (Nat.le_of_ble_eq_true rfl) rfl rfl kp_X0_3 rfl rfl rfl rfl ?_
  refine Ec.aload_n dX0_init_32 rfl 0 rfl ?_
  refine Ec.iconst (v := 4) dX0_init_33 rfl ?_
  refine Ec.newI (N := 4) dX0_init_34 rfl rfl (by decide) rfl (Nat.le_of_ble_eq_true rfl) arr_I (Nat.le_of_ble_eq_true rfl) (Nat.le_of_ble_eq_true rfl) ?_
  refine Ec.putR dX0_init_36 kl_X0_24 rfl (Nat.le_of_ble_eq_true rfl) rfl rfl kp_X0_4 rfl rfl rfl rfl ?_
  refine Ec.aload_n dX0_init_39 rfl 0 rfl ?_
  refine Ec.iconst (v := 4) dX0_init_40 rfl ?_
  refine Ec.newI (N := 4) dX0_init_41 rfl rfl (by decide) rfl (Nat.le_of_ble_eq_true rfl) arr_I (Nat.le_of_ble_eq_true rfl) (Nat.le_of_ble_eq_true rfl) ?_
  refine Ec.putR dX0_init_43 kl_X0_27 rfl (Nat.le_of_ble_eq_true rfl) rfl rfl kp_X0_5 rfl rfl rfl rfl ?_
  exact Ec.vret dX0_init_46 rfl rfl rfl h
theorem ko_X5 : Cond.methodLink RX5 1 objectInit ∈ gwL := gw_of (q1_in _ (List.mem_of_getElem? (i := 20) rfl)) rfl
theorem nk_X5_7 : Cond.classLink RX5 7 "FlotsamWill$Reader" ∈ gwL := gw_of (q1_in _ (List.mem_of_getElem? (i := 23) rfl)) rfl
theorem ni_X1 : Cond.instantiable RX1 7 ∈ gwL := gw_of (q1_in _ (List.mem_of_getElem? (i := 24) rfl)) rfl
theorem nn_X1 : Cond.initialized RX1 ∈ gwL := gw_of (q1_in _ (List.mem_of_getElem? (i := 2) rfl)) rfl
theorem kn_X5_9 : CNk RX5 9 mi_X1_init := List.mem_of_getElem? (i := 0) rfl
theorem kl_X5_10 : FLk RX5 10 5 0 := ⟨_, _, _, rfl, Nat.le_of_ble_eq_true rfl, rfl, gw_of (q1_in _ (List.mem_of_getElem? (i := 184) rfl)) rfl⟩
theorem kp_X5_0 : parseFieldDescriptor "LFlotsamWill$Reader;" = some (tyX5 0) := by decide +kernel
theorem kln_X5_16 : NLk RX5 16 1 0 := ⟨_, _, _, rfl, Nat.le_of_ble_eq_true rfl, rfl, List.mem_of_getElem? (i := 18) rfl⟩
theorem kl_X5_20 : FLk RX5 20 5 1 := ⟨_, _, _, rfl, Nat.le_of_ble_eq_true rfl, rfl, gw_of (q1_in _ (List.mem_of_getElem? (i := 185) rfl)) rfl⟩
theorem kp_X5_1 : parseFieldDescriptor "LFlotsamWill$Tape;" = some (tyX5 1) := by decide +kernel
theorem nk_X5_21 : Cond.classLink RX5 21 "FlotsamWill$Sea" ∈ gwL := gw_of (q1_in _ (List.mem_of_getElem? (i := 131) rfl)) rfl
theorem kn_X5_23 : CNk RX5 23 mi_X2_init := List.mem_of_getElem? (i := 3) rfl
theorem kl_X5_24 : FLk RX5 24 5 2 := ⟨_, _, _, rfl, Nat.le_of_ble_eq_true rfl, rfl, gw_of (q1_in _ (List.mem_of_getElem? (i := 186) rfl)) rfl⟩
theorem kp_X5_2 : parseFieldDescriptor "LFlotsamWill$Sea;" = some (tyX5 2) := by decide +kernel
theorem kl_X5_28 : FLk RX5 28 5 3 := ⟨_, _, _, rfl, Nat.le_of_ble_eq_true rfl, rfl, gw_of (q1_in _ (List.mem_of_getElem? (i := 187) rfl)) rfl⟩
theorem kp_X5_3 : parseFieldDescriptor "LFlotsamWill$Sea;" = some (tyX5 3) := by decide +kernel
theorem kl_X5_31 : FLk RX5 31 5 4 := ⟨_, _, _, rfl, Nat.le_of_ble_eq_true rfl, rfl, gw_of (q1_in _ (List.mem_of_getElem? (i := 188) rfl)) rfl⟩
theorem kp_X5_4 : parseFieldDescriptor "[LFlotsamWill$Sea;" = some (tyX5 4) := by decide +kernel
theorem kl_X5_35 : FLk RX5 35 5 5 := ⟨_, _, _, rfl, Nat.le_of_ble_eq_true rfl, rfl, gw_of (q1_in _ (List.mem_of_getElem? (i := 189) rfl)) rfl⟩
theorem kp_X5_5 : parseFieldDescriptor "[Z" = some (tyX5 5) := by decide +kernel
theorem nk_X5_39 : Cond.classLink RX5 39 "FlotsamWill$Sheet" ∈ gwL := gw_of (q1_in _ (List.mem_of_getElem? (i := 134) rfl)) rfl
theorem ni_X3 : Cond.instantiable RX3 3 ∈ gwL := gw_of (q1_in _ (List.mem_of_getElem? (i := 136) rfl)) rfl
theorem nn_X3 : Cond.initialized RX3 ∈ gwL := gw_of (q1_in _ (List.mem_of_getElem? (i := 5) rfl)) rfl
theorem kn_X5_41 : CNk RX5 41 mi_X3_init := List.mem_of_getElem? (i := 4) rfl
theorem kl_X5_42 : FLk RX5 42 5 6 := ⟨_, _, _, rfl, Nat.le_of_ble_eq_true rfl, rfl, gw_of (q1_in _ (List.mem_of_getElem? (i := 190) rfl)) rfl⟩
theorem kp_X5_6 : parseFieldDescriptor "[LFlotsamWill$Sheet;" = some (tyX5 6) := by decide +kernel
theorem nk_X5_46 : Cond.classLink RX5 46 "FlotsamWill$Day" ∈ gwL := gw_of (q1_in _ (List.mem_of_getElem? (i := 155) rfl)) rfl
theorem ni_X0 : Cond.instantiable RX0 6 ∈ gwL := gw_of (q1_in _ (List.mem_of_getElem? (i := 156) rfl)) rfl
theorem nn_X0 : Cond.initialized RX0 ∈ gwL := gw_of (q1_in _ (List.mem_of_getElem? (i := 6) rfl)) rfl
theorem kn_X5_48 : CNk RX5 48 mi_X0_init := List.mem_of_getElem? (i := 5) rfl
theorem kl_X5_49 : FLk RX5 49 5 7 := ⟨_, _, _, rfl, Nat.le_of_ble_eq_true rfl, rfl, gw_of (q1_in _ (List.mem_of_getElem? (i := 191) rfl)) rfl⟩
theorem kp_X5_7 : parseFieldDescriptor "LFlotsamWill$Day;" = some (tyX5 7) := by decide +kernel
theorem kl_X5_53 : FLk RX5 53 5 8 := ⟨_, _, _, rfl, Nat.le_of_ble_eq_true rfl, rfl, gw_of (q1_in _ (List.mem_of_getElem? (i := 192) rfl)) rfl⟩
theorem kp_X5_8 : parseFieldDescriptor "[I" = some (tyX5 8) := by decide +kernel
theorem kl_X5_57 : FLk RX5 57 5 9 := ⟨_, _, _, rfl, Nat.le_of_ble_eq_true rfl, rfl, gw_of (q1_in _ (List.mem_of_getElem? (i := 193) rfl)) rfl⟩
theorem kp_X5_9 : parseFieldDescriptor "[I" = some (tyX5 9) := by decide +kernel
theorem kl_X5_60 : FLk RX5 60 5 10 := ⟨_, _, _, rfl, Nat.le_of_ble_eq_true rfl, rfl, gw_of (q1_in _ (List.mem_of_getElem? (i := 194) rfl)) rfl⟩
theorem kp_X5_10 : parseFieldDescriptor "[I" = some (tyX5 10) := by decide +kernel
theorem kl_X5_63 : FLk RX5 63 5 11 := ⟨_, _, _, rfl, Nat.le_of_ble_eq_true rfl, rfl, gw_of (q1_in _ (List.mem_of_getElem? (i := 195) rfl)) rfl⟩
theorem kp_X5_11 : parseFieldDescriptor "[I" = some (tyX5 11) := by decide +kernel
theorem kl_X5_66 : FLk RX5 66 5 12 := ⟨_, _, _, rfl, Nat.le_of_ble_eq_true rfl, rfl, gw_of (q1_in _ (List.mem_of_getElem? (i := 196) rfl)) rfl⟩
theorem kp_X5_12 : parseFieldDescriptor "[I" = some (tyX5 12) := by decide +kernel
theorem kl_X5_69 : FLk RX5 69 5 13 := ⟨_, _, _, rfl, Nat.le_of_ble_eq_true rfl, rfl, gw_of (q1_in _ (List.mem_of_getElem? (i := 197) rfl)) rfl⟩
theorem kp_X5_13 : parseFieldDescriptor "[I" = some (tyX5 13) := by decide +kernel
theorem kl_X5_72 : FLk RX5 72 5 14 := ⟨_, _, _, rfl, Nat.le_of_ble_eq_true rfl, rfl, gw_of (q1_in _ (List.mem_of_getElem? (i := 198) rfl)) rfl⟩
theorem kp_X5_14 : parseFieldDescriptor "[I" = some (tyX5 14) := by decide +kernel
def mX5_init (M : Mem) : Mem := (upR (upR (upR (upR (upR (upR (upR (mX0_init (upR (mX3_init 38 (upR (mX3_init 36 (upR (mX3_init 34 (upR (mX3_init 32 (upR (upR (upR (mX2_init 25 (upR (mX2_init 20 (upR (upR (mX2_init 14 (upR (mX2_init 9 (upR (mX1_init (upR M 1 (fun _ => 0))) 9 (fun _ => 0))) 14 (fun _ => 0))) 19 (fun _ => 0)) 20 (fun _ => 0))) 25 (fun _ => 0))) 30 (fun _ => 0)) 31 (fun _ => 0)) 32 (fun _ => 0))) 34 (fun _ => 0))) 36 (fun _ => 0))) 38 (fun _ => 0))) 40 (fun _ => 0))) 47 (fun _ => 0)) 48 (fun _ => 0)) 49 (fun _ => 0)) 50 (fun _ => 0)) 51 (fun _ => 0)) 52 (fun _ => 0)) 53 (fun _ => 0))
def rX5_init (R : RM) : RM := (upO (upOR (upO (upOR (upO (upOR (upO (upOR (upO (upOR (upO (upOR (upO (upOR (upO (rX0_init (upOR (upO (upO (rX3_init 38 (upOR (upO (rX3_init 36 (upOR (upO (rX3_init 34 (upOR (upO (rX3_init 32 (upOR (upOR (upO (upOR (upO (upO (rX2_init 25 (upOR (upO (rX2_init 20 (upOR (upOR (upO (rX2_init 14 (upOR (upO (rX2_init 9 (upOR (upO (upO (rX1_init (upOR R 1 (fun _ => none))) 0 0 (some 1)) 0 1 (some 2)) 9 (fun _ => none))) 0 2 (some 9)) 14 (fun _ => none))) 0 3 (some 14)) 19 (fun _ => none)) 20 (fun _ => none))) 19 0 (some 20)) 25 (fun _ => none))) 19 1 (some 25)) 0 4 (some 19)) 30 (fun _ => none)) 0 5 (some 30)) 31 (fun _ => none)) 32 (fun _ => none))) 31 0 (some 32)) 34 (fun _ => none))) 31 1 (some 34)) 36 (fun _ => none))) 31 2 (some 36)) 38 (fun _ => none))) 31 3 (some 38)) 0 6 (some 31)) 40 (fun _ => none))) 0 7 (some 40)) 47 (fun _ => none)) 0 8 (some 47)) 48 (fun _ => none)) 0 9 (some 48)) 49 (fun _ => none)) 0 10 (some 49)) 50 (fun _ => none)) 0 11 (some 50)) 51 (fun _ => none)) 0 12 (some 51)) 52 (fun _ => none)) 0 13 (some 52)) 53 (fun _ => none)) 0 14 (some 53))
theorem k_X5_init {E : GE} {B : Nat} {R : RM} {M : Mem} {Q : Nat → RM → Mem → Prop} (h : Q 54 (rX5_init R) (mX5_init M)) : RunsC E B mi_X5_init [.ref (ad E 0)] 1 R M Q := by
  refine RunsC.ofEc (by decide +kernel) (Nat.le_of_ble_eq_true rfl) ?_
  show Ec E B mi_X5_init 0 [(0, .ref (ad E 0))] [] 1 0 0 R M Q
  refine Ec.aload_n dX5_init_0 rfl 0 rfl ?_
  refine Ec.obj dX5_init_1 ko_X5 obj_i obj_c ⟨Nat.le_of_ble_eq_true rfl, Nat.le_of_ble_eq_true rfl⟩ ?_
  refine Ec.aload_n dX5_init_4 rfl 0 rfl ?_
  refine Ec.new (c := 1) dX5_init_5 rfl rfl nk_X5_7 ni_X1 nn_X1 tyX1 tyX1_ok new_ty1 (Nat.le_of_ble_eq_true rfl) (Nat.le_of_ble_eq_true rfl) ?_
  refine Ec.dup dX5_init_8 rfl ?_
  refine Ec.initN (k := 1) (as := []) (rest := [.ref (ad E 1), .ref (ad E 0)]) (cs2 := 8) (ss2 := 250) dX5_init_9 kn_X5_9 mcc_X1_init rfl ⟨⟨Nat.le_of_ble_eq_true rfl, Nat.le_of_ble_eq_true rfl⟩, Nat.le_of_ble_eq_true rfl, Nat.le_of_ble_eq_true rfl⟩ (Nat.le_of_ble_eq_true rfl) rfl rfl rfl rfl (k_X1_init ?_)
  refine Ec.putR dX5_init_12 kl_X5_10 rfl (Nat.le_of_ble_eq_true rfl) rfl rfl kp_X5_0 rfl rfl rfl rfl ?_
  refine Ec.aload_n dX5_init_15 rfl 0 rfl ?_
  refine Ec.aload_n dX5_init_16 rfl 0 rfl ?_
  refine Ec.get (v := .ref (ad E 1)) dX5_init_17 kl_X5_10 rfl (Nat.le_of_ble_eq_true rfl) rfl ?_
  refine Ec.getN (v := .ref (ad E 2)) dX5_init_20 kln_X5_16 rfl (Nat.le_of_ble_eq_true rfl) rfl ?_
  refine Ec.putR dX5_init_23 kl_X5_20 rfl (Nat.le_of_ble_eq_true rfl) rfl rfl kp_X5_1 rfl rfl rfl rfl ?_
  refine Ec.aload_n dX5_init_26 rfl 0 rfl ?_
  refine Ec.new (c := 2) dX5_init_27 rfl rfl nk_X5_21 ni_X2 nn_X2 tyX2 tyX2_ok new_ty2 (Nat.le_of_ble_eq_true rfl) (Nat.le_of_ble_eq_true rfl) ?_
  refine Ec.dup dX5_init_30 rfl ?_
  refine Ec.initN (k := 9) (as := []) (rest := [.ref (ad E 9), .ref (ad E 0)]) (cs2 := 13) (ss2 := 327) dX5_init_31 kn_X5_23 mcc_X2_init rfl ⟨⟨Nat.le_of_ble_eq_true rfl, Nat.le_of_ble_eq_true rfl⟩, Nat.le_of_ble_eq_true rfl, Nat.le_of_ble_eq_true rfl⟩ (Nat.le_of_ble_eq_true rfl) rfl rfl rfl rfl (k_X2_init sea_9 ?_)
  refine Ec.putR dX5_init_34 kl_X5_24 rfl (Nat.le_of_ble_eq_true rfl) rfl rfl kp_X5_2 rfl rfl rfl rfl ?_
  refine Ec.aload_n dX5_init_37 rfl 0 rfl ?_
  refine Ec.new (c := 2) dX5_init_38 rfl rfl nk_X5_21 ni_X2 nn_X2 tyX2 tyX2_ok new_ty2 (Nat.le_of_ble_eq_true rfl) (Nat.le_of_ble_eq_true rfl) ?_
  refine Ec.dup dX5_init_41 rfl ?_
  refine Ec.initN (k := 14) (as := []) (rest := [.ref (ad E 14), .ref (ad E 0)]) (cs2 := 18) (ss2 := 404) dX5_init_42 kn_X5_23 mcc_X2_init rfl ⟨⟨Nat.le_of_ble_eq_true rfl, Nat.le_of_ble_eq_true rfl⟩, Nat.le_of_ble_eq_true rfl, Nat.le_of_ble_eq_true rfl⟩ (Nat.le_of_ble_eq_true rfl) rfl rfl rfl rfl (k_X2_init sea_14 ?_)
  refine Ec.putR dX5_init_45 kl_X5_28 rfl (Nat.le_of_ble_eq_true rfl) rfl rfl kp_X5_3 rfl rfl rfl rfl ?_
  refine Ec.aload_n dX5_init_48 rfl 0 rfl ?_
  refine Ec.iconst (v := 2) dX5_init_49 rfl ?_
  refine Ec.newQ (N := 2) (t := 2) dX5_init_50 ⟨rfl, Or.inl rfl⟩ (fun _ h => h.1) rfl nk_X5_21 rfl (by decide) rfl (Nat.le_of_ble_eq_true rfl) (Nat.le_of_ble_eq_true rfl) (Nat.le_of_ble_eq_true rfl) ?_
  refine Ec.dup dX5_init_53 rfl ?_
  refine Ec.iconst (v := 0) dX5_init_54 rfl ?_
  refine Ec.new (c := 2) dX5_init_55 rfl rfl nk_X5_21 ni_X2 nn_X2 tyX2 tyX2_ok new_ty2 (Nat.le_of_ble_eq_true rfl) (Nat.le_of_ble_eq_true rfl) ?_
  refine Ec.dup dX5_init_58 rfl ?_
  refine Ec.initN (k := 20) (as := []) (rest := [.ref (ad E 20), .int 0, .ref (ad E 19), .ref (ad E 19), .ref (ad E 0)]) (cs2 := 24) (ss2 := 483) dX5_init_59 kn_X5_23 mcc_X2_init rfl ⟨⟨Nat.le_of_ble_eq_true rfl, Nat.le_of_ble_eq_true rfl⟩, Nat.le_of_ble_eq_true rfl, Nat.le_of_ble_eq_true rfl⟩ (Nat.le_of_ble_eq_true rfl) rfl rfl rfl rfl (k_X2_init sea_20 ?_)
  refine Ec.aast (c := 2) dX5_init_62 (Or.inl ⟨rfl, rfl⟩) (Nat.le_of_ble_eq_true rfl) rfl (vp_in_nI (n := 0) (Nat.le_of_ble_eq_true rfl) (by decide)) (Nat.le_of_ble_eq_true rfl) rfl ?_
  refine Ec.dup dX5_init_63 rfl ?_
  refine Ec.iconst (v := 1) dX5_init_64 rfl ?_
  refine Ec.new (c := 2) dX5_init_65 rfl rfl nk_X5_21 ni_X2 nn_X2 tyX2 tyX2_ok new_ty2 (Nat.le_of_ble_eq_true rfl) (Nat.le_of_ble_eq_true rfl) ?_
  refine Ec.dup dX5_init_68 rfl ?_
  refine Ec.initN (k := 25) (as := []) (rest := [.ref (ad E 25), .int 1, .ref (ad E 19), .ref (ad E 19), .ref (ad E 0)]) (cs2 := 29) (ss2 := 560) dX5_init_69 kn_X5_23 mcc_X2_init rfl ⟨⟨Nat.le_of_ble_eq_true rfl, Nat.le_of_ble_eq_true rfl⟩, Nat.le_of_ble_eq_true rfl, Nat.le_of_ble_eq_true rfl⟩ (Nat.le_of_ble_eq_true rfl) rfl rfl rfl rfl (k_X2_init sea_25 ?_)
  refine Ec.aast (c := 2) dX5_init_72 (Or.inl ⟨rfl, rfl⟩) (Nat.le_of_ble_eq_true rfl) rfl (vp_in_nI (n := 1) (Nat.le_of_ble_eq_true rfl) (by decide)) (Nat.le_of_ble_eq_true rfl) rfl ?_
  refine Ec.putR dX5_init_73 kl_X5_31 rfl (Nat.le_of_ble_eq_true rfl) rfl rfl kp_X5_4 rfl rfl rfl rfl ?_
  refine Ec.aload_n dX5_init_76 rfl 0 rfl ?_
  refine Ec.iconst (v := 2) dX5_init_77 rfl ?_
  refine Ec.newZ (N := 2) dX5_init_78 rfl rfl (by decide) rfl (Nat.le_of_ble_eq_true rfl) arr_Z (Nat.le_of_ble_eq_true rfl) (Nat.le_of_ble_eq_true rfl) ?_
  refine Ec.putR dX5_init_80 kl_X5_35 rfl (Nat.le_of_ble_eq_true rfl) rfl rfl kp_X5_5 rfl rfl rfl rfl ?_
  refine Ec.aload_n dX5_init_83 rfl 0 rfl ?_
  refine Ec.iconst (v := 4) dX5_init_84 rfl ?_
  refine Ec.newQ (N := 4) (t := 3) dX5_init_85 ⟨rfl, Or.inr rfl⟩ (fun _ h => h.2.1) rfl nk_X5_39 rfl (by decide) rfl (Nat.le_of_ble_eq_true rfl) (Nat.le_of_ble_eq_true rfl) (Nat.le_of_ble_eq_true rfl) ?_
  refine Ec.dup dX5_init_88 rfl ?_
  refine Ec.iconst (v := 0) dX5_init_89 rfl ?_
  refine Ec.new (c := 3) dX5_init_90 rfl rfl nk_X5_39 ni_X3 nn_X3 tyX3 tyX3_ok new_ty3 (Nat.le_of_ble_eq_true rfl) (Nat.le_of_ble_eq_true rfl) ?_
  refine Ec.dup dX5_init_93 rfl ?_
  refine Ec.initN (k := 32) (as := []) (rest := [.ref (ad E 32), .int 0, .ref (ad E 31), .ref (ad E 31), .ref (ad E 0)]) (cs2 := 33) (ss2 := 609) dX5_init_94 kn_X5_41 mcc_X3_init rfl ⟨⟨Nat.le_of_ble_eq_true rfl, Nat.le_of_ble_eq_true rfl⟩, Nat.le_of_ble_eq_true rfl, Nat.le_of_ble_eq_true rfl⟩ (Nat.le_of_ble_eq_true rfl) rfl rfl rfl rfl (k_X3_init sheet_32 ?_)
  refine Ec.aast (c := 3) dX5_init_97 (Or.inr ⟨rfl, rfl⟩) (Nat.le_of_ble_eq_true rfl) rfl (vp_in_nI (n := 0) (Nat.le_of_ble_eq_true rfl) (by decide)) (Nat.le_of_ble_eq_true rfl) rfl ?_
  refine Ec.dup dX5_init_98 rfl ?_
  refine Ec.iconst (v := 1) dX5_init_99 rfl ?_
  refine Ec.new (c := 3) dX5_init_100 rfl rfl nk_X5_39 ni_X3 nn_X3 tyX3 tyX3_ok new_ty3 (Nat.le_of_ble_eq_true rfl) (Nat.le_of_ble_eq_true rfl) ?_
  refine Ec.dup dX5_init_103 rfl ?_
  refine Ec.initN (k := 34) (as := []) (rest := [.ref (ad E 34), .int 1, .ref (ad E 31), .ref (ad E 31), .ref (ad E 0)]) (cs2 := 35) (ss2 := 652) dX5_init_104 kn_X5_41 mcc_X3_init rfl ⟨⟨Nat.le_of_ble_eq_true rfl, Nat.le_of_ble_eq_true rfl⟩, Nat.le_of_ble_eq_true rfl, Nat.le_of_ble_eq_true rfl⟩ (Nat.le_of_ble_eq_true rfl) rfl rfl rfl rfl (k_X3_init sheet_34 ?_)
  refine Ec.aast (c := 3) dX5_init_107 (Or.inr ⟨rfl, rfl⟩) (Nat.le_of_ble_eq_true rfl) rfl (vp_in_nI (n := 1) (Nat.le_of_ble_eq_true rfl) (by decide)) (Nat.le_of_ble_eq_true rfl) rfl ?_
  refine Ec.dup dX5_init_108 rfl ?_
  refine Ec.iconst (v := 2) dX5_init_109 rfl ?_
  refine Ec.new (c := 3) dX5_init_110 rfl rfl nk_X5_39 ni_X3 nn_X3 tyX3 tyX3_ok new_ty3 (Nat.le_of_ble_eq_true rfl) (Nat.le_of_ble_eq_true rfl) ?_
  refine Ec.dup dX5_init_113 rfl ?_
  refine Ec.initN (k := 36) (as := []) (rest := [.ref (ad E 36), .int 2, .ref (ad E 31), .ref (ad E 31), .ref (ad E 0)]) (cs2 := 37) (ss2 := 695) dX5_init_114 kn_X5_41 mcc_X3_init rfl ⟨⟨Nat.le_of_ble_eq_true rfl, Nat.le_of_ble_eq_true rfl⟩, Nat.le_of_ble_eq_true rfl, Nat.le_of_ble_eq_true rfl⟩ (Nat.le_of_ble_eq_true rfl) rfl rfl rfl rfl (k_X3_init sheet_36 ?_)
  refine Ec.aast (c := 3) dX5_init_117 (Or.inr ⟨rfl, rfl⟩) (Nat.le_of_ble_eq_true rfl) rfl (vp_in_nI (n := 2) (Nat.le_of_ble_eq_true rfl) (by decide)) (Nat.le_of_ble_eq_true rfl) rfl ?_
  refine Ec.dup dX5_init_118 rfl ?_
  refine Ec.iconst (v := 3) dX5_init_119 rfl ?_
  refine Ec.new (c := 3) dX5_init_120 rfl rfl nk_X5_39 ni_X3 nn_X3 tyX3 tyX3_ok new_ty3 (Nat.le_of_ble_eq_true rfl) (Nat.le_of_ble_eq_true rfl) ?_
  refine Ec.dup dX5_init_123 rfl ?_
  refine Ec.initN (k := 38) (as := []) (rest := [.ref (ad E 38), .int 3, .ref (ad E 31), .ref (ad E 31), .ref (ad E 0)]) (cs2 := 39) (ss2 := 738) dX5_init_124 kn_X5_41 mcc_X3_init rfl ⟨⟨Nat.le_of_ble_eq_true rfl, Nat.le_of_ble_eq_true rfl⟩, Nat.le_of_ble_eq_true rfl, Nat.le_of_ble_eq_true rfl⟩ (Nat.le_of_ble_eq_true rfl) rfl rfl rfl rfl (k_X3_init sheet_38 ?_)
  refine Ec.aast (c := 3) dX5_init_127 (Or.inr ⟨rfl, rfl⟩) (Nat.le_of_ble_eq_true rfl) rfl (vp_in_nI (n := 3) (Nat.le_of_ble_eq_true rfl) (by decide)) (Nat.le_of_ble_eq_true rfl) rfl ?_
  refine Ec.putR dX5_init_128 kl_X5_42 rfl (Nat.le_of_ble_eq_true rfl) rfl rfl kp_X5_6 rfl rfl rfl rfl ?_
  refine Ec.aload_n dX5_init_131 rfl 0 rfl ?_
  refine Ec.new (c := 0) dX5_init_132 rfl rfl nk_X5_46 ni_X0 nn_X0 tyX0 tyX0_ok new_ty0 (Nat.le_of_ble_eq_true rfl) (Nat.le_of_ble_eq_true rfl) ?_
  refine Ec.dup dX5_init_135 rfl ?_
  refine Ec.initN (k := 40) (as := []) (rest := [.ref (ad E 40), .ref (ad E 0)]) (cs2 := 46) (ss2 := 768) dX5_init_136 kn_X5_48 mcc_X0_init rfl ⟨⟨Nat.le_of_ble_eq_true rfl, Nat.le_of_ble_eq_true rfl⟩, Nat.le_of_ble_eq_true rfl, Nat.le_of_ble_eq_true rfl⟩ (Nat.le_of_ble_eq_true rfl) rfl rfl rfl rfl (k_X0_init ?_)
  refine Ec.putR dX5_init_139 kl_X5_49 rfl (Nat.le_of_ble_eq_true rfl) rfl rfl kp_X5_7 rfl rfl rfl rfl ?_
  refine Ec.aload_n dX5_init_142 rfl 0 rfl ?_
  refine Ec.bipush (v := 6) dX5_init_143 rfl ?_
  refine Ec.newI (N := 6) dX5_init_145 rfl rfl (by decide) rfl (Nat.le_of_ble_eq_true rfl) arr_I (Nat.le_of_ble_eq_true rfl) (Nat.le_of_ble_eq_true rfl) ?_
  refine Ec.putR dX5_init_147 kl_X5_53 rfl (Nat.le_of_ble_eq_true rfl) rfl rfl kp_X5_8 rfl rfl rfl rfl ?_
  refine Ec.aload_n dX5_init_150 rfl 0 rfl ?_
  refine Ec.bipush (v := 6) dX5_init_151 rfl ?_
  refine Ec.newI (N := 6) dX5_init_153 rfl rfl (by decide) rfl (Nat.le_of_ble_eq_true rfl) arr_I (Nat.le_of_ble_eq_true rfl) (Nat.le_of_ble_eq_true rfl) ?_
  refine Ec.putR dX5_init_155 kl_X5_57 rfl (Nat.le_of_ble_eq_true rfl) rfl rfl kp_X5_9 rfl rfl rfl rfl ?_
  refine Ec.aload_n dX5_init_158 rfl 0 rfl ?_
  refine Ec.bipush (v := 6) dX5_init_159 rfl ?_
  refine Ec.newI (N := 6) dX5_init_161 rfl rfl (by decide) rfl (Nat.le_of_ble_eq_true rfl) arr_I (Nat.le_of_ble_eq_true rfl) (Nat.le_of_ble_eq_true rfl) ?_
  refine Ec.putR dX5_init_163 kl_X5_60 rfl (Nat.le_of_ble_eq_true rfl) rfl rfl kp_X5_10 rfl rfl rfl rfl ?_
  refine Ec.aload_n dX5_init_166 rfl 0 rfl ?_
  refine Ec.bipush (v := 24) dX5_init_167 rfl ?_
  refine Ec.newI (N := 24) dX5_init_169 rfl rfl (by decide) rfl (Nat.le_of_ble_eq_true rfl) arr_I (Nat.le_of_ble_eq_true rfl) (Nat.le_of_ble_eq_true rfl) ?_
  refine Ec.putR dX5_init_171 kl_X5_63 rfl (Nat.le_of_ble_eq_true rfl) rfl rfl kp_X5_11 rfl rfl rfl rfl ?_
  refine Ec.aload_n dX5_init_174 rfl 0 rfl ?_
  refine Ec.iconst (v := 4) dX5_init_175 rfl ?_
  refine Ec.newI (N := 4) dX5_init_176 rfl rfl (by decide) rfl (Nat.le_of_ble_eq_true rfl) arr_I (Nat.le_of_ble_eq_true rfl) (Nat.le_of_ble_eq_true rfl) ?_
  refine Ec.putR dX5_init_178 kl_X5_66 rfl (Nat.le_of_ble_eq_true rfl) rfl rfl kp_X5_12 rfl rfl rfl rfl ?_
  refine Ec.aload_n dX5_init_181 rfl 0 rfl ?_
  refine Ec.bipush (v := 100) dX5_init_182 rfl ?_
  refine Ec.newI (N := 100) dX5_init_184 rfl rfl (by decide) rfl (Nat.le_of_ble_eq_true rfl) arr_I (Nat.le_of_ble_eq_true rfl) (Nat.le_of_ble_eq_true rfl) ?_
  refine Ec.putR dX5_init_186 kl_X5_69 rfl (Nat.le_of_ble_eq_true rfl) rfl rfl kp_X5_13 rfl rfl rfl rfl ?_
  refine Ec.aload_n dX5_init_189 rfl 0 rfl ?_
  refine Ec.bipush (v := 100) dX5_init_190 rfl ?_
  refine Ec.newI (N := 100) dX5_init_192 rfl rfl (by decide) rfl (Nat.le_of_ble_eq_true rfl) arr_I (Nat.le_of_ble_eq_true rfl) (Nat.le_of_ble_eq_true rfl) ?_
  refine Ec.putR dX5_init_194 kl_X5_72 rfl (Nat.le_of_ble_eq_true rfl) rfl rfl kp_X5_14 rfl rfl rfl rfl ?_
  exact Ec.vret dX5_init_197 rfl rfl rfl h
theorem ko_X6 : Cond.methodLink RX6 1 objectInit ∈ gwL := gw_of (q4_in _ (List.mem_of_getElem? (i := 32) rfl)) rfl
theorem kl_X6_7 : FLk RX6 7 6 0 := ⟨_, _, _, rfl, Nat.le_of_ble_eq_true rfl, rfl, gw_of (q4_in _ (List.mem_of_getElem? (i := 33) rfl)) rfl⟩
theorem kp_X6_0 : parseFieldDescriptor "[I" = some (tyX6 0) := by decide +kernel
theorem kl_X6_13 : FLk RX6 13 6 1 := ⟨_, _, _, rfl, Nat.le_of_ble_eq_true rfl, rfl, gw_of (q4_in _ (List.mem_of_getElem? (i := 34) rfl)) rfl⟩
theorem kp_X6_1 : parseFieldDescriptor "[I" = some (tyX6 1) := by decide +kernel
theorem kl_X6_16 : FLk RX6 16 6 3 := ⟨_, _, _, rfl, Nat.le_of_ble_eq_true rfl, rfl, gw_of (q4_in _ (List.mem_of_getElem? (i := 36) rfl)) rfl⟩
theorem kp_X6_3 : parseFieldDescriptor "[I" = some (tyX6 3) := by decide +kernel
theorem kl_X6_19 : FLk RX6 19 6 8 := ⟨_, _, _, rfl, Nat.le_of_ble_eq_true rfl, rfl, gw_of (q4_in _ (List.mem_of_getElem? (i := 41) rfl)) rfl⟩
theorem kp_X6_8 : parseFieldDescriptor "[I" = some (tyX6 8) := by decide +kernel
theorem kl_X6_22 : FLk RX6 22 6 17 := ⟨_, _, _, rfl, Nat.le_of_ble_eq_true rfl, rfl, gw_of (q4_in _ (List.mem_of_getElem? (i := 50) rfl)) rfl⟩
theorem kp_X6_17 : parseFieldDescriptor "[I" = some (tyX6 17) := by decide +kernel
theorem kl_X6_25 : FLk RX6 25 6 18 := ⟨_, _, _, rfl, Nat.le_of_ble_eq_true rfl, rfl, gw_of (q4_in _ (List.mem_of_getElem? (i := 51) rfl)) rfl⟩
theorem kp_X6_18 : parseFieldDescriptor "[I" = some (tyX6 18) := by decide +kernel
theorem kl_X6_28 : FLk RX6 28 6 19 := ⟨_, _, _, rfl, Nat.le_of_ble_eq_true rfl, rfl, gw_of (q4_in _ (List.mem_of_getElem? (i := 52) rfl)) rfl⟩
theorem kp_X6_19 : parseFieldDescriptor "[I" = some (tyX6 19) := by decide +kernel
theorem kl_X6_31 : FLk RX6 31 6 20 := ⟨_, _, _, rfl, Nat.le_of_ble_eq_true rfl, rfl, gw_of (q4_in _ (List.mem_of_getElem? (i := 53) rfl)) rfl⟩
theorem kp_X6_20 : parseFieldDescriptor "[I" = some (tyX6 20) := by decide +kernel
theorem kl_X6_34 : FLk RX6 34 6 21 := ⟨_, _, _, rfl, Nat.le_of_ble_eq_true rfl, rfl, gw_of (q4_in _ (List.mem_of_getElem? (i := 54) rfl)) rfl⟩
theorem kp_X6_21 : parseFieldDescriptor "[I" = some (tyX6 21) := by decide +kernel
theorem kl_X6_37 : FLk RX6 37 6 22 := ⟨_, _, _, rfl, Nat.le_of_ble_eq_true rfl, rfl, gw_of (q4_in _ (List.mem_of_getElem? (i := 55) rfl)) rfl⟩
theorem kp_X6_22 : parseFieldDescriptor "[I" = some (tyX6 22) := by decide +kernel
theorem kl_X6_40 : FLk RX6 40 6 23 := ⟨_, _, _, rfl, Nat.le_of_ble_eq_true rfl, rfl, gw_of (q4_in _ (List.mem_of_getElem? (i := 56) rfl)) rfl⟩
theorem kp_X6_23 : parseFieldDescriptor "[I" = some (tyX6 23) := by decide +kernel
theorem kl_X6_43 : FLk RX6 43 6 24 := ⟨_, _, _, rfl, Nat.le_of_ble_eq_true rfl, rfl, gw_of (q4_in _ (List.mem_of_getElem? (i := 57) rfl)) rfl⟩
theorem kp_X6_24 : parseFieldDescriptor "[I" = some (tyX6 24) := by decide +kernel
theorem kl_X6_46 : FLk RX6 46 6 26 := ⟨_, _, _, rfl, Nat.le_of_ble_eq_true rfl, rfl, gw_of (q4_in _ (List.mem_of_getElem? (i := 59) rfl)) rfl⟩
theorem kp_X6_26 : parseFieldDescriptor "[I" = some (tyX6 26) := by decide +kernel
theorem kl_X6_49 : FLk RX6 49 6 27 := ⟨_, _, _, rfl, Nat.le_of_ble_eq_true rfl, rfl, gw_of (q4_in _ (List.mem_of_getElem? (i := 60) rfl)) rfl⟩
theorem kp_X6_27 : parseFieldDescriptor "[I" = some (tyX6 27) := by decide +kernel
theorem kl_X6_52 : FLk RX6 52 6 28 := ⟨_, _, _, rfl, Nat.le_of_ble_eq_true rfl, rfl, gw_of (q4_in _ (List.mem_of_getElem? (i := 61) rfl)) rfl⟩
theorem kp_X6_28 : parseFieldDescriptor "[I" = some (tyX6 28) := by decide +kernel
theorem kl_X6_55 : FLk RX6 55 6 30 := ⟨_, _, _, rfl, Nat.le_of_ble_eq_true rfl, rfl, gw_of (q4_in _ (List.mem_of_getElem? (i := 63) rfl)) rfl⟩
theorem kp_X6_30 : parseFieldDescriptor "[I" = some (tyX6 30) := by decide +kernel
theorem kl_X6_58 : FLk RX6 58 6 31 := ⟨_, _, _, rfl, Nat.le_of_ble_eq_true rfl, rfl, gw_of (q4_in _ (List.mem_of_getElem? (i := 64) rfl)) rfl⟩
theorem kp_X6_31 : parseFieldDescriptor "[Z" = some (tyX6 31) := by decide +kernel
theorem kl_X6_62 : FLk RX6 62 6 32 := ⟨_, _, _, rfl, Nat.le_of_ble_eq_true rfl, rfl, gw_of (q4_in _ (List.mem_of_getElem? (i := 65) rfl)) rfl⟩
theorem kp_X6_32 : parseFieldDescriptor "[I" = some (tyX6 32) := by decide +kernel
theorem kl_X6_65 : FLk RX6 65 6 33 := ⟨_, _, _, rfl, Nat.le_of_ble_eq_true rfl, rfl, gw_of (q4_in _ (List.mem_of_getElem? (i := 66) rfl)) rfl⟩
theorem kp_X6_33 : parseFieldDescriptor "[I" = some (tyX6 33) := by decide +kernel
theorem kl_X6_68 : FLk RX6 68 6 34 := ⟨_, _, _, rfl, Nat.le_of_ble_eq_true rfl, rfl, gw_of (q4_in _ (List.mem_of_getElem? (i := 67) rfl)) rfl⟩
theorem kp_X6_34 : parseFieldDescriptor "[I" = some (tyX6 34) := by decide +kernel
def mX6_init (M : Mem) : Mem := (upR (upR (up (up (up (up (upR (upR (upR (upR (upR (upR (upR (upR (upR (upR (upR (upR (up (up (up (up (up (up (up (up (up (up (up (up (up (up (up (up (up (up (up (up (up (up (up (up (up (up (up (up (up (up (up (up (up (up (up (up (up (up (upR (up (up (up (up (up (up (up (up (up (upR (upR (upR (up (up (up (up (upR (upR M 55 (fun _ => 0)) 56 (fun _ => 0)) 56 0 1) 56 1 0) 56 2 2) 56 3 3) 57 (fun _ => 0)) 58 (fun _ => 0)) 59 (fun _ => 0)) 59 0 0) 59 1 3) 59 2 9) 59 3 14) 59 4 18) 59 5 22) 59 6 29) 59 7 33) 59 8 38) 60 (fun _ => 0)) 60 0 116) 60 1 117) 60 2 98) 60 3 98) 60 4 111) 60 5 116) 60 6 116) 60 7 108) 60 8 101) 60 9 112) 60 10 105) 60 11 97) 60 12 110) 60 13 111) 60 14 99) 60 15 111) 60 16 111) 60 17 112) 60 18 104) 60 19 101) 60 20 105) 60 21 114) 60 22 99) 60 23 117) 60 24 114) 60 25 114) 60 26 101) 60 27 110) 60 28 116) 60 29 119) 60 30 105) 60 31 110) 60 32 100) 60 33 112) 60 34 104) 60 35 97) 60 36 115) 60 37 101) 61 (fun _ => 0)) 62 (fun _ => 0)) 63 (fun _ => 0)) 64 (fun _ => 0)) 65 (fun _ => 0)) 66 (fun _ => 0)) 67 (fun _ => 0)) 68 (fun _ => 0)) 69 (fun _ => 0)) 70 (fun _ => 0)) 71 (fun _ => 0)) 72 (fun _ => 0)) 72 0 (-4)) 72 1 (-4)) 72 2 (-4)) 72 3 (-4)) 73 (fun _ => 0)) 74 (fun _ => 0))
def rX6_init (R : RM) : RM := (upO (upOR (upO (upOR (upO (upOR (upO (upOR (upO (upOR (upO (upOR (upO (upOR (upO (upOR (upO (upOR (upO (upOR (upO (upOR (upO (upOR (upO (upOR (upO (upOR (upO (upOR (upO (upOR (upO (upOR (upO (upOR (upO (upOR (upO (upOR R 55 (fun _ => none)) 54 0 (some 55)) 56 (fun _ => none)) 54 1 (some 56)) 57 (fun _ => none)) 54 3 (some 57)) 58 (fun _ => none)) 54 8 (some 58)) 59 (fun _ => none)) 54 17 (some 59)) 60 (fun _ => none)) 54 18 (some 60)) 61 (fun _ => none)) 54 19 (some 61)) 62 (fun _ => none)) 54 20 (some 62)) 63 (fun _ => none)) 54 21 (some 63)) 64 (fun _ => none)) 54 22 (some 64)) 65 (fun _ => none)) 54 23 (some 65)) 66 (fun _ => none)) 54 24 (some 66)) 67 (fun _ => none)) 54 26 (some 67)) 68 (fun _ => none)) 54 27 (some 68)) 69 (fun _ => none)) 54 28 (some 69)) 70 (fun _ => none)) 54 30 (some 70)) 71 (fun _ => none)) 54 31 (some 71)) 72 (fun _ => none)) 54 32 (some 72)) 73 (fun _ => none)) 54 33 (some 73)) 74 (fun _ => none)) 54 34 (some 74))
theorem k_X6_init {E : GE} {B : Nat} {R : RM} {M : Mem} {Q : Nat → RM → Mem → Prop} (h : Q 75 (rX6_init R) (mX6_init M)) : RunsC E B mi_X6_init [.ref (ad E 54)] 55 R M Q := by
  refine RunsC.ofEc (by decide +kernel) (Nat.le_of_ble_eq_true rfl) ?_
  show Ec E B mi_X6_init 0 [(0, .ref (ad E 54))] [] 55 0 0 R M Q
  refine Ec.aload_n dX6_init_0 rfl 0 rfl ?_
  refine Ec.obj dX6_init_1 ko_X6 obj_i obj_c ⟨Nat.le_of_ble_eq_true rfl, Nat.le_of_ble_eq_true rfl⟩ ?_
  refine Ec.aload_n dX6_init_4 rfl 0 rfl ?_
  refine Ec.sipush (v := 360) dX6_init_5 rfl ?_
  refine Ec.newI (N := 360) dX6_init_8 rfl rfl (by decide) rfl (Nat.le_of_ble_eq_true rfl) arr_I (Nat.le_of_ble_eq_true rfl) (Nat.le_of_ble_eq_true rfl) ?_
  refine Ec.putR dX6_init_10 kl_X6_7 rfl (Nat.le_of_ble_eq_true rfl) rfl rfl kp_X6_0 rfl rfl rfl rfl ?_
  refine Ec.aload_n dX6_init_13 rfl 0 rfl ?_
  refine Ec.iconst (v := 4) dX6_init_14 rfl ?_
  refine Ec.newI (N := 4) dX6_init_15 rfl rfl (by decide) rfl (Nat.le_of_ble_eq_true rfl) arr_I (Nat.le_of_ble_eq_true rfl) (Nat.le_of_ble_eq_true rfl) ?_
  refine Ec.dup dX6_init_17 rfl ?_
  refine Ec.iconst (v := 0) dX6_init_18 rfl ?_
  refine Ec.iconst (v := 1) dX6_init_19 rfl ?_
  refine Ec.iast dX6_init_20 rfl (Nat.le_of_ble_eq_true rfl) rfl (vp_in_nI (n := 0) (Nat.le_of_ble_eq_true rfl) (by decide)) ?_
  refine Ec.dup dX6_init_21 rfl ?_
  refine Ec.iconst (v := 1) dX6_init_22 rfl ?_
  refine Ec.iconst (v := 0) dX6_init_23 rfl ?_
  refine Ec.iast dX6_init_24 rfl (Nat.le_of_ble_eq_true rfl) rfl (vp_in_nI (n := 1) (Nat.le_of_ble_eq_true rfl) (by decide)) ?_
  refine Ec.dup dX6_init_25 rfl ?_
  refine Ec.iconst (v := 2) dX6_init_26 rfl ?_
  refine Ec.iconst (v := 2) dX6_init_27 rfl ?_
  refine Ec.iast dX6_init_28 rfl (Nat.le_of_ble_eq_true rfl) rfl (vp_in_nI (n := 2) (Nat.le_of_ble_eq_true rfl) (by decide)) ?_
  refine Ec.dup dX6_init_29 rfl ?_
  refine Ec.iconst (v := 3) dX6_init_30 rfl ?_
  refine Ec.iconst (v := 3) dX6_init_31 rfl ?_
  refine Ec.iast dX6_init_32 rfl (Nat.le_of_ble_eq_true rfl) rfl (vp_in_nI (n := 3) (Nat.le_of_ble_eq_true rfl) (by decide)) ?_
  refine Ec.putR dX6_init_33 kl_X6_13 rfl (Nat.le_of_ble_eq_true rfl) rfl rfl kp_X6_1 rfl rfl rfl rfl ?_
  refine Ec.aload_n dX6_init_36 rfl 0 rfl ?_
  refine Ec.bipush (v := 72) dX6_init_37 rfl ?_
  refine Ec.newI (N := 72) dX6_init_39 rfl rfl (by decide) rfl (Nat.le_of_ble_eq_true rfl) arr_I (Nat.le_of_ble_eq_true rfl) (Nat.le_of_ble_eq_true rfl) ?_
  refine Ec.putR dX6_init_41 kl_X6_16 rfl (Nat.le_of_ble_eq_true rfl) rfl rfl kp_X6_3 rfl rfl rfl rfl ?_
  refine Ec.aload_n dX6_init_44 rfl 0 rfl ?_
  refine Ec.sipush (v := 160) dX6_init_45 rfl ?_
  refine Ec.newI (N := 160) dX6_init_48 rfl rfl (by decide) rfl (Nat.le_of_ble_eq_true rfl) arr_I (Nat.le_of_ble_eq_true rfl) (Nat.le_of_ble_eq_true rfl) ?_
  refine Ec.putR dX6_init_50 kl_X6_19 rfl (Nat.le_of_ble_eq_true rfl) rfl rfl kp_X6_8 rfl rfl rfl rfl ?_
  refine Ec.aload_n dX6_init_53 rfl 0 rfl ?_
  refine Ec.bipush (v := 9) dX6_init_54 rfl ?_
  refine Ec.newI (N := 9) dX6_init_56 rfl rfl (by decide) rfl (Nat.le_of_ble_eq_true rfl) arr_I (Nat.le_of_ble_eq_true rfl) (Nat.le_of_ble_eq_true rfl) ?_
  refine Ec.dup dX6_init_58 rfl ?_
  refine Ec.iconst (v := 0) dX6_init_59 rfl ?_
  refine Ec.iconst (v := 0) dX6_init_60 rfl ?_
  refine Ec.iast dX6_init_61 rfl (Nat.le_of_ble_eq_true rfl) rfl (vp_in_nI (n := 0) (Nat.le_of_ble_eq_true rfl) (by decide)) ?_
  refine Ec.dup dX6_init_62 rfl ?_
  refine Ec.iconst (v := 1) dX6_init_63 rfl ?_
  refine Ec.iconst (v := 3) dX6_init_64 rfl ?_
  refine Ec.iast dX6_init_65 rfl (Nat.le_of_ble_eq_true rfl) rfl (vp_in_nI (n := 1) (Nat.le_of_ble_eq_true rfl) (by decide)) ?_
  refine Ec.dup dX6_init_66 rfl ?_
  refine Ec.iconst (v := 2) dX6_init_67 rfl ?_
  refine Ec.bipush (v := 9) dX6_init_68 rfl ?_
  refine Ec.iast dX6_init_70 rfl (Nat.le_of_ble_eq_true rfl) rfl (vp_in_nI (n := 2) (Nat.le_of_ble_eq_true rfl) (by decide)) ?_
  refine Ec.dup dX6_init_71 rfl ?_
  refine Ec.iconst (v := 3) dX6_init_72 rfl ?_
  refine Ec.bipush (v := 14) dX6_init_73 rfl ?_
  refine Ec.iast dX6_init_75 rfl (Nat.le_of_ble_eq_true rfl) rfl (vp_in_nI (n := 3) (Nat.le_of_ble_eq_true rfl) (by decide)) ?_
  refine Ec.dup dX6_init_76 rfl ?_
  refine Ec.iconst (v := 4) dX6_init_77 rfl ?_
  refine Ec.bipush (v := 18) dX6_init_78 rfl ?_
  refine Ec.iast dX6_init_80 rfl (Nat.le_of_ble_eq_true rfl) rfl (vp_in_nI (n := 4) (Nat.le_of_ble_eq_true rfl) (by decide)) ?_
  refine Ec.dup dX6_init_81 rfl ?_
  refine Ec.iconst (v := 5) dX6_init_82 rfl ?_
  refine Ec.bipush (v := 22) dX6_init_83 rfl ?_
  refine Ec.iast dX6_init_85 rfl (Nat.le_of_ble_eq_true rfl) rfl (vp_in_nI (n := 5) (Nat.le_of_ble_eq_true rfl) (by decide)) ?_
  refine Ec.dup dX6_init_86 rfl ?_
  refine Ec.bipush (v := 6) dX6_init_87 rfl ?_
  refine Ec.bipush (v := 29) dX6_init_89 rfl ?_
  refine Ec.iast dX6_init_91 rfl (Nat.le_of_ble_eq_true rfl) rfl (vp_in_nI (n := 6) (Nat.le_of_ble_eq_true rfl) (by decide)) ?_
  refine Ec.dup dX6_init_92 rfl ?_
  refine Ec.bipush (v := 7) dX6_init_93 rfl ?_
  refine Ec.bipush (v := 33) dX6_init_95 rfl ?_
  refine Ec.iast dX6_init_97 rfl (Nat.le_of_ble_eq_true rfl) rfl (vp_in_nI (n := 7) (Nat.le_of_ble_eq_true rfl) (by decide)) ?_
  refine Ec.dup dX6_init_98 rfl ?_
  refine Ec.bipush (v := 8) dX6_init_99 rfl ?_
  refine Ec.bipush (v := 38) dX6_init_101 rfl ?_
  refine Ec.iast dX6_init_103 rfl (Nat.le_of_ble_eq_true rfl) rfl (vp_in_nI (n := 8) (Nat.le_of_ble_eq_true rfl) (by decide)) ?_
  refine Ec.putR dX6_init_104 kl_X6_22 rfl (Nat.le_of_ble_eq_true rfl) rfl rfl kp_X6_17 rfl rfl rfl rfl ?_
  refine Ec.aload_n dX6_init_107 rfl 0 rfl ?_
  refine Ec.bipush (v := 38) dX6_init_108 rfl ?_
  refine Ec.newI (N := 38) dX6_init_110 rfl rfl (by decide) rfl (Nat.le_of_ble_eq_true rfl) arr_I (Nat.le_of_ble_eq_true rfl) (Nat.le_of_ble_eq_true rfl) ?_
  refine Ec.dup dX6_init_112 rfl ?_
  refine Ec.iconst (v := 0) dX6_init_113 rfl ?_
  refine Ec.bipush (v := 116) dX6_init_114 rfl ?_
  refine Ec.iast dX6_init_116 rfl (Nat.le_of_ble_eq_true rfl) rfl (vp_in_nI (n := 0) (Nat.le_of_ble_eq_true rfl) (by decide)) ?_
  refine Ec.dup dX6_init_117 rfl ?_
  refine Ec.iconst (v := 1) dX6_init_118 rfl ?_
  refine Ec.bipush (v := 117) dX6_init_119 rfl ?_
  refine Ec.iast dX6_init_121 rfl (Nat.le_of_ble_eq_true rfl) rfl (vp_in_nI (n := 1) (Nat.le_of_ble_eq_true rfl) (by decide)) ?_
  refine Ec.dup dX6_init_122 rfl ?_
  refine Ec.iconst (v := 2) dX6_init_123 rfl ?_
  refine Ec.bipush (v := 98) dX6_init_124 rfl ?_
  refine Ec.iast dX6_init_126 rfl (Nat.le_of_ble_eq_true rfl) rfl (vp_in_nI (n := 2) (Nat.le_of_ble_eq_true rfl) (by decide)) ?_
  refine Ec.dup dX6_init_127 rfl ?_
  refine Ec.iconst (v := 3) dX6_init_128 rfl ?_
  refine Ec.bipush (v := 98) dX6_init_129 rfl ?_
  refine Ec.iast dX6_init_131 rfl (Nat.le_of_ble_eq_true rfl) rfl (vp_in_nI (n := 3) (Nat.le_of_ble_eq_true rfl) (by decide)) ?_
  refine Ec.dup dX6_init_132 rfl ?_
  refine Ec.iconst (v := 4) dX6_init_133 rfl ?_
  refine Ec.bipush (v := 111) dX6_init_134 rfl ?_
  refine Ec.iast dX6_init_136 rfl (Nat.le_of_ble_eq_true rfl) rfl (vp_in_nI (n := 4) (Nat.le_of_ble_eq_true rfl) (by decide)) ?_
  refine Ec.dup dX6_init_137 rfl ?_
  refine Ec.iconst (v := 5) dX6_init_138 rfl ?_
  refine Ec.bipush (v := 116) dX6_init_139 rfl ?_
  refine Ec.iast dX6_init_141 rfl (Nat.le_of_ble_eq_true rfl) rfl (vp_in_nI (n := 5) (Nat.le_of_ble_eq_true rfl) (by decide)) ?_
  refine Ec.dup dX6_init_142 rfl ?_
  refine Ec.bipush (v := 6) dX6_init_143 rfl ?_
  refine Ec.bipush (v := 116) dX6_init_145 rfl ?_
  refine Ec.iast dX6_init_147 rfl (Nat.le_of_ble_eq_true rfl) rfl (vp_in_nI (n := 6) (Nat.le_of_ble_eq_true rfl) (by decide)) ?_
  refine Ec.dup dX6_init_148 rfl ?_
  refine Ec.bipush (v := 7) dX6_init_149 rfl ?_
  refine Ec.bipush (v := 108) dX6_init_151 rfl ?_
  refine Ec.iast dX6_init_153 rfl (Nat.le_of_ble_eq_true rfl) rfl (vp_in_nI (n := 7) (Nat.le_of_ble_eq_true rfl) (by decide)) ?_
  refine Ec.dup dX6_init_154 rfl ?_
  refine Ec.bipush (v := 8) dX6_init_155 rfl ?_
  refine Ec.bipush (v := 101) dX6_init_157 rfl ?_
  refine Ec.iast dX6_init_159 rfl (Nat.le_of_ble_eq_true rfl) rfl (vp_in_nI (n := 8) (Nat.le_of_ble_eq_true rfl) (by decide)) ?_
  refine Ec.dup dX6_init_160 rfl ?_
  refine Ec.bipush (v := 9) dX6_init_161 rfl ?_
  refine Ec.bipush (v := 112) dX6_init_163 rfl ?_
  refine Ec.iast dX6_init_165 rfl (Nat.le_of_ble_eq_true rfl) rfl (vp_in_nI (n := 9) (Nat.le_of_ble_eq_true rfl) (by decide)) ?_
  refine Ec.dup dX6_init_166 rfl ?_
  refine Ec.bipush (v := 10) dX6_init_167 rfl ?_
  refine Ec.bipush (v := 105) dX6_init_169 rfl ?_
  refine Ec.iast dX6_init_171 rfl (Nat.le_of_ble_eq_true rfl) rfl (vp_in_nI (n := 10) (Nat.le_of_ble_eq_true rfl) (by decide)) ?_
  refine Ec.dup dX6_init_172 rfl ?_
  refine Ec.bipush (v := 11) dX6_init_173 rfl ?_
  refine Ec.bipush (v := 97) dX6_init_175 rfl ?_
  refine Ec.iast dX6_init_177 rfl (Nat.le_of_ble_eq_true rfl) rfl (vp_in_nI (n := 11) (Nat.le_of_ble_eq_true rfl) (by decide)) ?_
  refine Ec.dup dX6_init_178 rfl ?_
  refine Ec.bipush (v := 12) dX6_init_179 rfl ?_
  refine Ec.bipush (v := 110) dX6_init_181 rfl ?_
  refine Ec.iast dX6_init_183 rfl (Nat.le_of_ble_eq_true rfl) rfl (vp_in_nI (n := 12) (Nat.le_of_ble_eq_true rfl) (by decide)) ?_
  refine Ec.dup dX6_init_184 rfl ?_
  refine Ec.bipush (v := 13) dX6_init_185 rfl ?_
  refine Ec.bipush (v := 111) dX6_init_187 rfl ?_
  refine Ec.iast dX6_init_189 rfl (Nat.le_of_ble_eq_true rfl) rfl (vp_in_nI (n := 13) (Nat.le_of_ble_eq_true rfl) (by decide)) ?_
  refine Ec.dup dX6_init_190 rfl ?_
  refine Ec.bipush (v := 14) dX6_init_191 rfl ?_
  refine Ec.bipush (v := 99) dX6_init_193 rfl ?_
  refine Ec.iast dX6_init_195 rfl (Nat.le_of_ble_eq_true rfl) rfl (vp_in_nI (n := 14) (Nat.le_of_ble_eq_true rfl) (by decide)) ?_
  refine Ec.dup dX6_init_196 rfl ?_
  refine Ec.bipush (v := 15) dX6_init_197 rfl ?_
  refine Ec.bipush (v := 111) dX6_init_199 rfl ?_
  refine Ec.iast dX6_init_201 rfl (Nat.le_of_ble_eq_true rfl) rfl (vp_in_nI (n := 15) (Nat.le_of_ble_eq_true rfl) (by decide)) ?_
  refine Ec.dup dX6_init_202 rfl ?_
  refine Ec.bipush (v := 16) dX6_init_203 rfl ?_
  refine Ec.bipush (v := 111) dX6_init_205 rfl ?_
  refine Ec.iast dX6_init_207 rfl (Nat.le_of_ble_eq_true rfl) rfl (vp_in_nI (n := 16) (Nat.le_of_ble_eq_true rfl) (by decide)) ?_
  refine Ec.dup dX6_init_208 rfl ?_
  refine Ec.bipush (v := 17) dX6_init_209 rfl ?_
  refine Ec.bipush (v := 112) dX6_init_211 rfl ?_
  refine Ec.iast dX6_init_213 rfl (Nat.le_of_ble_eq_true rfl) rfl (vp_in_nI (n := 17) (Nat.le_of_ble_eq_true rfl) (by decide)) ?_
  refine Ec.dup dX6_init_214 rfl ?_
  refine Ec.bipush (v := 18) dX6_init_215 rfl ?_
  refine Ec.bipush (v := 104) dX6_init_217 rfl ?_
  refine Ec.iast dX6_init_219 rfl (Nat.le_of_ble_eq_true rfl) rfl (vp_in_nI (n := 18) (Nat.le_of_ble_eq_true rfl) (by decide)) ?_
  refine Ec.dup dX6_init_220 rfl ?_
  refine Ec.bipush (v := 19) dX6_init_221 rfl ?_
  refine Ec.bipush (v := 101) dX6_init_223 rfl ?_
  refine Ec.iast dX6_init_225 rfl (Nat.le_of_ble_eq_true rfl) rfl (vp_in_nI (n := 19) (Nat.le_of_ble_eq_true rfl) (by decide)) ?_
  refine Ec.dup dX6_init_226 rfl ?_
  refine Ec.bipush (v := 20) dX6_init_227 rfl ?_
  refine Ec.bipush (v := 105) dX6_init_229 rfl ?_
  refine Ec.iast dX6_init_231 rfl (Nat.le_of_ble_eq_true rfl) rfl (vp_in_nI (n := 20) (Nat.le_of_ble_eq_true rfl) (by decide)) ?_
  refine Ec.dup dX6_init_232 rfl ?_
  refine Ec.bipush (v := 21) dX6_init_233 rfl ?_
  refine Ec.bipush (v := 114) dX6_init_235 rfl ?_
  refine Ec.iast dX6_init_237 rfl (Nat.le_of_ble_eq_true rfl) rfl (vp_in_nI (n := 21) (Nat.le_of_ble_eq_true rfl) (by decide)) ?_
  refine Ec.dup dX6_init_238 rfl ?_
  refine Ec.bipush (v := 22) dX6_init_239 rfl ?_
  refine Ec.bipush (v := 99) dX6_init_241 rfl ?_
  refine Ec.iast dX6_init_243 rfl (Nat.le_of_ble_eq_true rfl) rfl (vp_in_nI (n := 22) (Nat.le_of_ble_eq_true rfl) (by decide)) ?_
  refine Ec.dup dX6_init_244 rfl ?_
  refine Ec.bipush (v := 23) dX6_init_245 rfl ?_
  refine Ec.bipush (v := 117) dX6_init_247 rfl ?_
  refine Ec.iast dX6_init_249 rfl (Nat.le_of_ble_eq_true rfl) rfl (vp_in_nI (n := 23) (Nat.le_of_ble_eq_true rfl) (by decide)) ?_
  refine Ec.dup dX6_init_250 rfl ?_
  refine Ec.bipush (v := 24) dX6_init_251 rfl ?_
  refine Ec.bipush (v := 114) dX6_init_253 rfl ?_
  refine Ec.iast dX6_init_255 rfl (Nat.le_of_ble_eq_true rfl) rfl (vp_in_nI (n := 24) (Nat.le_of_ble_eq_true rfl) (by decide)) ?_
  refine Ec.dup dX6_init_256 rfl ?_
  refine Ec.bipush (v := 25) dX6_init_257 rfl ?_
  refine Ec.bipush (v := 114) dX6_init_259 rfl ?_
  refine Ec.iast dX6_init_261 rfl (Nat.le_of_ble_eq_true rfl) rfl (vp_in_nI (n := 25) (Nat.le_of_ble_eq_true rfl) (by decide)) ?_
  refine Ec.dup dX6_init_262 rfl ?_
  refine Ec.bipush (v := 26) dX6_init_263 rfl ?_
  refine Ec.bipush (v := 101) dX6_init_265 rfl ?_
  refine Ec.iast dX6_init_267 rfl (Nat.le_of_ble_eq_true rfl) rfl (vp_in_nI (n := 26) (Nat.le_of_ble_eq_true rfl) (by decide)) ?_
  refine Ec.dup dX6_init_268 rfl ?_
  refine Ec.bipush (v := 27) dX6_init_269 rfl ?_
  refine Ec.bipush (v := 110) dX6_init_271 rfl ?_
  refine Ec.iast dX6_init_273 rfl (Nat.le_of_ble_eq_true rfl) rfl (vp_in_nI (n := 27) (Nat.le_of_ble_eq_true rfl) (by decide)) ?_
  refine Ec.dup dX6_init_274 rfl ?_
  refine Ec.bipush (v := 28) dX6_init_275 rfl ?_
  refine Ec.bipush (v := 116) dX6_init_277 rfl ?_
  refine Ec.iast dX6_init_279 rfl (Nat.le_of_ble_eq_true rfl) rfl (vp_in_nI (n := 28) (Nat.le_of_ble_eq_true rfl) (by decide)) ?_
  refine Ec.dup dX6_init_280 rfl ?_
  refine Ec.bipush (v := 29) dX6_init_281 rfl ?_
  refine Ec.bipush (v := 119) dX6_init_283 rfl ?_
  refine Ec.iast dX6_init_285 rfl (Nat.le_of_ble_eq_true rfl) rfl (vp_in_nI (n := 29) (Nat.le_of_ble_eq_true rfl) (by decide)) ?_
  refine Ec.dup dX6_init_286 rfl ?_
  refine Ec.bipush (v := 30) dX6_init_287 rfl ?_
  refine Ec.bipush (v := 105) dX6_init_289 rfl ?_
  refine Ec.iast dX6_init_291 rfl (Nat.le_of_ble_eq_true rfl) rfl (vp_in_nI (n := 30) (Nat.le_of_ble_eq_true rfl) (by decide)) ?_
  refine Ec.dup dX6_init_292 rfl ?_
  refine Ec.bipush (v := 31) dX6_init_293 rfl ?_
  refine Ec.bipush (v := 110) dX6_init_295 rfl ?_
  refine Ec.iast dX6_init_297 rfl (Nat.le_of_ble_eq_true rfl) rfl (vp_in_nI (n := 31) (Nat.le_of_ble_eq_true rfl) (by decide)) ?_
  refine Ec.dup dX6_init_298 rfl ?_
  refine Ec.bipush (v := 32) dX6_init_299 rfl ?_
  refine Ec.bipush (v := 100) dX6_init_301 rfl ?_
  refine Ec.iast dX6_init_303 rfl (Nat.le_of_ble_eq_true rfl) rfl (vp_in_nI (n := 32) (Nat.le_of_ble_eq_true rfl) (by decide)) ?_
  refine Ec.dup dX6_init_304 rfl ?_
  refine Ec.bipush (v := 33) dX6_init_305 rfl ?_
  refine Ec.bipush (v := 112) dX6_init_307 rfl ?_
  refine Ec.iast dX6_init_309 rfl (Nat.le_of_ble_eq_true rfl) rfl (vp_in_nI (n := 33) (Nat.le_of_ble_eq_true rfl) (by decide)) ?_
  refine Ec.dup dX6_init_310 rfl ?_
  refine Ec.bipush (v := 34) dX6_init_311 rfl ?_
  refine Ec.bipush (v := 104) dX6_init_313 rfl ?_
  refine Ec.iast dX6_init_315 rfl (Nat.le_of_ble_eq_true rfl) rfl (vp_in_nI (n := 34) (Nat.le_of_ble_eq_true rfl) (by decide)) ?_
  refine Ec.dup dX6_init_316 rfl ?_
  refine Ec.bipush (v := 35) dX6_init_317 rfl ?_
  refine Ec.bipush (v := 97) dX6_init_319 rfl ?_
  refine Ec.iast dX6_init_321 rfl (Nat.le_of_ble_eq_true rfl) rfl (vp_in_nI (n := 35) (Nat.le_of_ble_eq_true rfl) (by decide)) ?_
  refine Ec.dup dX6_init_322 rfl ?_
  refine Ec.bipush (v := 36) dX6_init_323 rfl ?_
  refine Ec.bipush (v := 115) dX6_init_325 rfl ?_
  refine Ec.iast dX6_init_327 rfl (Nat.le_of_ble_eq_true rfl) rfl (vp_in_nI (n := 36) (Nat.le_of_ble_eq_true rfl) (by decide)) ?_
  refine Ec.dup dX6_init_328 rfl ?_
  refine Ec.bipush (v := 37) dX6_init_329 rfl ?_
  refine Ec.bipush (v := 101) dX6_init_331 rfl ?_
  refine Ec.iast dX6_init_333 rfl (Nat.le_of_ble_eq_true rfl) rfl (vp_in_nI (n := 37) (Nat.le_of_ble_eq_true rfl) (by decide)) ?_
  refine Ec.putR dX6_init_334 kl_X6_25 rfl (Nat.le_of_ble_eq_true rfl) rfl rfl kp_X6_18 rfl rfl rfl rfl ?_
  refine Ec.aload_n dX6_init_337 rfl 0 rfl ?_
  refine Ec.iconst (v := 4) dX6_init_338 rfl ?_
  refine Ec.newI (N := 4) dX6_init_339 rfl rfl (by decide) rfl (Nat.le_of_ble_eq_true rfl) arr_I (Nat.le_of_ble_eq_true rfl) (Nat.le_of_ble_eq_true rfl) ?_
  refine Ec.putR dX6_init_341 kl_X6_28 rfl (Nat.le_of_ble_eq_true rfl) rfl rfl kp_X6_19 rfl rfl rfl rfl ?_
  refine Ec.aload_n dX6_init_344 rfl 0 rfl ?_
  refine Ec.iconst (v := 4) dX6_init_345 rfl ?_
  refine Ec.newI (N := 4) dX6_init_346 rfl rfl (by decide) rfl (Nat.le_of_ble_eq_true rfl) arr_I (Nat.le_of_ble_eq_true rfl) (Nat.le_of_ble_eq_true rfl) ?_
  refine Ec.putR dX6_init_348 kl_X6_31 rfl (Nat.le_of_ble_eq_true rfl) rfl rfl kp_X6_20 rfl rfl rfl rfl ?_
  refine Ec.aload_n dX6_init_351 rfl 0 rfl ?_
  refine Ec.iconst (v := 4) dX6_init_352 rfl ?_
  refine Ec.newI (N := 4) dX6_init_353 rfl rfl (by decide) rfl (Nat.le_of_ble_eq_true rfl) arr_I (Nat.le_of_ble_eq_true rfl) (Nat.le_of_ble_eq_true rfl) ?_
  refine Ec.putR dX6_init_355 kl_X6_34 rfl (Nat.le_of_ble_eq_true rfl) rfl rfl kp_X6_21 rfl rfl rfl rfl ?_
  refine Ec.aload_n dX6_init_358 rfl 0 rfl ?_
  refine Ec.iconst (v := 4) dX6_init_359 rfl ?_
  refine Ec.newI (N := 4) dX6_init_360 rfl rfl (by decide) rfl (Nat.le_of_ble_eq_true rfl) arr_I (Nat.le_of_ble_eq_true rfl) (Nat.le_of_ble_eq_true rfl) ?_
  refine Ec.putR dX6_init_362 kl_X6_37 rfl (Nat.le_of_ble_eq_true rfl) rfl rfl kp_X6_22 rfl rfl rfl rfl ?_
  refine Ec.aload_n dX6_init_365 rfl 0 rfl ?_
  refine Ec.iconst (v := 4) dX6_init_366 rfl ?_
  refine Ec.newI (N := 4) dX6_init_367 rfl rfl (by decide) rfl (Nat.le_of_ble_eq_true rfl) arr_I (Nat.le_of_ble_eq_true rfl) (Nat.le_of_ble_eq_true rfl) ?_
  refine Ec.putR dX6_init_369 kl_X6_40 rfl (Nat.le_of_ble_eq_true rfl) rfl rfl kp_X6_23 rfl rfl rfl rfl ?_
  refine Ec.aload_n dX6_init_372 rfl 0 rfl ?_
  refine Ec.iconst (v := 4) dX6_init_373 rfl ?_
  refine Ec.newI (N := 4) dX6_init_374 rfl rfl (by decide) rfl (Nat.le_of_ble_eq_true rfl) arr_I (Nat.le_of_ble_eq_true rfl) (Nat.le_of_ble_eq_true rfl) ?_
  refine Ec.putR dX6_init_376 kl_X6_43 rfl (Nat.le_of_ble_eq_true rfl) rfl rfl kp_X6_24 rfl rfl rfl rfl ?_
  refine Ec.aload_n dX6_init_379 rfl 0 rfl ?_
  refine Ec.bipush (v := 100) dX6_init_380 rfl ?_
  refine Ec.newI (N := 100) dX6_init_382 rfl rfl (by decide) rfl (Nat.le_of_ble_eq_true rfl) arr_I (Nat.le_of_ble_eq_true rfl) (Nat.le_of_ble_eq_true rfl) ?_
  refine Ec.putR dX6_init_384 kl_X6_46 rfl (Nat.le_of_ble_eq_true rfl) rfl rfl kp_X6_26 rfl rfl rfl rfl ?_
  refine Ec.aload_n dX6_init_387 rfl 0 rfl ?_
  refine Ec.bipush (v := 100) dX6_init_388 rfl ?_
  refine Ec.newI (N := 100) dX6_init_390 rfl rfl (by decide) rfl (Nat.le_of_ble_eq_true rfl) arr_I (Nat.le_of_ble_eq_true rfl) (Nat.le_of_ble_eq_true rfl) ?_
  refine Ec.putR dX6_init_392 kl_X6_49 rfl (Nat.le_of_ble_eq_true rfl) rfl rfl kp_X6_27 rfl rfl rfl rfl ?_
  refine Ec.aload_n dX6_init_395 rfl 0 rfl ?_
  refine Ec.bipush (v := 18) dX6_init_396 rfl ?_
  refine Ec.newI (N := 18) dX6_init_398 rfl rfl (by decide) rfl (Nat.le_of_ble_eq_true rfl) arr_I (Nat.le_of_ble_eq_true rfl) (Nat.le_of_ble_eq_true rfl) ?_
  refine Ec.putR dX6_init_400 kl_X6_52 rfl (Nat.le_of_ble_eq_true rfl) rfl rfl kp_X6_28 rfl rfl rfl rfl ?_
  refine Ec.aload_n dX6_init_403 rfl 0 rfl ?_
  refine Ec.bipush (v := 100) dX6_init_404 rfl ?_
  refine Ec.newI (N := 100) dX6_init_406 rfl rfl (by decide) rfl (Nat.le_of_ble_eq_true rfl) arr_I (Nat.le_of_ble_eq_true rfl) (Nat.le_of_ble_eq_true rfl) ?_
  refine Ec.putR dX6_init_408 kl_X6_55 rfl (Nat.le_of_ble_eq_true rfl) rfl rfl kp_X6_30 rfl rfl rfl rfl ?_
  refine Ec.aload_n dX6_init_411 rfl 0 rfl ?_
  refine Ec.iconst (v := 2) dX6_init_412 rfl ?_
  refine Ec.newZ (N := 2) dX6_init_413 rfl rfl (by decide) rfl (Nat.le_of_ble_eq_true rfl) arr_Z (Nat.le_of_ble_eq_true rfl) (Nat.le_of_ble_eq_true rfl) ?_
  refine Ec.putR dX6_init_415 kl_X6_58 rfl (Nat.le_of_ble_eq_true rfl) rfl rfl kp_X6_31 rfl rfl rfl rfl ?_
  refine Ec.aload_n dX6_init_418 rfl 0 rfl ?_
  refine Ec.iconst (v := 4) dX6_init_419 rfl ?_
  refine Ec.newI (N := 4) dX6_init_420 rfl rfl (by decide) rfl (Nat.le_of_ble_eq_true rfl) arr_I (Nat.le_of_ble_eq_true rfl) (Nat.le_of_ble_eq_true rfl) ?_
  refine Ec.dup dX6_init_422 rfl ?_
  refine Ec.iconst (v := 0) dX6_init_423 rfl ?_
  refine Ec.bipush (v := (-4)) dX6_init_424 rfl ?_
  refine Ec.iast dX6_init_426 rfl (Nat.le_of_ble_eq_true rfl) rfl (vp_in_nI (n := 0) (Nat.le_of_ble_eq_true rfl) (by decide)) ?_
  refine Ec.dup dX6_init_427 rfl ?_
  refine Ec.iconst (v := 1) dX6_init_428 rfl ?_
  refine Ec.bipush (v := (-4)) dX6_init_429 rfl ?_
  refine Ec.iast dX6_init_431 rfl (Nat.le_of_ble_eq_true rfl) rfl (vp_in_nI (n := 1) (Nat.le_of_ble_eq_true rfl) (by decide)) ?_
  refine Ec.dup dX6_init_432 rfl ?_
  refine Ec.iconst (v := 2) dX6_init_433 rfl ?_
  refine Ec.bipush (v := (-4)) dX6_init_434 rfl ?_
  refine Ec.iast dX6_init_436 rfl (Nat.le_of_ble_eq_true rfl) rfl (vp_in_nI (n := 2) (Nat.le_of_ble_eq_true rfl) (by decide)) ?_
  refine Ec.dup dX6_init_437 rfl ?_
  refine Ec.iconst (v := 3) dX6_init_438 rfl ?_
  refine Ec.bipush (v := (-4)) dX6_init_439 rfl ?_
  refine Ec.iast dX6_init_441 rfl (Nat.le_of_ble_eq_true rfl) rfl (vp_in_nI (n := 3) (Nat.le_of_ble_eq_true rfl) (by decide)) ?_
  refine Ec.putR dX6_init_442 kl_X6_62 rfl (Nat.le_of_ble_eq_true rfl) rfl rfl kp_X6_32 rfl rfl rfl rfl ?_
  refine Ec.aload_n dX6_init_445 rfl 0 rfl ?_
  refine Ec.iconst (v := 4) dX6_init_446 rfl ?_
  refine Ec.newI (N := 4) dX6_init_447 rfl rfl (by decide) rfl (Nat.le_of_ble_eq_true rfl) arr_I (Nat.le_of_ble_eq_true rfl) (Nat.le_of_ble_eq_true rfl) ?_
  refine Ec.putR dX6_init_449 kl_X6_65 rfl (Nat.le_of_ble_eq_true rfl) rfl rfl kp_X6_33 rfl rfl rfl rfl ?_
  refine Ec.aload_n dX6_init_452 rfl 0 rfl ?_
  refine Ec.sipush (v := 160) dX6_init_453 rfl ?_
  refine Ec.newI (N := 160) dX6_init_456 rfl rfl (by decide) rfl (Nat.le_of_ble_eq_true rfl) arr_I (Nat.le_of_ble_eq_true rfl) (Nat.le_of_ble_eq_true rfl) ?_
  refine Ec.putR dX6_init_458 kl_X6_68 rfl (Nat.le_of_ble_eq_true rfl) rfl rfl kp_X6_34 rfl rfl rfl rfl ?_
  exact Ec.vret dX6_init_461 rfl rfl rfl h
