/-! what a function says of a run -/
def wp {α : Type} (x : Option α) (g : α → Option Value × Mem) (Q : Option Value → Mem → Prop) : Prop := ∃ a, x = some a ∧ Q (g a).1 (g a).2
abbrev gI (M : Mem) : Int32 → Option Value × Mem := fun r => (some (.int r), M)
abbrev gL (M : Mem) : Int64 → Option Value × Mem := fun r => (some (.long r), M)
abbrev gU (M : Mem) : Unit → Option Value × Mem := fun _ => (none, M)
abbrev gIM : Int32 × Mem → Option Value × Mem := fun x => (some (.int x.1), x.2)
abbrev gLM : Int64 × Mem → Option Value × Mem := fun x => (some (.long x.1), x.2)
abbrev gVM : Mem → Option Value × Mem := fun m => (none, m)
def li {α : Type} (v : Int32) (f : Int32 → Option α) : Option α := f v
def ll {α : Type} (v : Int64) (f : Int64 → Option α) : Option α := f v
def lm {α : Type} (v : Mem) (f : Mem → Option α) : Option α := f v
def rd {α : Type} (f : Nat → Int32) (n : Nat) (i : Int32) (k : Int32 → Option α) : Option α := if i < 0 ∨ n ≤ i.toNatClampNeg then none else k (f i.toNatClampNeg)
def inb {α : Type} (i : Int32) (n : Nat) (x : Option α) : Option α := if i < 0 ∨ n ≤ i.toNatClampNeg then none else x
def ck {α : Type} (ty : FieldType) (v : Int32) (x : Option α) : Option α := if vp_nar ty v = v then x else none
def nz {α : Type} (v : Int32) (x : Option α) : Option α := if v = 0 then none else x
def nzL {α : Type} (v : Int64) (x : Option α) : Option α := if v = 0 then none else x
theorem fu_ex : ∃ n : Nat, n = 4096 := ⟨4096, rfl⟩
noncomputable def FU : Nat := Classical.choose fu_ex
theorem FU_eq : FU = 4096 := Classical.choose_spec fu_ex
theorem FU_gt {n : Nat} (h : n < 4096) : n < FU := by rw [FU_eq]; exact h
def sbV (i : Nat) : Nat → Int32 := fun j => (tx_byt.getD i []).getD j 0
def sbL (i : Nat) : Nat := tx_len.getD i 0
section WP
variable {α β : Type} {g : α → Option Value × Mem} {Q : Option Value → Mem → Prop}
theorem wp_none : ¬ wp (none : Option α) g Q := fun ⟨_, h, _⟩ => by cases h
theorem wp_ret {a : α} (h : wp (some a) g Q) : Q (g a).1 (g a).2 := by
  obtain ⟨b, hb, h⟩ := h
  cases hb
  exact h
theorem wp_t {c : Prop} [Decidable c] {x y : Option α} (hc : c) (h : wp (if c then x else y) g Q) : wp x g Q := by rwa [if_pos hc] at h
theorem wp_f {c : Prop} [Decidable c] {x y : Option α} (hc : ¬ c) (h : wp (if c then x else y) g Q) : wp y g Q := by rwa [if_neg hc] at h
theorem wp_li {v : Int32} {f : Int32 → Option α} (h : wp (li v f) g Q) : ∀ y, y = v → wp (f y) g Q := fun y e => by rw [e]; exact h
theorem wp_ll {v : Int64} {f : Int64 → Option α} (h : wp (ll v f) g Q) : ∀ y, y = v → wp (f y) g Q := fun y e => by rw [e]; exact h
theorem wp_lm {v : Mem} {f : Mem → Option α} (h : wp (lm v f) g Q) : ∀ y, y = v → wp (f y) g Q := fun y e => by rw [e]; exact h
theorem wp_rd {f : Nat → Int32} {n : Nat} {i : Int32} {k : Int32 → Option α} (h : wp (rd f n i k) g Q) : vp_in i n ∧ ∀ y, y = f i.toNatClampNeg → wp (k y) g Q := by
  unfold rd at h
  by_cases hc : i < 0 ∨ n ≤ i.toNatClampNeg
  · rw [if_pos hc] at h
    exact absurd h wp_none
  · rw [if_neg hc] at h
    exact ⟨hc, fun y e => by rw [e]; exact h⟩
theorem wp_inb {n : Nat} {i : Int32} {x : Option α} (h : wp (inb i n x) g Q) : vp_in i n ∧ wp x g Q := by
  unfold inb at h
  by_cases hc : i < 0 ∨ n ≤ i.toNatClampNeg
  · rw [if_pos hc] at h
    exact absurd h wp_none
  · rw [if_neg hc] at h
    exact ⟨hc, h⟩
theorem wp_ck {ty : FieldType} {v : Int32} {x : Option α} (h : wp (ck ty v x) g Q) : vp_nar ty v = v ∧ wp x g Q := by
  unfold ck at h
  by_cases hc : vp_nar ty v = v
  · rw [if_pos hc] at h
    exact ⟨hc, h⟩
  · rw [if_neg hc] at h
    exact absurd h wp_none
theorem wp_nz {v : Int32} {x : Option α} (h : wp (nz v x) g Q) : ¬ v = 0 ∧ wp x g Q := by
  unfold nz at h
  by_cases hc : v = 0
  · rw [if_pos hc] at h
    exact absurd h wp_none
  · rw [if_neg hc] at h
    exact ⟨hc, h⟩
theorem wp_nzL {v : Int64} {x : Option α} (h : wp (nzL v x) g Q) : ¬ v = 0 ∧ wp x g Q := by
  unfold nzL at h
  by_cases hc : v = 0
  · rw [if_pos hc] at h
    exact absurd h wp_none
  · rw [if_neg hc] at h
    exact ⟨hc, h⟩
theorem wp_bind {x : Option β} {k : β → Option α} (h : wp (x.bind k) g Q) : ∃ b, x = some b ∧ wp (k b) g Q := by
  obtain ⟨a, ha, h⟩ := h
  cases x with
  | none => cases ha
  | some b => exact ⟨b, rfl, a, ha, h⟩
end WP
theorem Ev.topi {E : GE} {y : MI} {pc : Nat} {lv : List (Nat × Value)} {rest : List Value} {M : Mem} {Q : Option Value → Mem → Prop} {x : Int32} (k : ∀ z : Int32, z = x → Ev E y pc lv (.int z :: rest) M Q) : Ev E y pc lv (.int x :: rest) M Q := k x rfl
theorem Ev.topl {E : GE} {y : MI} {pc : Nat} {lv : List (Nat × Value)} {rest : List Value} {M : Mem} {Q : Option Value → Mem → Prop} {x : Int64} (k : ∀ z : Int64, z = x → Ev E y pc lv (.long z :: rest) M Q) : Ev E y pc lv (.long x :: rest) M Q := k x rfl
theorem Ev.topM {E : GE} {y : MI} {pc : Nat} {lv : List (Nat × Value)} {stk : List Value} {M : Mem} {Q : Option Value → Mem → Prop} (k : ∀ z : Mem, z = M → Ev E y pc lv stk z Q) : Ev E y pc lv stk M Q := k M rfl
theorem pf_I : parseFieldDescriptor "I" = some .int := by decide +kernel
theorem pf_Z : parseFieldDescriptor "Z" = some .boolean := by decide +kernel
theorem nar_Z {v : Int32} (h : vp_nar .boolean v = v) : narrow .boolean (.int v) = .int v := by
  have e : narrow .boolean (.int v) = .int (vp_nar .boolean v) := rfl
  rw [e, h]
theorem and1 (v : Int32) : v &&& 1 = 0 ∨ v &&& 1 = 1 := by
  have h : (v &&& 1).toBitVec.toNat = v.toBitVec.toNat % 2 := by
    rw [Int32.toBitVec_and, BitVec.toNat_and]
    exact Nat.and_one_is_mod _
  rcases Nat.mod_two_eq_zero_or_one v.toBitVec.toNat with e | e
  · exact Or.inl (Int32.toBitVec_inj.mp (BitVec.eq_of_toNat_eq (by rw [h, e]; rfl)))
  · exact Or.inr (Int32.toBitVec_inj.mp (BitVec.eq_of_toNat_eq (by rw [h, e]; rfl)))
theorem fits_Z {v : Int32} (h : vp_nar .boolean v = v) : fits .boolean (.int v) = true := by
  have e : v &&& 1 = v := h
  show (v == 0 || v == 1) = true
  rcases and1 v with q | q
  · rw [← e, q]; rfl
  · rw [← e, q]; rfl
theorem nar_C {v : Int32} (h : vp_nar .char v = v) : narrow .char (.int v) = .int v := by
  have e : narrow .char (.int v) = .int (vp_nar .char v) := rfl
  rw [e, h]
theorem nar_B {v : Int32} (h : vp_nar .byte v = v) : narrow .byte (.int v) = .int v := by
  have e : narrow .byte (.int v) = .int (vp_nar .byte v) := rfl
  rw [e, h]
def isSea (k : Nat) : Prop := k = 4 ∨ k = 9 ∨ k = 14 ∨ k = 20 ∨ k = 25
def isSheet (k : Nat) : Prop := k = 32 ∨ k = 34 ∨ k = 36 ∨ k = 38
theorem sea_k0 {k : Nat} (h : isSea k) : kd k = 2 := by rcases h with rfl | rfl | rfl | rfl | rfl <;> rfl
theorem sea_k7 {k : Nat} (h : isSea k) : kd k < 7 := by rw [sea_k0 h]; decide
theorem sea_cl {k : Nat} (h : isSea k) : clN (kd k) = RX2 := by rw [sea_k0 h]; rfl
theorem sea_n0 {k : Nat} (h : isSea k) : k < NC := by rcases h with rfl | rfl | rfl | rfl | rfl <;> decide
theorem sea_n1 {k : Nat} (h : isSea k) : k + 1 < NC := by rcases h with rfl | rfl | rfl | rfl | rfl <;> decide
theorem sea_k1x {k : Nat} (h : isSea k) : kd (k + 1) = 7 := by rcases h with rfl | rfl | rfl | rfl | rfl <;> rfl
theorem sea_l1 {k : Nat} (h : isSea k) : ln (k + 1) = 20 := by rcases h with rfl | rfl | rfl | rfl | rfl <;> rfl
theorem sea_fv0 {E : GE} {f : Nat → Int32} {k : Nat} (h : isSea k) : fv E k 2 f 0 = .ref (ad E (k + 1)) := by rcases h with rfl | rfl | rfl | rfl | rfl <;> rfl
theorem sea_n2 {k : Nat} (h : isSea k) : k + 2 < NC := by rcases h with rfl | rfl | rfl | rfl | rfl <;> decide
theorem sea_k2x {k : Nat} (h : isSea k) : kd (k + 2) = 7 := by rcases h with rfl | rfl | rfl | rfl | rfl <;> rfl
theorem sea_l2 {k : Nat} (h : isSea k) : ln (k + 2) = 16 := by rcases h with rfl | rfl | rfl | rfl | rfl <;> rfl
theorem sea_fv1 {E : GE} {f : Nat → Int32} {k : Nat} (h : isSea k) : fv E k 2 f 1 = .ref (ad E (k + 2)) := by rcases h with rfl | rfl | rfl | rfl | rfl <;> rfl
theorem sea_n3 {k : Nat} (h : isSea k) : k + 3 < NC := by rcases h with rfl | rfl | rfl | rfl | rfl <;> decide
theorem sea_k3x {k : Nat} (h : isSea k) : kd (k + 3) = 7 := by rcases h with rfl | rfl | rfl | rfl | rfl <;> rfl
theorem sea_l3 {k : Nat} (h : isSea k) : ln (k + 3) = 10 := by rcases h with rfl | rfl | rfl | rfl | rfl <;> rfl
theorem sea_fv2 {E : GE} {f : Nat → Int32} {k : Nat} (h : isSea k) : fv E k 2 f 2 = .ref (ad E (k + 3)) := by rcases h with rfl | rfl | rfl | rfl | rfl <;> rfl
theorem sea_n4 {k : Nat} (h : isSea k) : k + 4 < NC := by rcases h with rfl | rfl | rfl | rfl | rfl <;> decide
theorem sea_k4x {k : Nat} (h : isSea k) : kd (k + 4) = 7 := by rcases h with rfl | rfl | rfl | rfl | rfl <;> rfl
theorem sea_l4 {k : Nat} (h : isSea k) : ln (k + 4) = 24 := by rcases h with rfl | rfl | rfl | rfl | rfl <;> rfl
theorem sea_fv3 {E : GE} {f : Nat → Int32} {k : Nat} (h : isSea k) : fv E k 2 f 3 = .ref (ad E (k + 4)) := by rcases h with rfl | rfl | rfl | rfl | rfl <;> rfl
theorem sheet_k0 {k : Nat} (h : isSheet k) : kd k = 3 := by rcases h with rfl | rfl | rfl | rfl <;> rfl
theorem sheet_k7 {k : Nat} (h : isSheet k) : kd k < 7 := by rw [sheet_k0 h]; decide
theorem sheet_cl {k : Nat} (h : isSheet k) : clN (kd k) = RX3 := by rw [sheet_k0 h]; rfl
theorem sheet_n0 {k : Nat} (h : isSheet k) : k < NC := by rcases h with rfl | rfl | rfl | rfl <;> decide
theorem sheet_n1 {k : Nat} (h : isSheet k) : k + 1 < NC := by rcases h with rfl | rfl | rfl | rfl <;> decide
theorem sheet_k1x {k : Nat} (h : isSheet k) : kd (k + 1) = 7 := by rcases h with rfl | rfl | rfl | rfl <;> rfl
theorem sheet_l1 {k : Nat} (h : isSheet k) : ln (k + 1) = 40 := by rcases h with rfl | rfl | rfl | rfl <;> rfl
theorem sheet_fv0 {E : GE} {f : Nat → Int32} {k : Nat} (h : isSheet k) : fv E k 3 f 0 = .ref (ad E (k + 1)) := by rcases h with rfl | rfl | rfl | rfl <;> rfl
theorem sea_4 : isSea 4 := Or.inl rfl
theorem sea_9 : isSea 9 := Or.inr (Or.inl rfl)
theorem sea_14 : isSea 14 := Or.inr (Or.inr (Or.inl rfl))
theorem sea_20 : isSea 20 := Or.inr (Or.inr (Or.inr (Or.inl rfl)))
theorem sea_25 : isSea 25 := Or.inr (Or.inr (Or.inr (Or.inr rfl)))
theorem sheet_32 : isSheet 32 := Or.inl rfl
theorem sheet_34 : isSheet 34 := Or.inr (Or.inl rfl)
theorem sheet_36 : isSheet 36 := Or.inr (Or.inr (Or.inl rfl))
theorem sheet_38 : isSheet 38 := Or.inr (Or.inr (Or.inr rfl))
theorem img_sea {i : Int32} (h : vp_in i 2) : isSea (rf 19 i.toNatClampNeg) := by
  obtain ⟨j, hj, rfl⟩ := vp_in_of h (by decide)
  rw [nI_clamp (by omega)]
  match j, hj with
  | 0, _ => exact Or.inr (Or.inr (Or.inr (Or.inl rfl)))
  | 1, _ => exact Or.inr (Or.inr (Or.inr (Or.inr rfl)))
  | j + 2, hj => exact absurd hj (by omega)
theorem shs_sheet {i : Int32} (h : vp_in i 4) : isSheet (rf 31 i.toNatClampNeg) := by
  obtain ⟨j, hj, rfl⟩ := vp_in_of h (by decide)
  rw [nI_clamp (by omega)]
  match j, hj with
  | 0, _ => exact Or.inl rfl
  | 1, _ => exact Or.inr (Or.inl rfl)
  | 2, _ => exact Or.inr (Or.inr (Or.inl rfl))
  | 3, _ => exact Or.inr (Or.inr (Or.inr rfl))
  | j + 4, hj => exact absurd hj (by omega)
abbrev mi_J0_length_8abf5 : MI := (yJ0_length_8abf5, cJ0_length_8abf5, 1, some .int, { frames := 1, cells := 0, slots := 0, locals := 20 })
abbrev mi_J0_charAt_5068e : MI := (yJ0_charAt_5068e, cJ0_charAt_5068e, 2, some .char, { frames := 3, cells := 0, slots := 0, locals := 64 })
abbrev mi_J0_coder_7d493 : MI := (yJ0_coder_7d493, cJ0_coder_7d493, 1, some .byte, { frames := 0, cells := 0, slots := 0, locals := 0 })
abbrev mi_J0_isLatin1_aae02 : MI := (yJ0_isLatin1_aae02, cJ0_isLatin1_aae02, 1, some .boolean, { frames := 0, cells := 0, slots := 0, locals := 0 })
abbrev mi_J0_checkIndex_df160 : MI := (yJ0_checkIndex_df160, cJ0_checkIndex_df160, 2, none, { frames := 1, cells := 0, slots := 0, locals := 22 })
abbrev mi_J1_charAt_3b067 : MI := (yJ1_charAt_3b067, cJ1_charAt_3b067, 2, some .char, { frames := 2, cells := 0, slots := 0, locals := 43 })
abbrev mi_J3_checkIndex_8e157 : MI := (yJ3_checkIndex_8e157, cJ3_checkIndex_8e157, 3, some .int, { frames := 0, cells := 0, slots := 0, locals := 0 })
abbrev mi_J6_bitCount_0f7a4 : MI := (yJ6_bitCount_0f7a4, cJ6_bitCount_0f7a4, 1, some .int, { frames := 0, cells := 0, slots := 0, locals := 0 })
abbrev mi_X0_run : MI := (yX0_run, cX0_run, 3, none, { frames := 4, cells := 0, slots := 0, locals := 96 })
abbrev mi_X0_sail : MI := (yX0_sail, cX0_sail, 3, none, { frames := 3, cells := 0, slots := 0, locals := 73 })
abbrev mi_X0_meet : MI := (yX0_meet, cX0_meet, 3, none, { frames := 2, cells := 0, slots := 0, locals := 50 })
abbrev mi_X0_runTub : MI := (yX0_runTub, cX0_runTub, 4, none, { frames := 3, cells := 0, slots := 0, locals := 73 })
abbrev mi_X0_sailTub : MI := (yX0_sailTub, cX0_sailTub, 5, none, { frames := 2, cells := 0, slots := 0, locals := 49 })
abbrev mi_X0_sailHour : MI := (yX0_sailHour, cX0_sailHour, 8, none, { frames := 1, cells := 0, slots := 0, locals := 22 })
abbrev mi_X0_meetTub : MI := (yX0_meetTub, cX0_meetTub, 9, none, { frames := 1, cells := 0, slots := 0, locals := 22 })
abbrev mi_X0_gives : MI := (yX0_gives, cX0_gives, 4, some .boolean, { frames := 4, cells := 0, slots := 0, locals := 96 })
abbrev mi_X0_wayOf : MI := (yX0_wayOf, cX0_wayOf, 2, some .int, { frames := 0, cells := 0, slots := 0, locals := 0 })
abbrev mi_X0_eastOf : MI := (yX0_eastOf, cX0_eastOf, 2, some .int, { frames := 0, cells := 0, slots := 0, locals := 0 })
abbrev mi_X0_estatesOf : MI := (yX0_estatesOf, cX0_estatesOf, 5, some .int, { frames := 1, cells := 0, slots := 0, locals := 22 })
abbrev mi_X0_tubsOf : MI := (yX0_tubsOf, cX0_tubsOf, 5, some .int, { frames := 0, cells := 0, slots := 0, locals := 0 })
abbrev mi_X0_estatesHooked : MI := (yX0_estatesHooked, cX0_estatesHooked, 4, some .int, { frames := 1, cells := 0, slots := 0, locals := 22 })
abbrev mi_X0_tubsOfWay : MI := (yX0_tubsOfWay, cX0_tubsOfWay, 5, some .int, { frames := 1, cells := 0, slots := 0, locals := 21 })
abbrev mi_X1_readAll : MI := (yX1_readAll, cX1_readAll, 2, some .int, { frames := 6, cells := 0, slots := 0, locals := 127 })
abbrev mi_X1_readLine : MI := (yX1_readLine, cX1_readLine, 1, none, { frames := 5, cells := 0, slots := 0, locals := 107 })
abbrev mi_X1_readTub : MI := (yX1_readTub, cX1_readTub, 4, none, { frames := 3, cells := 0, slots := 0, locals := 64 })
abbrev mi_X1_readHeir : MI := (yX1_readHeir, cX1_readHeir, 4, none, { frames := 3, cells := 0, slots := 0, locals := 64 })
abbrev mi_X1_readCurrent : MI := (yX1_readCurrent, cX1_readCurrent, 3, none, { frames := 3, cells := 0, slots := 0, locals := 64 })
abbrev mi_X1_readWind : MI := (yX1_readWind, cX1_readWind, 3, none, { frames := 3, cells := 0, slots := 0, locals := 64 })
abbrev mi_X1_readPhase : MI := (yX1_readPhase, cX1_readPhase, 1, none, { frames := 3, cells := 0, slots := 0, locals := 64 })
abbrev mi_X1_readNumber : MI := (yX1_readNumber, cX1_readNumber, 3, some .int, { frames := 2, cells := 0, slots := 0, locals := 42 })
abbrev mi_X1_failToken : MI := (yX1_failToken, cX1_failToken, 1, none, { frames := 1, cells := 0, slots := 0, locals := 21 })
abbrev mi_X1_fail : MI := (yX1_fail, cX1_fail, 2, none, { frames := 0, cells := 0, slots := 0, locals := 0 })
abbrev mi_X2_empty : MI := (yX2_empty, cX2_empty, 2, none, { frames := 0, cells := 0, slots := 0, locals := 0 })
abbrev mi_X2_become : MI := (yX2_become, cX2_become, 2, none, { frames := 1, cells := 0, slots := 0, locals := 26 })
abbrev mi_X2_isTub : MI := (yX2_isTub, cX2_isTub, 2, some .boolean, { frames := 0, cells := 0, slots := 0, locals := 0 })
abbrev mi_X2_isHeir : MI := (yX2_isHeir, cX2_isHeir, 2, some .boolean, { frames := 0, cells := 0, slots := 0, locals := 0 })
abbrev mi_X2_ofTub : MI := (yX2_ofTub, cX2_ofTub, 3, some .int, { frames := 0, cells := 0, slots := 0, locals := 0 })
abbrev mi_X2_putTub : MI := (yX2_putTub, cX2_putTub, 4, none, { frames := 0, cells := 0, slots := 0, locals := 0 })
abbrev mi_X2_moveTub : MI := (yX2_moveTub, cX2_moveTub, 4, none, { frames := 1, cells := 0, slots := 0, locals := 23 })
abbrev mi_X2_ofHeir : MI := (yX2_ofHeir, cX2_ofHeir, 3, some .int, { frames := 0, cells := 0, slots := 0, locals := 0 })
abbrev mi_X2_putHeir : MI := (yX2_putHeir, cX2_putHeir, 4, none, { frames := 0, cells := 0, slots := 0, locals := 0 })
abbrev mi_X2_estates : MI := (yX2_estates, cX2_estates, 3, some .int, { frames := 1, cells := 0, slots := 0, locals := 22 })
abbrev mi_X2_hooks : MI := (yX2_hooks, cX2_hooks, 3, some .int, { frames := 1, cells := 0, slots := 0, locals := 22 })
abbrev mi_X2_moving : MI := (yX2_moving, cX2_moving, 3, some .int, { frames := 0, cells := 0, slots := 0, locals := 0 })
abbrev mi_X2_tideAt : MI := (yX2_tideAt, cX2_tideAt, 2, some .int, { frames := 0, cells := 0, slots := 0, locals := 0 })
abbrev mi_X3_renew : MI := (yX3_renew, cX3_renew, 4, none, { frames := 0, cells := 0, slots := 0, locals := 0 })
abbrev mi_X3_faultOf : MI := (yX3_faultOf, cX3_faultOf, 4, some .int, { frames := 0, cells := 0, slots := 0, locals := 0 })
abbrev mi_X3_put : MI := (yX3_put, cX3_put, 3, none, { frames := 0, cells := 0, slots := 0, locals := 0 })
abbrev mi_X4_add : MI := (yX4_add, cX4_add, 2, some .boolean, { frames := 0, cells := 0, slots := 0, locals := 0 })
abbrev mi_X4_rewind : MI := (yX4_rewind, cX4_rewind, 1, none, { frames := 0, cells := 0, slots := 0, locals := 0 })
abbrev mi_X4_take : MI := (yX4_take, cX4_take, 2, none, { frames := 1, cells := 0, slots := 0, locals := 21 })
abbrev mi_X4_weighNumber : MI := (yX4_weighNumber, cX4_weighNumber, 2, none, { frames := 0, cells := 0, slots := 0, locals := 0 })
abbrev mi_X4_isWord : MI := (yX4_isWord, cX4_isWord, 3, some .boolean, { frames := 4, cells := 0, slots := 0, locals := 85 })
abbrev mi_X4_sortOf : MI := (yX4_sortOf, cX4_sortOf, 1, some .int, { frames := 0, cells := 0, slots := 0, locals := 0 })
abbrev mi_X5_feed : MI := (yX5_feed, cX5_feed, 2, some .int, { frames := 1, cells := 0, slots := 0, locals := 22 })
abbrev mi_X5_end : MI := (yX5_end, cX5_end, 3, some .int, { frames := 1, cells := 0, slots := 0, locals := 22 })
abbrev mi_X5_text : MI := (yX5_text, cX5_text, 3, some .int, { frames := 7, cells := 0, slots := 0, locals := 148 })
abbrev mi_X5_fault : MI := (yX5_fault, cX5_fault, 1, some .int, { frames := 0, cells := 0, slots := 0, locals := 0 })
abbrev mi_X5_rule : MI := (yX5_rule, cX5_rule, 2, some .int, { frames := 2, cells := 0, slots := 0, locals := 44 })
abbrev mi_X5_tub : MI := (yX5_tub, cX5_tub, 3, some .int, { frames := 1, cells := 0, slots := 0, locals := 22 })
abbrev mi_X5_heir : MI := (yX5_heir, cX5_heir, 3, some .int, { frames := 1, cells := 0, slots := 0, locals := 22 })
abbrev mi_X5_current : MI := (yX5_current, cX5_current, 2, some .int, { frames := 1, cells := 0, slots := 0, locals := 22 })
abbrev mi_X5_wind : MI := (yX5_wind, cX5_wind, 2, some .int, { frames := 1, cells := 0, slots := 0, locals := 22 })
abbrev mi_X5_alter : MI := (yX5_alter, cX5_alter, 5, some .int, { frames := 2, cells := 0, slots := 0, locals := 43 })
abbrev mi_X5_stand : MI := (yX5_stand, cX5_stand, 5, some .int, { frames := 2, cells := 0, slots := 0, locals := 43 })
abbrev mi_X5_set : MI := (yX5_set, cX5_set, 4, some .int, { frames := 1, cells := 0, slots := 0, locals := 22 })
abbrev mi_X5_blow : MI := (yX5_blow, cX5_blow, 4, some .int, { frames := 1, cells := 0, slots := 0, locals := 22 })
abbrev mi_X5_phase : MI := (yX5_phase, cX5_phase, 3, some .int, { frames := 1, cells := 0, slots := 0, locals := 22 })
abbrev mi_X5_cast : MI := (yX5_cast, cX5_cast, 4, some .int, { frames := 3, cells := 0, slots := 0, locals := 70 })
abbrev mi_X5_sink : MI := (yX5_sink, cX5_sink, 3, some .int, { frames := 1, cells := 0, slots := 0, locals := 22 })
abbrev mi_X5_fate : MI := (yX5_fate, cX5_fate, 3, some .int, { frames := 4, cells := 0, slots := 0, locals := 96 })
abbrev mi_X5_where : MI := (yX5_where, cX5_where, 4, some .int, { frames := 4, cells := 0, slots := 0, locals := 96 })
abbrev mi_X5_has : MI := (yX5_has, cX5_has, 3, some .int, { frames := 5, cells := 0, slots := 0, locals := 118 })
abbrev mi_X5_all : MI := (yX5_all, cX5_all, 2, some .int, { frames := 5, cells := 0, slots := 0, locals := 118 })
abbrev mi_X5_when : MI := (yX5_when, cX5_when, 4, some .int, { frames := 5, cells := 0, slots := 0, locals := 119 })
abbrev mi_X5_aim : MI := (yX5_aim, cX5_aim, 5, some .int, { frames := 5, cells := 0, slots := 0, locals := 119 })
abbrev mi_X5_ways : MI := (yX5_ways, cX5_ways, 6, some .int, { frames := 4, cells := 0, slots := 0, locals := 96 })
abbrev mi_X5_place : MI := (yX5_place, cX5_place, 7, some .int, { frames := 4, cells := 0, slots := 0, locals := 95 })
abbrev mi_X5_hook : MI := (yX5_hook, cX5_hook, 4, some .int, { frames := 4, cells := 0, slots := 0, locals := 95 })
abbrev mi_X5_fire : MI := (yX5_fire, cX5_fire, 8, some .int, { frames := 5, cells := 0, slots := 0, locals := 118 })
abbrev mi_X5_moon : MI := (yX5_moon, cX5_moon, 6, some .int, { frames := 5, cells := 0, slots := 0, locals := 118 })
abbrev mi_X5_rest : MI := (yX5_rest, cX5_rest, 8, some .int, { frames := 5, cells := 0, slots := 0, locals := 119 })
abbrev mi_X5_luck : MI := (yX5_luck, cX5_luck, 11, some .long, { frames := 5, cells := 0, slots := 0, locals := 119 })
abbrev mi_X5_mean : MI := (yX5_mean, cX5_mean, 10, some .long, { frames := 5, cells := 0, slots := 0, locals := 118 })
abbrev mi_X5_see : MI := (yX5_see, cX5_see, 4, some .int, { frames := 1, cells := 0, slots := 0, locals := 22 })
abbrev mi_X5_forget : MI := (yX5_forget, cX5_forget, 3, some .int, { frames := 1, cells := 0, slots := 0, locals := 22 })
abbrev mi_X5_kinds : MI := (yX5_kinds, cX5_kinds, 2, some .int, { frames := 5, cells := 0, slots := 0, locals := 119 })
abbrev mi_X5_sets : MI := (yX5_sets, cX5_sets, 4, some .int, { frames := 4, cells := 0, slots := 0, locals := 96 })
abbrev mi_X5_look : MI := (yX5_look, cX5_look, 8, some .int, { frames := 5, cells := 0, slots := 0, locals := 119 })
abbrev mi_X5_drift : MI := (yX5_drift, cX5_drift, 10, some .int, { frames := 5, cells := 0, slots := 0, locals := 118 })
abbrev mi_X5_keep : MI := (yX5_keep, cX5_keep, 3, some .int, { frames := 2, cells := 0, slots := 0, locals := 47 })
abbrev mi_X5_back : MI := (yX5_back, cX5_back, 2, some .int, { frames := 2, cells := 0, slots := 0, locals := 47 })
abbrev mi_X5_sheet : MI := (yX5_sheet, cX5_sheet, 4, some .int, { frames := 1, cells := 0, slots := 0, locals := 23 })
abbrev mi_X5_lay : MI := (yX5_lay, cX5_lay, 6, some .int, { frames := 1, cells := 0, slots := 0, locals := 23 })
abbrev mi_X5_read : MI := (yX5_read, cX5_read, 10, some .int, { frames := 3, cells := 0, slots := 0, locals := 70 })
abbrev mi_X5_torn : MI := (yX5_torn, cX5_torn, 1, some .int, { frames := 0, cells := 0, slots := 0, locals := 0 })
abbrev mi_X5_count : MI := (yX5_count, cX5_count, 2, some .int, { frames := 2, cells := 0, slots := 0, locals := 44 })
abbrev mi_X5_within : MI := (yX5_within, cX5_within, 3, some .boolean, { frames := 0, cells := 0, slots := 0, locals := 0 })
abbrev mi_X5_fitsTub : MI := (yX5_fitsTub, cX5_fitsTub, 2, some .boolean, { frames := 1, cells := 0, slots := 0, locals := 22 })
abbrev mi_X5_fitsHeir : MI := (yX5_fitsHeir, cX5_fitsHeir, 2, some .boolean, { frames := 1, cells := 0, slots := 0, locals := 22 })
abbrev mi_X5_putIn : MI := (yX5_putIn, cX5_putIn, 5, some .int, { frames := 2, cells := 0, slots := 0, locals := 46 })
abbrev mi_X5_listWindyHours : MI := (yX5_listWindyHours, cX5_listWindyHours, 3, some .int, { frames := 0, cells := 0, slots := 0, locals := 0 })
abbrev mi_X5_dropWinds : MI := (yX5_dropWinds, cX5_dropWinds, 9, some .long, { frames := 0, cells := 0, slots := 0, locals := 0 })
abbrev mi_X5_allOdds : MI := (yX5_allOdds, cX5_allOdds, 4, some .long, { frames := 0, cells := 0, slots := 0, locals := 0 })
abbrev mi_X5_partOfFraction : MI := (yX5_partOfFraction, cX5_partOfFraction, 9, some .long, { frames := 1, cells := 0, slots := 0, locals := 30 })
abbrev mi_X5_commonDivisor : MI := (yX5_commonDivisor, cX5_commonDivisor, 11, some .long, { frames := 0, cells := 0, slots := 0, locals := 0 })
abbrev mi_X5_weighPairs : MI := (yX5_weighPairs, cX5_weighPairs, 5, none, { frames := 4, cells := 0, slots := 0, locals := 95 })
abbrev mi_X5_neitherWouldGo : MI := (yX5_neitherWouldGo, cX5_neitherWouldGo, 5, some .boolean, { frames := 0, cells := 0, slots := 0, locals := 0 })
abbrev mi_X5_isAsSeen : MI := (yX5_isAsSeen, cX5_isAsSeen, 4, some .boolean, { frames := 3, cells := 0, slots := 0, locals := 73 })
abbrev mi_X5_kindsAsSeen : MI := (yX5_kindsAsSeen, cX5_kindsAsSeen, 4, some .int, { frames := 4, cells := 0, slots := 0, locals := 96 })
abbrev mi_X5_leftAtWorst : MI := (yX5_leftAtWorst, cX5_leftAtWorst, 9, some .int, { frames := 3, cells := 0, slots := 0, locals := 73 })
abbrev mi_X6_in : MI := (yX6_in, cX6_in, 6, some .boolean, { frames := 0, cells := 0, slots := 0, locals := 0 })
abbrev mi_X6_feed : MI := (yX6_feed, cX6_feed, 2, some .int, { frames := 1, cells := 0, slots := 0, locals := 25 })
abbrev mi_X6_end : MI := (yX6_end, cX6_end, 3, some .int, { frames := 1, cells := 0, slots := 0, locals := 25 })
abbrev mi_X6_byteAt : MI := (yX6_byteAt, cX6_byteAt, 2, some .int, { frames := 0, cells := 0, slots := 0, locals := 0 })
abbrev mi_X6_fails : MI := (yX6_fails, cX6_fails, 2, none, { frames := 0, cells := 0, slots := 0, locals := 0 })
abbrev mi_X6_nameHere : MI := (yX6_nameHere, cX6_nameHere, 4, some .int, { frames := 1, cells := 0, slots := 0, locals := 21 })
abbrev mi_X6_step : MI := (yX6_step, cX6_step, 2, none, { frames := 1, cells := 0, slots := 0, locals := 25 })
abbrev mi_X6_other : MI := (yX6_other, cX6_other, 5, some .int, { frames := 2, cells := 0, slots := 0, locals := 46 })
abbrev mi_X6_readTub : MI := (yX6_readTub, cX6_readTub, 3, none, { frames := 3, cells := 0, slots := 0, locals := 70 })
abbrev mi_X6_readHeir : MI := (yX6_readHeir, cX6_readHeir, 2, none, { frames := 3, cells := 0, slots := 0, locals := 70 })
abbrev mi_X6_readMore : MI := (yX6_readMore, cX6_readMore, 3, none, { frames := 4, cells := 0, slots := 0, locals := 92 })
abbrev mi_X6_readLine : MI := (yX6_readLine, cX6_readLine, 2, none, { frames := 5, cells := 0, slots := 0, locals := 114 })
abbrev mi_X6_text : MI := (yX6_text, cX6_text, 3, some .int, { frames := 6, cells := 0, slots := 0, locals := 135 })
abbrev mi_X6_fault : MI := (yX6_fault, cX6_fault, 1, some .int, { frames := 0, cells := 0, slots := 0, locals := 0 })
abbrev mi_X6_isTub : MI := (yX6_isTub, cX6_isTub, 2, some .boolean, { frames := 1, cells := 0, slots := 0, locals := 25 })
abbrev mi_X6_isHeir : MI := (yX6_isHeir, cX6_isHeir, 2, some .boolean, { frames := 1, cells := 0, slots := 0, locals := 25 })
abbrev mi_X6_isHour : MI := (yX6_isHour, cX6_isHour, 1, some .boolean, { frames := 1, cells := 0, slots := 0, locals := 25 })
abbrev mi_X6_estates : MI := (yX6_estates, cX6_estates, 3, some .int, { frames := 0, cells := 0, slots := 0, locals := 0 })
abbrev mi_X6_windyHours : MI := (yX6_windyHours, cX6_windyHours, 3, some .int, { frames := 0, cells := 0, slots := 0, locals := 0 })
abbrev mi_X6_bitsOf : MI := (yX6_bitsOf, cX6_bitsOf, 3, some .int, { frames := 0, cells := 0, slots := 0, locals := 0 })
abbrev mi_X6_rule : MI := (yX6_rule, cX6_rule, 2, some .int, { frames := 1, cells := 0, slots := 0, locals := 22 })
abbrev mi_X6_tub : MI := (yX6_tub, cX6_tub, 3, some .int, { frames := 2, cells := 0, slots := 0, locals := 46 })
abbrev mi_X6_heir : MI := (yX6_heir, cX6_heir, 3, some .int, { frames := 2, cells := 0, slots := 0, locals := 46 })
abbrev mi_X6_current : MI := (yX6_current, cX6_current, 2, some .int, { frames := 1, cells := 0, slots := 0, locals := 25 })
abbrev mi_X6_wind : MI := (yX6_wind, cX6_wind, 2, some .int, { frames := 2, cells := 0, slots := 0, locals := 45 })
abbrev mi_X6_puts : MI := (yX6_puts, cX6_puts, 6, some .int, { frames := 0, cells := 0, slots := 0, locals := 0 })
abbrev mi_X6_alter : MI := (yX6_alter, cX6_alter, 6, some .int, { frames := 2, cells := 0, slots := 0, locals := 46 })
abbrev mi_X6_stand : MI := (yX6_stand, cX6_stand, 7, some .int, { frames := 2, cells := 0, slots := 0, locals := 46 })
abbrev mi_X6_set : MI := (yX6_set, cX6_set, 3, some .int, { frames := 1, cells := 0, slots := 0, locals := 25 })
abbrev mi_X6_blow : MI := (yX6_blow, cX6_blow, 3, some .int, { frames := 2, cells := 0, slots := 0, locals := 45 })
abbrev mi_X6_phase : MI := (yX6_phase, cX6_phase, 2, some .int, { frames := 1, cells := 0, slots := 0, locals := 25 })
abbrev mi_X6_casts : MI := (yX6_casts, cX6_casts, 5, some .int, { frames := 2, cells := 0, slots := 0, locals := 45 })
abbrev mi_X6_cast : MI := (yX6_cast, cX6_cast, 4, some .int, { frames := 3, cells := 0, slots := 0, locals := 69 })
abbrev mi_X6_sink : MI := (yX6_sink, cX6_sink, 2, some .int, { frames := 1, cells := 0, slots := 0, locals := 25 })
abbrev mi_X6_drifts : MI := (yX6_drifts, cX6_drifts, 7, none, { frames := 1, cells := 0, slots := 0, locals := 25 })
abbrev mi_X6_hooks : MI := (yX6_hooks, cX6_hooks, 10, none, { frames := 1, cells := 0, slots := 0, locals := 25 })
abbrev mi_X6_dayGoes : MI := (yX6_dayGoes, cX6_dayGoes, 6, none, { frames := 2, cells := 0, slots := 0, locals := 54 })
abbrev mi_X6_estatesOf : MI := (yX6_estatesOf, cX6_estatesOf, 5, some .int, { frames := 0, cells := 0, slots := 0, locals := 0 })
abbrev mi_X6_worth : MI := (yX6_worth, cX6_worth, 3, some .int, { frames := 3, cells := 0, slots := 0, locals := 79 })
abbrev mi_X6_tubsOf : MI := (yX6_tubsOf, cX6_tubsOf, 5, some .int, { frames := 0, cells := 0, slots := 0, locals := 0 })
abbrev mi_X6_fate : MI := (yX6_fate, cX6_fate, 3, some .int, { frames := 3, cells := 0, slots := 0, locals := 79 })
abbrev mi_X6_where : MI := (yX6_where, cX6_where, 4, some .int, { frames := 3, cells := 0, slots := 0, locals := 79 })
abbrev mi_X6_has : MI := (yX6_has, cX6_has, 4, some .int, { frames := 4, cells := 0, slots := 0, locals := 101 })
abbrev mi_X6_all : MI := (yX6_all, cX6_all, 3, some .int, { frames := 4, cells := 0, slots := 0, locals := 101 })
abbrev mi_X6_copies : MI := (yX6_copies, cX6_copies, 4, none, { frames := 0, cells := 0, slots := 0, locals := 0 })
abbrev mi_X6_isHooked : MI := (yX6_isHooked, cX6_isHooked, 3, some .boolean, { frames := 3, cells := 0, slots := 0, locals := 79 })
abbrev mi_X6_when : MI := (yX6_when, cX6_when, 4, some .int, { frames := 4, cells := 0, slots := 0, locals := 101 })
abbrev mi_X6_aim : MI := (yX6_aim, cX6_aim, 4, some .int, { frames := 4, cells := 0, slots := 0, locals := 101 })
abbrev mi_X6_ways : MI := (yX6_ways, cX6_ways, 5, some .int, { frames := 3, cells := 0, slots := 0, locals := 79 })
abbrev mi_X6_place : MI := (yX6_place, cX6_place, 7, some .int, { frames := 4, cells := 0, slots := 0, locals := 101 })
abbrev mi_X6_hook : MI := (yX6_hook, cX6_hook, 4, some .int, { frames := 4, cells := 0, slots := 0, locals := 101 })
abbrev mi_X6_fire : MI := (yX6_fire, cX6_fire, 8, some .int, { frames := 4, cells := 0, slots := 0, locals := 101 })
abbrev mi_X6_moon : MI := (yX6_moon, cX6_moon, 6, some .int, { frames := 4, cells := 0, slots := 0, locals := 101 })
abbrev mi_X6_isRest : MI := (yX6_isRest, cX6_isRest, 5, some .boolean, { frames := 0, cells := 0, slots := 0, locals := 0 })
abbrev mi_X6_rest : MI := (yX6_rest, cX6_rest, 8, some .int, { frames := 4, cells := 0, slots := 0, locals := 101 })
abbrev mi_X6_lowest : MI := (yX6_lowest, cX6_lowest, 11, some .long, { frames := 0, cells := 0, slots := 0, locals := 0 })
abbrev mi_X6_byDrops : MI := (yX6_byDrops, cX6_byDrops, 16, some .long, { frames := 4, cells := 0, slots := 0, locals := 101 })
abbrev mi_X6_luck : MI := (yX6_luck, cX6_luck, 5, some .long, { frames := 5, cells := 0, slots := 0, locals := 136 })
abbrev mi_X6_mean : MI := (yX6_mean, cX6_mean, 4, some .long, { frames := 5, cells := 0, slots := 0, locals := 136 })
abbrev mi_X6_see : MI := (yX6_see, cX6_see, 4, some .int, { frames := 2, cells := 0, slots := 0, locals := 46 })
abbrev mi_X6_forget : MI := (yX6_forget, cX6_forget, 3, some .int, { frames := 1, cells := 0, slots := 0, locals := 25 })
abbrev mi_X6_isAsSeen : MI := (yX6_isAsSeen, cX6_isAsSeen, 3, some .boolean, { frames := 3, cells := 0, slots := 0, locals := 79 })
abbrev mi_X6_kindsOf : MI := (yX6_kindsOf, cX6_kindsOf, 6, some .int, { frames := 4, cells := 0, slots := 0, locals := 101 })
abbrev mi_X6_kinds : MI := (yX6_kinds, cX6_kinds, 2, some .int, { frames := 5, cells := 0, slots := 0, locals := 126 })
abbrev mi_X6_sets : MI := (yX6_sets, cX6_sets, 5, some .int, { frames := 4, cells := 0, slots := 0, locals := 101 })
abbrev mi_X6_look : MI := (yX6_look, cX6_look, 11, some .int, { frames := 5, cells := 0, slots := 0, locals := 126 })
abbrev mi_X6_drift : MI := (yX6_drift, cX6_drift, 9, some .int, { frames := 4, cells := 0, slots := 0, locals := 101 })
abbrev mi_X6_keep : MI := (yX6_keep, cX6_keep, 3, some .int, { frames := 1, cells := 0, slots := 0, locals := 25 })
abbrev mi_X6_back : MI := (yX6_back, cX6_back, 2, some .int, { frames := 1, cells := 0, slots := 0, locals := 25 })
abbrev mi_X6_sheet : MI := (yX6_sheet, cX6_sheet, 5, some .int, { frames := 1, cells := 0, slots := 0, locals := 25 })
abbrev mi_X6_lay : MI := (yX6_lay, cX6_lay, 4, some .int, { frames := 1, cells := 0, slots := 0, locals := 25 })
abbrev mi_X6_read : MI := (yX6_read, cX6_read, 9, some .int, { frames := 3, cells := 0, slots := 0, locals := 69 })
abbrev mi_X6_torn : MI := (yX6_torn, cX6_torn, 1, some .int, { frames := 0, cells := 0, slots := 0, locals := 0 })
abbrev mi_X6_count : MI := (yX6_count, cX6_count, 5, some .int, { frames := 0, cells := 0, slots := 0, locals := 0 })
theorem cl_J0_1059 : CLk RJ0 1059 mi_J3_checkIndex_8e157 := gw_of (q2_in _ (List.mem_of_getElem? (i := 70) rfl)) rfl
theorem cl_J0_335 : CLk RJ0 335 mi_J0_coder_7d493 := gw_of (q2_in _ (List.mem_of_getElem? (i := 48) rfl)) rfl
theorem cl_J0_492 : CLk RJ0 492 mi_J0_isLatin1_aae02 := gw_of (q2_in _ (List.mem_of_getElem? (i := 58) rfl)) rfl
theorem cl_J0_495 : CLk RJ0 495 mi_J1_charAt_3b067 := gw_of (q2_in _ (List.mem_of_getElem? (i := 62) rfl)) rfl
theorem cl_J1_9 : CLk RJ1 9 mi_J0_checkIndex_df160 := gw_of (q2_in _ (List.mem_of_getElem? (i := 65) rfl)) rfl
theorem cl_X0_36 : CLk RX0 36 mi_X0_runTub := gw_of (q3_in _ (List.mem_of_getElem? (i := 75) rfl)) rfl
theorem cl_X0_40 : CLk RX0 40 mi_X0_sailTub := gw_of (q3_in _ (List.mem_of_getElem? (i := 22) rfl)) rfl
theorem cl_X0_43 : CLk RX0 43 mi_X0_meetTub := gw_of (q3_in _ (List.mem_of_getElem? (i := 47) rfl)) rfl
theorem cl_X0_50 : CLk RX0 50 mi_X0_sailHour := gw_of (q3_in _ (List.mem_of_getElem? (i := 27) rfl)) rfl
theorem cl_X0_92 : CLk RX0 92 mi_X0_wayOf := gw_of (q3_in _ (List.mem_of_getElem? (i := 96) rfl)) rfl
theorem cl_X1_110 : CLk RX1 110 mi_X1_readNumber := gw_of (q2_in _ (List.mem_of_getElem? (i := 108) rfl)) rfl
theorem cl_X1_51 : CLk RX1 51 mi_X1_readLine := gw_of (q2_in _ (List.mem_of_getElem? (i := 35) rfl)) rfl
theorem cl_X1_60 : CLk RX1 60 mi_X1_readTub := gw_of (q2_in _ (List.mem_of_getElem? (i := 92) rfl)) rfl
theorem cl_X1_72 : CLk RX1 72 mi_X1_readHeir := gw_of (q2_in _ (List.mem_of_getElem? (i := 121) rfl)) rfl
theorem cl_X1_77 : CLk RX1 77 mi_X1_readCurrent := gw_of (q2_in _ (List.mem_of_getElem? (i := 136) rfl)) rfl
theorem cl_X1_82 : CLk RX1 82 mi_X1_readWind := gw_of (q2_in _ (List.mem_of_getElem? (i := 141) rfl)) rfl
theorem cl_X1_87 : CLk RX1 87 mi_X1_readPhase := gw_of (q2_in _ (List.mem_of_getElem? (i := 146) rfl)) rfl
theorem cl_X1_90 : CLk RX1 90 mi_X1_failToken := gw_of (q2_in _ (List.mem_of_getElem? (i := 112) rfl)) rfl
theorem cl_X1_96 : CLk RX1 96 mi_X1_fail := gw_of (q2_in _ (List.mem_of_getElem? (i := 96) rfl)) rfl
theorem cl_X2_43 : CLk RX2 43 mi_X2_putTub := gw_of (q3_in _ (List.mem_of_getElem? (i := 9) rfl)) rfl
theorem cl_X2_47 : CLk RX2 47 mi_X2_ofTub := gw_of (q2_in _ (List.mem_of_getElem? (i := 170) rfl)) rfl
theorem cl_X2_51 : CLk RX2 51 mi_X2_ofHeir := gw_of (q4_in _ (List.mem_of_getElem? (i := 22) rfl)) rfl
theorem cl_X4_28 : CLk RX4 28 mi_X4_sortOf := gw_of (q2_in _ (List.mem_of_getElem? (i := 28) rfl)) rfl
theorem cl_X4_35 : CLk RX4 35 mi_X4_weighNumber := gw_of (q2_in _ (List.mem_of_getElem? (i := 31) rfl)) rfl
theorem cl_X4_38 : CLk RX4 38 mi_J0_length_8abf5 := gw_of (q2_in _ (List.mem_of_getElem? (i := 44) rfl)) rfl
theorem cl_X4_43 : CLk RX4 43 mi_J0_charAt_5068e := gw_of (q2_in _ (List.mem_of_getElem? (i := 54) rfl)) rfl
theorem cl_X5_121 : CLk RX5 121 mi_X5_listWindyHours := gw_of (q2_in _ (List.mem_of_getElem? (i := 174) rfl)) rfl
theorem cl_X5_146 : CLk RX5 146 mi_X5_fitsTub := gw_of (q2_in _ (List.mem_of_getElem? (i := 210) rfl)) rfl
theorem cl_X5_154 : CLk RX5 154 mi_X5_fitsHeir := gw_of (q2_in _ (List.mem_of_getElem? (i := 220) rfl)) rfl
theorem cl_X5_160 : CLk RX5 160 mi_X5_putIn := gw_of (q3_in _ (List.mem_of_getElem? (i := 1) rfl)) rfl
theorem cl_X5_226 : CLk RX5 226 mi_X5_weighPairs := gw_of (q3_in _ (List.mem_of_getElem? (i := 141) rfl)) rfl
theorem cl_X5_230 : CLk RX5 230 mi_X5_neitherWouldGo := gw_of (q3_in _ (List.mem_of_getElem? (i := 145) rfl)) rfl
theorem cl_X5_237 : CLk RX5 237 mi_X5_dropWinds := gw_of (q3_in _ (List.mem_of_getElem? (i := 155) rfl)) rfl
theorem cl_X5_241 : CLk RX5 241 mi_X5_allOdds := gw_of (q3_in _ (List.mem_of_getElem? (i := 159) rfl)) rfl
theorem cl_X5_245 : CLk RX5 245 mi_X5_partOfFraction := gw_of (q3_in _ (List.mem_of_getElem? (i := 163) rfl)) rfl
theorem cl_X5_249 : CLk RX5 249 mi_X5_kindsAsSeen := gw_of (q3_in _ (List.mem_of_getElem? (i := 185) rfl)) rfl
theorem cl_X5_252 : CLk RX5 252 mi_X5_isAsSeen := gw_of (q3_in _ (List.mem_of_getElem? (i := 189) rfl)) rfl
theorem cl_X5_256 : CLk RX5 256 mi_J6_bitCount_0f7a4 := gw_of (q3_in _ (List.mem_of_getElem? (i := 202) rfl)) rfl
theorem cl_X5_261 : CLk RX5 261 mi_X5_leftAtWorst := gw_of (q3_in _ (List.mem_of_getElem? (i := 208) rfl)) rfl
theorem cl_X5_294 : CLk RX5 294 mi_X5_commonDivisor := gw_of (q3_in _ (List.mem_of_getElem? (i := 166) rfl)) rfl
theorem cl_X5_75 : CLk RX5 75 mi_X5_within := gw_of (q2_in _ (List.mem_of_getElem? (i := 0) rfl)) rfl
theorem cl_X6_111 : CLk RX6 111 mi_X6_fails := gw_of (q4_in _ (List.mem_of_getElem? (i := 170) rfl)) rfl
theorem cl_X6_115 : CLk RX6 115 mi_X6_step := gw_of (q4_in _ (List.mem_of_getElem? (i := 158) rfl)) rfl
theorem cl_X6_118 : CLk RX6 118 mi_X6_other := gw_of (q4_in _ (List.mem_of_getElem? (i := 191) rfl)) rfl
theorem cl_X6_125 : CLk RX6 125 mi_X6_readTub := gw_of (q4_in _ (List.mem_of_getElem? (i := 187) rfl)) rfl
theorem cl_X6_128 : CLk RX6 128 mi_X6_readHeir := gw_of (q4_in _ (List.mem_of_getElem? (i := 195) rfl)) rfl
theorem cl_X6_137 : CLk RX6 137 mi_X6_nameHere := gw_of (q4_in _ (List.mem_of_getElem? (i := 178) rfl)) rfl
theorem cl_X6_147 : CLk RX6 147 mi_X6_readMore := gw_of (q4_in _ (List.mem_of_getElem? (i := 183) rfl)) rfl
theorem cl_X6_150 : CLk RX6 150 mi_X6_readLine := gw_of (q4_in _ (List.mem_of_getElem? (i := 174) rfl)) rfl
theorem cl_X6_164 : CLk RX6 164 mi_X6_estates := gw_of (q4_in _ (List.mem_of_getElem? (i := 207) rfl)) rfl
theorem cl_X6_167 : CLk RX6 167 mi_X6_windyHours := gw_of (q4_in _ (List.mem_of_getElem? (i := 211) rfl)) rfl
theorem cl_X6_170 : CLk RX6 170 mi_X6_bitsOf := gw_of (q4_in _ (List.mem_of_getElem? (i := 215) rfl)) rfl
theorem cl_X6_173 : CLk RX6 173 mi_X6_isTub := gw_of (q4_in _ (List.mem_of_getElem? (i := 222) rfl)) rfl
theorem cl_X6_179 : CLk RX6 179 mi_X6_isHeir := gw_of (q4_in _ (List.mem_of_getElem? (i := 231) rfl)) rfl
theorem cl_X6_186 : CLk RX6 186 mi_X6_isHour := gw_of (q5_in _ (List.mem_of_getElem? (i := 5) rfl)) rfl
theorem cl_X6_191 : CLk RX6 191 mi_X6_puts := gw_of (q5_in _ (List.mem_of_getElem? (i := 14) rfl)) rfl
theorem cl_X6_195 : CLk RX6 195 mi_X6_casts := gw_of (q5_in _ (List.mem_of_getElem? (i := 38) rfl)) rfl
theorem cl_X6_201 : CLk RX6 201 mi_X6_drifts := gw_of (q5_in _ (List.mem_of_getElem? (i := 54) rfl)) rfl
theorem cl_X6_205 : CLk RX6 205 mi_X6_hooks := gw_of (q5_in _ (List.mem_of_getElem? (i := 58) rfl)) rfl
theorem cl_X6_208 : CLk RX6 208 mi_X6_dayGoes := gw_of (q5_in _ (List.mem_of_getElem? (i := 50) rfl)) rfl
theorem cl_X6_212 : CLk RX6 212 mi_X6_estatesOf := gw_of (q5_in _ (List.mem_of_getElem? (i := 76) rfl)) rfl
theorem cl_X6_220 : CLk RX6 220 mi_X6_worth := gw_of (q5_in _ (List.mem_of_getElem? (i := 72) rfl)) rfl
theorem cl_X6_223 : CLk RX6 223 mi_X6_tubsOf := gw_of (q5_in _ (List.mem_of_getElem? (i := 80) rfl)) rfl
theorem cl_X6_226 : CLk RX6 226 mi_X6_copies := gw_of (q5_in _ (List.mem_of_getElem? (i := 92) rfl)) rfl
theorem cl_X6_229 : CLk RX6 229 mi_X6_isHooked := gw_of (q5_in _ (List.mem_of_getElem? (i := 96) rfl)) rfl
theorem cl_X6_235 : CLk RX6 235 mi_X6_isRest := gw_of (q5_in _ (List.mem_of_getElem? (i := 129) rfl)) rfl
theorem cl_X6_240 : CLk RX6 240 mi_X6_lowest := gw_of (q5_in _ (List.mem_of_getElem? (i := 144) rfl)) rfl
theorem cl_X6_248 : CLk RX6 248 mi_X6_byDrops := gw_of (q5_in _ (List.mem_of_getElem? (i := 140) rfl)) rfl
theorem cl_X6_254 : CLk RX6 254 mi_X6_isAsSeen := gw_of (q5_in _ (List.mem_of_getElem? (i := 168) rfl)) rfl
theorem cl_X6_258 : CLk RX6 258 mi_X6_kindsOf := gw_of (q5_in _ (List.mem_of_getElem? (i := 164) rfl)) rfl
theorem cl_X6_73 : CLk RX6 73 mi_X6_in := gw_of (q4_in _ (List.mem_of_getElem? (i := 147) rfl)) rfl
theorem cl_X6_96 : CLk RX6 96 mi_X6_byteAt := gw_of (q4_in _ (List.mem_of_getElem? (i := 162) rfl)) rfl
theorem cn_X0_46 : CNk RX0 46 mi_X2_ofTub := List.mem_of_getElem? (i := 26) rfl
theorem cn_X0_65 : CNk RX0 65 mi_X2_tideAt := List.mem_of_getElem? (i := 27) rfl
theorem cn_X0_86 : CNk RX0 86 mi_X2_ofHeir := List.mem_of_getElem? (i := 28) rfl
theorem cn_X1_117 : CNk RX1 117 mi_X2_ofHeir := List.mem_of_getElem? (i := 14) rfl
theorem cn_X1_123 : CNk RX1 123 mi_X2_putHeir := List.mem_of_getElem? (i := 15) rfl
theorem cn_X1_137 : CNk RX1 137 mi_X5_within := List.mem_of_getElem? (i := 13) rfl
theorem cn_X1_25 : CNk RX1 25 mi_X2_empty := List.mem_of_getElem? (i := 8) rfl
theorem cn_X1_28 : CNk RX1 28 mi_X4_rewind := List.mem_of_getElem? (i := 9) rfl
theorem cn_X1_45 : CNk RX1 45 mi_X4_take := List.mem_of_getElem? (i := 10) rfl
theorem cn_X1_56 : CNk RX1 56 mi_X4_isWord := List.mem_of_getElem? (i := 11) rfl
theorem cn_X1_99 : CNk RX1 99 mi_X2_putTub := List.mem_of_getElem? (i := 12) rfl
theorem cn_X5_102 : CNk RX5 102 mi_X2_become := List.mem_of_getElem? (i := 16) rfl
theorem cn_X5_118 : CNk RX5 118 mi_X2_estates := List.mem_of_getElem? (i := 17) rfl
theorem cn_X5_124 : CNk RX5 124 mi_X2_isTub := List.mem_of_getElem? (i := 18) rfl
theorem cn_X5_130 : CNk RX5 130 mi_X2_ofTub := List.mem_of_getElem? (i := 19) rfl
theorem cn_X5_134 : CNk RX5 134 mi_X2_isHeir := List.mem_of_getElem? (i := 20) rfl
theorem cn_X5_137 : CNk RX5 137 mi_X2_ofHeir := List.mem_of_getElem? (i := 21) rfl
theorem cn_X5_150 : CNk RX5 150 mi_X2_putTub := List.mem_of_getElem? (i := 22) rfl
theorem cn_X5_157 : CNk RX5 157 mi_X2_putHeir := List.mem_of_getElem? (i := 23) rfl
theorem cn_X5_164 : CNk RX5 164 mi_X0_runTub := List.mem_of_getElem? (i := 25) rfl
theorem cn_X5_168 : CNk RX5 168 mi_X0_wayOf := List.mem_of_getElem? (i := 29) rfl
theorem cn_X5_181 : CNk RX5 181 mi_X0_eastOf := List.mem_of_getElem? (i := 30) rfl
theorem cn_X5_187 : CNk RX5 187 mi_X0_run := List.mem_of_getElem? (i := 31) rfl
theorem cn_X5_190 : CNk RX5 190 mi_X0_estatesOf := List.mem_of_getElem? (i := 32) rfl
theorem cn_X5_194 : CNk RX5 194 mi_X0_tubsOf := List.mem_of_getElem? (i := 33) rfl
theorem cn_X5_197 : CNk RX5 197 mi_X0_estatesHooked := List.mem_of_getElem? (i := 34) rfl
theorem cn_X5_201 : CNk RX5 201 mi_X0_tubsOfWay := List.mem_of_getElem? (i := 35) rfl
theorem cn_X5_204 : CNk RX5 204 mi_X0_gives := List.mem_of_getElem? (i := 36) rfl
theorem cn_X5_214 : CNk RX5 214 mi_X2_moveTub := List.mem_of_getElem? (i := 24) rfl
theorem cn_X5_217 : CNk RX5 217 mi_X0_sail := List.mem_of_getElem? (i := 37) rfl
theorem cn_X5_220 : CNk RX5 220 mi_X0_meet := List.mem_of_getElem? (i := 38) rfl
theorem cn_X5_265 : CNk RX5 265 mi_X3_renew := List.mem_of_getElem? (i := 40) rfl
theorem cn_X5_271 : CNk RX5 271 mi_X3_faultOf := List.mem_of_getElem? (i := 41) rfl
theorem cn_X5_274 : CNk RX5 274 mi_X3_put := List.mem_of_getElem? (i := 42) rfl
theorem cn_X5_286 : CNk RX5 286 mi_X2_hooks := List.mem_of_getElem? (i := 43) rfl
theorem cn_X5_289 : CNk RX5 289 mi_X2_moving := List.mem_of_getElem? (i := 44) rfl
theorem cn_X5_298 : CNk RX5 298 mi_X0_sailTub := List.mem_of_getElem? (i := 39) rfl
theorem cn_X5_79 : CNk RX5 79 mi_X4_add := List.mem_of_getElem? (i := 6) rfl
theorem cn_X5_89 : CNk RX5 89 mi_X1_readAll := List.mem_of_getElem? (i := 7) rfl
theorem fc_J6_265 : Cond.constant RJ6 265 1431655765 ∈ gwL := gw_of (q3_in _ (List.mem_of_getElem? (i := 205) rfl)) rfl
theorem fc_J6_266 : Cond.constant RJ6 266 858993459 ∈ gwL := gw_of (q3_in _ (List.mem_of_getElem? (i := 206) rfl)) rfl
theorem fc_J6_267 : Cond.constant RJ6 267 252645135 ∈ gwL := gw_of (q3_in _ (List.mem_of_getElem? (i := 207) rfl)) rfl
theorem fc_X5_264 : Cond.constant RX5 264 1103515245 ∈ gwL := gw_of (q3_in _ (List.mem_of_getElem? (i := 217) rfl)) rfl
theorem fc_X6_263 : Cond.constant RX6 263 1103515245 ∈ gwL := gw_of (q5_in _ (List.mem_of_getElem? (i := 185) rfl)) rfl
theorem fc_X5_233 : Cond.constantLong RX5 233 (-1) ∈ gwL := gw_of (q3_in _ (List.mem_of_getElem? (i := 153) rfl)) rfl
theorem fc_X5_235 : Cond.constantLong RX5 235 (-2) ∈ gwL := gw_of (q3_in _ (List.mem_of_getElem? (i := 154) rfl)) rfl
theorem fc_X5_292 : Cond.constantLong RX5 292 10 ∈ gwL := gw_of (q3_in _ (List.mem_of_getElem? (i := 162) rfl)) rfl
theorem fc_X6_103 : Cond.constantLong RX6 103 97 ∈ gwL := gw_of (q4_in _ (List.mem_of_getElem? (i := 166) rfl)) rfl
theorem fc_X6_105 : Cond.constantLong RX6 105 122 ∈ gwL := gw_of (q4_in _ (List.mem_of_getElem? (i := 167) rfl)) rfl
theorem fc_X6_107 : Cond.constantLong RX6 107 48 ∈ gwL := gw_of (q4_in _ (List.mem_of_getElem? (i := 168) rfl)) rfl
theorem fc_X6_109 : Cond.constantLong RX6 109 57 ∈ gwL := gw_of (q4_in _ (List.mem_of_getElem? (i := 169) rfl)) rfl
theorem fc_X6_141 : Cond.constantLong RX6 141 7 ∈ gwL := gw_of (q4_in _ (List.mem_of_getElem? (i := 182) rfl)) rfl
theorem fc_X6_162 : Cond.constantLong RX6 162 23 ∈ gwL := gw_of (q5_in _ (List.mem_of_getElem? (i := 8) rfl)) rfl
theorem fc_X6_177 : Cond.constantLong RX6 177 5 ∈ gwL := gw_of (q4_in _ (List.mem_of_getElem? (i := 226) rfl)) rfl
theorem fc_X6_182 : Cond.constantLong RX6 182 3 ∈ gwL := gw_of (q4_in _ (List.mem_of_getElem? (i := 235) rfl)) rfl
theorem fc_X6_184 : Cond.constantLong RX6 184 9 ∈ gwL := gw_of (q5_in _ (List.mem_of_getElem? (i := 0) rfl)) rfl
theorem fc_X6_189 : Cond.constantLong RX6 189 4 ∈ gwL := gw_of (q5_in _ (List.mem_of_getElem? (i := 13) rfl)) rfl
theorem fc_X6_216 : Cond.constantLong RX6 216 24 ∈ gwL := gw_of (q5_in _ (List.mem_of_getElem? (i := 66) rfl)) rfl
theorem fc_X6_218 : Cond.constantLong RX6 218 2 ∈ gwL := gw_of (q5_in _ (List.mem_of_getElem? (i := 67) rfl)) rfl
theorem fc_X6_233 : Cond.constantLong RX6 233 400 ∈ gwL := gw_of (q5_in _ (List.mem_of_getElem? (i := 116) rfl)) rfl
theorem fc_X6_238 : Cond.constantLong RX6 238 10 ∈ gwL := gw_of (q5_in _ (List.mem_of_getElem? (i := 137) rfl)) rfl
theorem fc_X6_244 : Cond.constantLong RX6 244 (-1) ∈ gwL := gw_of (q5_in _ (List.mem_of_getElem? (i := 138) rfl)) rfl
theorem fc_X6_246 : Cond.constantLong RX6 246 (-2) ∈ gwL := gw_of (q5_in _ (List.mem_of_getElem? (i := 139) rfl)) rfl
theorem fc_X6_252 : Cond.constantLong RX6 252 30 ∈ gwL := gw_of (q5_in _ (List.mem_of_getElem? (i := 155) rfl)) rfl
theorem fc_X6_261 : Cond.constantLong RX6 261 60 ∈ gwL := gw_of (q5_in _ (List.mem_of_getElem? (i := 184) rfl)) rfl
theorem fc_X6_264 : Cond.constantLong RX6 264 13 ∈ gwL := gw_of (q5_in _ (List.mem_of_getElem? (i := 206) rfl)) rfl
theorem fc_X6_71 : Cond.constantLong RX6 71 127 ∈ gwL := gw_of (q4_in _ (List.mem_of_getElem? (i := 146) rfl)) rfl
theorem fl_X0_15 : FLk RX0 15 0 1 := ⟨_, _, _, rfl, Nat.le_of_ble_eq_true rfl, rfl, gw_of (q1_in _ (List.mem_of_getElem? (i := 162) rfl)) rfl⟩
theorem fl_X0_18 : FLk RX0 18 0 2 := ⟨_, _, _, rfl, Nat.le_of_ble_eq_true rfl, rfl, gw_of (q1_in _ (List.mem_of_getElem? (i := 164) rfl)) rfl⟩
theorem fl_X0_21 : FLk RX0 21 0 3 := ⟨_, _, _, rfl, Nat.le_of_ble_eq_true rfl, rfl, gw_of (q1_in _ (List.mem_of_getElem? (i := 165) rfl)) rfl⟩
theorem fl_X0_24 : FLk RX0 24 0 4 := ⟨_, _, _, rfl, Nat.le_of_ble_eq_true rfl, rfl, gw_of (q1_in _ (List.mem_of_getElem? (i := 167) rfl)) rfl⟩
theorem fl_X0_27 : FLk RX0 27 0 5 := ⟨_, _, _, rfl, Nat.le_of_ble_eq_true rfl, rfl, gw_of (q1_in _ (List.mem_of_getElem? (i := 169) rfl)) rfl⟩
theorem fl_X0_9 : FLk RX0 9 0 0 := ⟨_, _, _, rfl, Nat.le_of_ble_eq_true rfl, rfl, gw_of (q1_in _ (List.mem_of_getElem? (i := 161) rfl)) rfl⟩
theorem fl_X1_12 : FLk RX1 12 1 0 := ⟨_, _, _, rfl, Nat.le_of_ble_eq_true rfl, rfl, gw_of (q1_in _ (List.mem_of_getElem? (i := 105) rfl)) rfl⟩
theorem fl_X1_144 : FLk RX1 144 1 3 := ⟨_, _, _, rfl, Nat.le_of_ble_eq_true rfl, rfl, gw_of (q1_in _ (List.mem_of_getElem? (i := 112) rfl)) rfl⟩
theorem fl_X1_21 : FLk RX1 21 1 1 := ⟨_, _, _, rfl, Nat.le_of_ble_eq_true rfl, rfl, gw_of (q1_in _ (List.mem_of_getElem? (i := 107) rfl)) rfl⟩
theorem fl_X1_31 : FLk RX1 31 1 2 := ⟨_, _, _, rfl, Nat.le_of_ble_eq_true rfl, rfl, gw_of (q1_in _ (List.mem_of_getElem? (i := 109) rfl)) rfl⟩
theorem fl_X1_35 : FLk RX1 35 1 4 := ⟨_, _, _, rfl, Nat.le_of_ble_eq_true rfl, rfl, gw_of (q1_in _ (List.mem_of_getElem? (i := 113) rfl)) rfl⟩
theorem fl_X1_38 : FLk RX1 38 1 5 := ⟨_, _, _, rfl, Nat.le_of_ble_eq_true rfl, rfl, gw_of (q1_in _ (List.mem_of_getElem? (i := 114) rfl)) rfl⟩
theorem fl_X1_41 : FLk RX1 41 1 6 := ⟨_, _, _, rfl, Nat.le_of_ble_eq_true rfl, rfl, gw_of (q1_in _ (List.mem_of_getElem? (i := 115) rfl)) rfl⟩
theorem fl_X2_15 : FLk RX2 15 2 1 := ⟨_, _, _, rfl, Nat.le_of_ble_eq_true rfl, rfl, gw_of (q1_in _ (List.mem_of_getElem? (i := 70) rfl)) rfl⟩
theorem fl_X2_18 : FLk RX2 18 2 2 := ⟨_, _, _, rfl, Nat.le_of_ble_eq_true rfl, rfl, gw_of (q1_in _ (List.mem_of_getElem? (i := 71) rfl)) rfl⟩
theorem fl_X2_21 : FLk RX2 21 2 3 := ⟨_, _, _, rfl, Nat.le_of_ble_eq_true rfl, rfl, gw_of (q1_in _ (List.mem_of_getElem? (i := 75) rfl)) rfl⟩
theorem fl_X2_27 : FLk RX2 27 2 4 := ⟨_, _, _, rfl, Nat.le_of_ble_eq_true rfl, rfl, gw_of (q1_in _ (List.mem_of_getElem? (i := 79) rfl)) rfl⟩
theorem fl_X2_31 : FLk RX2 31 2 5 := ⟨_, _, _, rfl, Nat.le_of_ble_eq_true rfl, rfl, gw_of (q1_in _ (List.mem_of_getElem? (i := 83) rfl)) rfl⟩
theorem fl_X2_34 : FLk RX2 34 2 6 := ⟨_, _, _, rfl, Nat.le_of_ble_eq_true rfl, rfl, gw_of (q1_in _ (List.mem_of_getElem? (i := 87) rfl)) rfl⟩
theorem fl_X2_9 : FLk RX2 9 2 0 := ⟨_, _, _, rfl, Nat.le_of_ble_eq_true rfl, rfl, gw_of (q1_in _ (List.mem_of_getElem? (i := 69) rfl)) rfl⟩
theorem fl_X3_15 : FLk RX3 15 3 1 := ⟨_, _, _, rfl, Nat.le_of_ble_eq_true rfl, rfl, gw_of (q1_in _ (List.mem_of_getElem? (i := 143) rfl)) rfl⟩
theorem fl_X3_19 : FLk RX3 19 3 2 := ⟨_, _, _, rfl, Nat.le_of_ble_eq_true rfl, rfl, gw_of (q1_in _ (List.mem_of_getElem? (i := 145) rfl)) rfl⟩
theorem fl_X3_9 : FLk RX3 9 3 0 := ⟨_, _, _, rfl, Nat.le_of_ble_eq_true rfl, rfl, gw_of (q1_in _ (List.mem_of_getElem? (i := 141) rfl)) rfl⟩
theorem fl_X4_15 : FLk RX4 15 4 1 := ⟨_, _, _, rfl, Nat.le_of_ble_eq_true rfl, rfl, gw_of (q1_in _ (List.mem_of_getElem? (i := 36) rfl)) rfl⟩
theorem fl_X4_19 : FLk RX4 19 4 2 := ⟨_, _, _, rfl, Nat.le_of_ble_eq_true rfl, rfl, gw_of (q1_in _ (List.mem_of_getElem? (i := 38) rfl)) rfl⟩
theorem fl_X4_22 : FLk RX4 22 4 4 := ⟨_, _, _, rfl, Nat.le_of_ble_eq_true rfl, rfl, gw_of (q1_in _ (List.mem_of_getElem? (i := 41) rfl)) rfl⟩
theorem fl_X4_25 : FLk RX4 25 4 5 := ⟨_, _, _, rfl, Nat.le_of_ble_eq_true rfl, rfl, gw_of (q1_in _ (List.mem_of_getElem? (i := 43) rfl)) rfl⟩
theorem fl_X4_32 : FLk RX4 32 4 3 := ⟨_, _, _, rfl, Nat.le_of_ble_eq_true rfl, rfl, gw_of (q1_in _ (List.mem_of_getElem? (i := 40) rfl)) rfl⟩
theorem fl_X4_9 : FLk RX4 9 4 0 := ⟨_, _, _, rfl, Nat.le_of_ble_eq_true rfl, rfl, gw_of (q1_in _ (List.mem_of_getElem? (i := 35) rfl)) rfl⟩
theorem fl_X5_10 : FLk RX5 10 5 0 := ⟨_, _, _, rfl, Nat.le_of_ble_eq_true rfl, rfl, gw_of (q1_in _ (List.mem_of_getElem? (i := 184) rfl)) rfl⟩
theorem fl_X5_106 : FLk RX5 106 5 15 := ⟨_, _, _, rfl, Nat.le_of_ble_eq_true rfl, rfl, gw_of (q1_in _ (List.mem_of_getElem? (i := 199) rfl)) rfl⟩
theorem fl_X5_20 : FLk RX5 20 5 1 := ⟨_, _, _, rfl, Nat.le_of_ble_eq_true rfl, rfl, gw_of (q1_in _ (List.mem_of_getElem? (i := 185) rfl)) rfl⟩
theorem fl_X5_24 : FLk RX5 24 5 2 := ⟨_, _, _, rfl, Nat.le_of_ble_eq_true rfl, rfl, gw_of (q1_in _ (List.mem_of_getElem? (i := 186) rfl)) rfl⟩
theorem fl_X5_28 : FLk RX5 28 5 3 := ⟨_, _, _, rfl, Nat.le_of_ble_eq_true rfl, rfl, gw_of (q1_in _ (List.mem_of_getElem? (i := 187) rfl)) rfl⟩
theorem fl_X5_280 : FLk RX5 280 5 16 := ⟨_, _, _, rfl, Nat.le_of_ble_eq_true rfl, rfl, gw_of (q1_in _ (List.mem_of_getElem? (i := 200) rfl)) rfl⟩
theorem fl_X5_31 : FLk RX5 31 5 4 := ⟨_, _, _, rfl, Nat.le_of_ble_eq_true rfl, rfl, gw_of (q1_in _ (List.mem_of_getElem? (i := 188) rfl)) rfl⟩
theorem fl_X5_35 : FLk RX5 35 5 5 := ⟨_, _, _, rfl, Nat.le_of_ble_eq_true rfl, rfl, gw_of (q1_in _ (List.mem_of_getElem? (i := 189) rfl)) rfl⟩
theorem fl_X5_42 : FLk RX5 42 5 6 := ⟨_, _, _, rfl, Nat.le_of_ble_eq_true rfl, rfl, gw_of (q1_in _ (List.mem_of_getElem? (i := 190) rfl)) rfl⟩
theorem fl_X5_49 : FLk RX5 49 5 7 := ⟨_, _, _, rfl, Nat.le_of_ble_eq_true rfl, rfl, gw_of (q1_in _ (List.mem_of_getElem? (i := 191) rfl)) rfl⟩
theorem fl_X5_53 : FLk RX5 53 5 8 := ⟨_, _, _, rfl, Nat.le_of_ble_eq_true rfl, rfl, gw_of (q1_in _ (List.mem_of_getElem? (i := 192) rfl)) rfl⟩
theorem fl_X5_57 : FLk RX5 57 5 9 := ⟨_, _, _, rfl, Nat.le_of_ble_eq_true rfl, rfl, gw_of (q1_in _ (List.mem_of_getElem? (i := 193) rfl)) rfl⟩
theorem fl_X5_60 : FLk RX5 60 5 10 := ⟨_, _, _, rfl, Nat.le_of_ble_eq_true rfl, rfl, gw_of (q1_in _ (List.mem_of_getElem? (i := 194) rfl)) rfl⟩
theorem fl_X5_63 : FLk RX5 63 5 11 := ⟨_, _, _, rfl, Nat.le_of_ble_eq_true rfl, rfl, gw_of (q1_in _ (List.mem_of_getElem? (i := 195) rfl)) rfl⟩
theorem fl_X5_66 : FLk RX5 66 5 12 := ⟨_, _, _, rfl, Nat.le_of_ble_eq_true rfl, rfl, gw_of (q1_in _ (List.mem_of_getElem? (i := 196) rfl)) rfl⟩
theorem fl_X5_69 : FLk RX5 69 5 13 := ⟨_, _, _, rfl, Nat.le_of_ble_eq_true rfl, rfl, gw_of (q1_in _ (List.mem_of_getElem? (i := 197) rfl)) rfl⟩
theorem fl_X5_72 : FLk RX5 72 5 14 := ⟨_, _, _, rfl, Nat.le_of_ble_eq_true rfl, rfl, gw_of (q1_in _ (List.mem_of_getElem? (i := 198) rfl)) rfl⟩
theorem fl_X6_100 : FLk RX6 100 6 16 := ⟨_, _, _, rfl, Nat.le_of_ble_eq_true rfl, rfl, gw_of (q4_in _ (List.mem_of_getElem? (i := 49) rfl)) rfl⟩
theorem fl_X6_122 : FLk RX6 122 6 4 := ⟨_, _, _, rfl, Nat.le_of_ble_eq_true rfl, rfl, gw_of (q4_in _ (List.mem_of_getElem? (i := 37) rfl)) rfl⟩
theorem fl_X6_13 : FLk RX6 13 6 1 := ⟨_, _, _, rfl, Nat.le_of_ble_eq_true rfl, rfl, gw_of (q4_in _ (List.mem_of_getElem? (i := 34) rfl)) rfl⟩
theorem fl_X6_131 : FLk RX6 131 6 5 := ⟨_, _, _, rfl, Nat.le_of_ble_eq_true rfl, rfl, gw_of (q4_in _ (List.mem_of_getElem? (i := 38) rfl)) rfl⟩
theorem fl_X6_134 : FLk RX6 134 6 6 := ⟨_, _, _, rfl, Nat.le_of_ble_eq_true rfl, rfl, gw_of (q4_in _ (List.mem_of_getElem? (i := 39) rfl)) rfl⟩
theorem fl_X6_143 : FLk RX6 143 6 7 := ⟨_, _, _, rfl, Nat.le_of_ble_eq_true rfl, rfl, gw_of (q4_in _ (List.mem_of_getElem? (i := 40) rfl)) rfl⟩
theorem fl_X6_153 : FLk RX6 153 6 10 := ⟨_, _, _, rfl, Nat.le_of_ble_eq_true rfl, rfl, gw_of (q4_in _ (List.mem_of_getElem? (i := 43) rfl)) rfl⟩
theorem fl_X6_156 : FLk RX6 156 6 2 := ⟨_, _, _, rfl, Nat.le_of_ble_eq_true rfl, rfl, gw_of (q4_in _ (List.mem_of_getElem? (i := 35) rfl)) rfl⟩
theorem fl_X6_159 : FLk RX6 159 6 29 := ⟨_, _, _, rfl, Nat.le_of_ble_eq_true rfl, rfl, gw_of (q4_in _ (List.mem_of_getElem? (i := 62) rfl)) rfl⟩
theorem fl_X6_16 : FLk RX6 16 6 3 := ⟨_, _, _, rfl, Nat.le_of_ble_eq_true rfl, rfl, gw_of (q4_in _ (List.mem_of_getElem? (i := 36) rfl)) rfl⟩
theorem fl_X6_19 : FLk RX6 19 6 8 := ⟨_, _, _, rfl, Nat.le_of_ble_eq_true rfl, rfl, gw_of (q4_in _ (List.mem_of_getElem? (i := 41) rfl)) rfl⟩
theorem fl_X6_198 : FLk RX6 198 6 25 := ⟨_, _, _, rfl, Nat.le_of_ble_eq_true rfl, rfl, gw_of (q4_in _ (List.mem_of_getElem? (i := 58) rfl)) rfl⟩
theorem fl_X6_22 : FLk RX6 22 6 17 := ⟨_, _, _, rfl, Nat.le_of_ble_eq_true rfl, rfl, gw_of (q4_in _ (List.mem_of_getElem? (i := 50) rfl)) rfl⟩
theorem fl_X6_25 : FLk RX6 25 6 18 := ⟨_, _, _, rfl, Nat.le_of_ble_eq_true rfl, rfl, gw_of (q4_in _ (List.mem_of_getElem? (i := 51) rfl)) rfl⟩
theorem fl_X6_266 : FLk RX6 266 6 35 := ⟨_, _, _, rfl, Nat.le_of_ble_eq_true rfl, rfl, gw_of (q4_in _ (List.mem_of_getElem? (i := 68) rfl)) rfl⟩
theorem fl_X6_28 : FLk RX6 28 6 19 := ⟨_, _, _, rfl, Nat.le_of_ble_eq_true rfl, rfl, gw_of (q4_in _ (List.mem_of_getElem? (i := 52) rfl)) rfl⟩
theorem fl_X6_31 : FLk RX6 31 6 20 := ⟨_, _, _, rfl, Nat.le_of_ble_eq_true rfl, rfl, gw_of (q4_in _ (List.mem_of_getElem? (i := 53) rfl)) rfl⟩
theorem fl_X6_34 : FLk RX6 34 6 21 := ⟨_, _, _, rfl, Nat.le_of_ble_eq_true rfl, rfl, gw_of (q4_in _ (List.mem_of_getElem? (i := 54) rfl)) rfl⟩
theorem fl_X6_37 : FLk RX6 37 6 22 := ⟨_, _, _, rfl, Nat.le_of_ble_eq_true rfl, rfl, gw_of (q4_in _ (List.mem_of_getElem? (i := 55) rfl)) rfl⟩
theorem fl_X6_40 : FLk RX6 40 6 23 := ⟨_, _, _, rfl, Nat.le_of_ble_eq_true rfl, rfl, gw_of (q4_in _ (List.mem_of_getElem? (i := 56) rfl)) rfl⟩
theorem fl_X6_43 : FLk RX6 43 6 24 := ⟨_, _, _, rfl, Nat.le_of_ble_eq_true rfl, rfl, gw_of (q4_in _ (List.mem_of_getElem? (i := 57) rfl)) rfl⟩
theorem fl_X6_46 : FLk RX6 46 6 26 := ⟨_, _, _, rfl, Nat.le_of_ble_eq_true rfl, rfl, gw_of (q4_in _ (List.mem_of_getElem? (i := 59) rfl)) rfl⟩
theorem fl_X6_49 : FLk RX6 49 6 27 := ⟨_, _, _, rfl, Nat.le_of_ble_eq_true rfl, rfl, gw_of (q4_in _ (List.mem_of_getElem? (i := 60) rfl)) rfl⟩
theorem fl_X6_52 : FLk RX6 52 6 28 := ⟨_, _, _, rfl, Nat.le_of_ble_eq_true rfl, rfl, gw_of (q4_in _ (List.mem_of_getElem? (i := 61) rfl)) rfl⟩
theorem fl_X6_55 : FLk RX6 55 6 30 := ⟨_, _, _, rfl, Nat.le_of_ble_eq_true rfl, rfl, gw_of (q4_in _ (List.mem_of_getElem? (i := 63) rfl)) rfl⟩
theorem fl_X6_58 : FLk RX6 58 6 31 := ⟨_, _, _, rfl, Nat.le_of_ble_eq_true rfl, rfl, gw_of (q4_in _ (List.mem_of_getElem? (i := 64) rfl)) rfl⟩
theorem fl_X6_62 : FLk RX6 62 6 32 := ⟨_, _, _, rfl, Nat.le_of_ble_eq_true rfl, rfl, gw_of (q4_in _ (List.mem_of_getElem? (i := 65) rfl)) rfl⟩
theorem fl_X6_65 : FLk RX6 65 6 33 := ⟨_, _, _, rfl, Nat.le_of_ble_eq_true rfl, rfl, gw_of (q4_in _ (List.mem_of_getElem? (i := 66) rfl)) rfl⟩
theorem fl_X6_68 : FLk RX6 68 6 34 := ⟨_, _, _, rfl, Nat.le_of_ble_eq_true rfl, rfl, gw_of (q4_in _ (List.mem_of_getElem? (i := 67) rfl)) rfl⟩
theorem fl_X6_7 : FLk RX6 7 6 0 := ⟨_, _, _, rfl, Nat.le_of_ble_eq_true rfl, rfl, gw_of (q4_in _ (List.mem_of_getElem? (i := 33) rfl)) rfl⟩
theorem fl_X6_77 : FLk RX6 77 6 9 := ⟨_, _, _, rfl, Nat.le_of_ble_eq_true rfl, rfl, gw_of (q4_in _ (List.mem_of_getElem? (i := 42) rfl)) rfl⟩
theorem fl_X6_81 : FLk RX6 81 6 11 := ⟨_, _, _, rfl, Nat.le_of_ble_eq_true rfl, rfl, gw_of (q4_in _ (List.mem_of_getElem? (i := 44) rfl)) rfl⟩
theorem fl_X6_84 : FLk RX6 84 6 14 := ⟨_, _, _, rfl, Nat.le_of_ble_eq_true rfl, rfl, gw_of (q4_in _ (List.mem_of_getElem? (i := 47) rfl)) rfl⟩
theorem fl_X6_87 : FLk RX6 87 6 12 := ⟨_, _, _, rfl, Nat.le_of_ble_eq_true rfl, rfl, gw_of (q4_in _ (List.mem_of_getElem? (i := 45) rfl)) rfl⟩
theorem fl_X6_90 : FLk RX6 90 6 15 := ⟨_, _, _, rfl, Nat.le_of_ble_eq_true rfl, rfl, gw_of (q4_in _ (List.mem_of_getElem? (i := 48) rfl)) rfl⟩
theorem fl_X6_93 : FLk RX6 93 6 13 := ⟨_, _, _, rfl, Nat.le_of_ble_eq_true rfl, rfl, gw_of (q4_in _ (List.mem_of_getElem? (i := 46) rfl)) rfl⟩
theorem fs_J0_1053 : Cond.fieldLink RJ0 1053 "jdk/internal/util/Preconditions" "SIOOBE_FORMATTER" "Ljava/util/function/BiFunction;" ∈ gwL := gw_of (q2_in _ (List.mem_of_getElem? (i := 68) rfl)) rfl
theorem fs_J0_15 : Cond.fieldLink RJ0 15 "java/lang/String" "coder" "B" ∈ gwL := gw_of (q5_in _ (List.mem_of_getElem? (i := 216) rfl)) rfl
theorem fs_J0_38 : Cond.fieldLink RJ0 38 "java/lang/String" "COMPACT_STRINGS" "Z" ∈ gwL := gw_of (q2_in _ (List.mem_of_getElem? (i := 52) rfl)) rfl
theorem fs_J0_9 : Cond.fieldLink RJ0 9 "java/lang/String" "value" "[B" ∈ gwL := gw_of (q5_in _ (List.mem_of_getElem? (i := 215) rfl)) rfl
theorem mk_X0_75 : Cond.methodLink RX0 75 Lib.Math.min.name ∈ gwL := gw_of (q3_in _ (List.mem_of_getElem? (i := 41) rfl)) rfl
theorem mk_X0_80 : Cond.methodLink RX0 80 Lib.Math.max.name ∈ gwL := gw_of (q3_in _ (List.mem_of_getElem? (i := 44) rfl)) rfl
theorem mk_X0_89 : Cond.methodLink RX0 89 Lib.Math.abs.name ∈ gwL := gw_of (q3_in _ (List.mem_of_getElem? (i := 52) rfl)) rfl
theorem mk_X2_37 : Cond.methodLink RX2 37 arraycopyName ∈ gwL := gw_of (q2_in _ (List.mem_of_getElem? (i := 154) rfl)) rfl
theorem mk_X5_301 : Cond.methodLink RX5 301 Lib.Math.max.name ∈ gwL := gw_of (q3_in _ (List.mem_of_getElem? (i := 212) rfl)) rfl
theorem nl_X0_30 : NLk RX0 30 2 4 := ⟨_, _, _, rfl, Nat.le_of_ble_eq_true rfl, rfl, List.mem_of_getElem? (i := 10) rfl⟩
theorem nl_X0_53 : NLk RX0 53 2 3 := ⟨_, _, _, rfl, Nat.le_of_ble_eq_true rfl, rfl, List.mem_of_getElem? (i := 7) rfl⟩
theorem nl_X0_59 : NLk RX0 59 2 2 := ⟨_, _, _, rfl, Nat.le_of_ble_eq_true rfl, rfl, List.mem_of_getElem? (i := 5) rfl⟩
theorem nl_X0_83 : NLk RX0 83 2 5 := ⟨_, _, _, rfl, Nat.le_of_ble_eq_true rfl, rfl, List.mem_of_getElem? (i := 15) rfl⟩
theorem nl_X1_114 : NLk RX1 114 2 5 := ⟨_, _, _, rfl, Nat.le_of_ble_eq_true rfl, rfl, List.mem_of_getElem? (i := 13) rfl⟩
theorem nl_X1_126 : NLk RX1 126 2 2 := ⟨_, _, _, rfl, Nat.le_of_ble_eq_true rfl, rfl, List.mem_of_getElem? (i := 4) rfl⟩
theorem nl_X1_129 : NLk RX1 129 2 3 := ⟨_, _, _, rfl, Nat.le_of_ble_eq_true rfl, rfl, List.mem_of_getElem? (i := 8) rfl⟩
theorem nl_X1_132 : NLk RX1 132 2 6 := ⟨_, _, _, rfl, Nat.le_of_ble_eq_true rfl, rfl, List.mem_of_getElem? (i := 17) rfl⟩
theorem nl_X1_134 : NLk RX1 134 4 5 := ⟨_, _, _, rfl, Nat.le_of_ble_eq_true rfl, rfl, List.mem_of_getElem? (i := 3) rfl⟩
theorem nl_X1_141 : NLk RX1 141 4 4 := ⟨_, _, _, rfl, Nat.le_of_ble_eq_true rfl, rfl, List.mem_of_getElem? (i := 2) rfl⟩
theorem nl_X1_48 : NLk RX1 48 4 3 := ⟨_, _, _, rfl, Nat.le_of_ble_eq_true rfl, rfl, List.mem_of_getElem? (i := 1) rfl⟩
theorem nl_X1_93 : NLk RX1 93 2 4 := ⟨_, _, _, rfl, Nat.le_of_ble_eq_true rfl, rfl, List.mem_of_getElem? (i := 11) rfl⟩
theorem nl_X5_109 : NLk RX5 109 2 4 := ⟨_, _, _, rfl, Nat.le_of_ble_eq_true rfl, rfl, List.mem_of_getElem? (i := 12) rfl⟩
theorem nl_X5_112 : NLk RX5 112 2 5 := ⟨_, _, _, rfl, Nat.le_of_ble_eq_true rfl, rfl, List.mem_of_getElem? (i := 14) rfl⟩
theorem nl_X5_115 : NLk RX5 115 2 6 := ⟨_, _, _, rfl, Nat.le_of_ble_eq_true rfl, rfl, List.mem_of_getElem? (i := 16) rfl⟩
theorem nl_X5_140 : NLk RX5 140 2 2 := ⟨_, _, _, rfl, Nat.le_of_ble_eq_true rfl, rfl, List.mem_of_getElem? (i := 6) rfl⟩
theorem nl_X5_143 : NLk RX5 143 2 3 := ⟨_, _, _, rfl, Nat.le_of_ble_eq_true rfl, rfl, List.mem_of_getElem? (i := 9) rfl⟩
theorem nl_X5_172 : NLk RX5 172 0 4 := ⟨_, _, _, rfl, Nat.le_of_ble_eq_true rfl, rfl, List.mem_of_getElem? (i := 27) rfl⟩
theorem nl_X5_175 : NLk RX5 175 0 3 := ⟨_, _, _, rfl, Nat.le_of_ble_eq_true rfl, rfl, List.mem_of_getElem? (i := 26) rfl⟩
theorem nl_X5_178 : NLk RX5 178 0 5 := ⟨_, _, _, rfl, Nat.le_of_ble_eq_true rfl, rfl, List.mem_of_getElem? (i := 28) rfl⟩
theorem nl_X5_184 : NLk RX5 184 0 1 := ⟨_, _, _, rfl, Nat.le_of_ble_eq_true rfl, rfl, List.mem_of_getElem? (i := 25) rfl⟩
theorem nl_X5_268 : NLk RX5 268 3 1 := ⟨_, _, _, rfl, Nat.le_of_ble_eq_true rfl, rfl, List.mem_of_getElem? (i := 23) rfl⟩
theorem nl_X5_277 : NLk RX5 277 3 0 := ⟨_, _, _, rfl, Nat.le_of_ble_eq_true rfl, rfl, List.mem_of_getElem? (i := 22) rfl⟩
theorem nl_X5_283 : NLk RX5 283 3 2 := ⟨_, _, _, rfl, Nat.le_of_ble_eq_true rfl, rfl, List.mem_of_getElem? (i := 24) rfl⟩
theorem nl_X5_85 : NLk RX5 85 4 1 := ⟨_, _, _, rfl, Nat.le_of_ble_eq_true rfl, rfl, List.mem_of_getElem? (i := 0) rfl⟩
theorem nl_X5_93 : NLk RX5 93 1 2 := ⟨_, _, _, rfl, Nat.le_of_ble_eq_true rfl, rfl, List.mem_of_getElem? (i := 20) rfl⟩
theorem nl_X5_96 : NLk RX5 96 1 3 := ⟨_, _, _, rfl, Nat.le_of_ble_eq_true rfl, rfl, List.mem_of_getElem? (i := 21) rfl⟩
theorem nl_X5_99 : NLk RX5 99 1 1 := ⟨_, _, _, rfl, Nat.le_of_ble_eq_true rfl, rfl, List.mem_of_getElem? (i := 19) rfl⟩
theorem sl_X5_127 : SLk RX5 127 3 := ⟨Nat.le_of_ble_eq_true rfl, gw_of (q2_in _ (List.mem_of_getElem? (i := 186) rfl)) rfl⟩
theorem sl_X5_208 : SLk RX5 208 0 := ⟨Nat.le_of_ble_eq_true rfl, gw_of (q2_in _ (List.mem_of_getElem? (i := 213) rfl)) rfl⟩
theorem sl_X5_211 : SLk RX5 211 1 := ⟨Nat.le_of_ble_eq_true rfl, gw_of (q2_in _ (List.mem_of_getElem? (i := 214) rfl)) rfl⟩
theorem sl_X5_223 : SLk RX5 223 2 := ⟨Nat.le_of_ble_eq_true rfl, gw_of (q2_in _ (List.mem_of_getElem? (i := 223) rfl)) rfl⟩
theorem sl_X0_56 : SNk RX0 56 3 := ⟨Nat.le_of_ble_eq_true rfl, List.mem_of_getElem? (i := 32) rfl⟩
theorem sl_X0_62 : SNk RX0 62 4 := ⟨Nat.le_of_ble_eq_true rfl, List.mem_of_getElem? (i := 33) rfl⟩
theorem sl_X0_69 : SNk RX0 69 5 := ⟨Nat.le_of_ble_eq_true rfl, List.mem_of_getElem? (i := 34) rfl⟩
theorem sl_X0_72 : SNk RX0 72 1 := ⟨Nat.le_of_ble_eq_true rfl, List.mem_of_getElem? (i := 35) rfl⟩
theorem sl_X1_103 : SNk RX1 103 0 := ⟨Nat.le_of_ble_eq_true rfl, List.mem_of_getElem? (i := 29) rfl⟩
theorem sl_X1_107 : SNk RX1 107 1 := ⟨Nat.le_of_ble_eq_true rfl, List.mem_of_getElem? (i := 30) rfl⟩
theorem sl_X1_120 : SNk RX1 120 2 := ⟨Nat.le_of_ble_eq_true rfl, List.mem_of_getElem? (i := 31) rfl⟩
theorem mok_J0_length_8abf5 : MOK mi_J0_length_8abf5 0 := ⟨⟨⟨gw_of (q1_in _ (List.mem_of_getElem? (i := 8) rfl)) rfl, gw_of (q2_in _ (List.mem_of_getElem? (i := 47) rfl)) rfl⟩, rfl, rfl, by decide +kernel, by decide +kernel, by decide +kernel⟩, gw_of (q2_in _ (List.mem_of_getElem? (i := 45) rfl)) rfl, gw_of (q2_in _ (List.mem_of_getElem? (i := 46) rfl)) rfl⟩
theorem mok_J0_charAt_5068e : MOK mi_J0_charAt_5068e 1 := ⟨⟨⟨gw_of (q1_in _ (List.mem_of_getElem? (i := 8) rfl)) rfl, gw_of (q2_in _ (List.mem_of_getElem? (i := 57) rfl)) rfl⟩, rfl, rfl, by decide +kernel, by decide +kernel, by decide +kernel⟩, gw_of (q2_in _ (List.mem_of_getElem? (i := 55) rfl)) rfl, gw_of (q2_in _ (List.mem_of_getElem? (i := 56) rfl)) rfl⟩
theorem mok_J0_coder_7d493 : MOK mi_J0_coder_7d493 0 := ⟨⟨⟨gw_of (q1_in _ (List.mem_of_getElem? (i := 8) rfl)) rfl, gw_of (q2_in _ (List.mem_of_getElem? (i := 51) rfl)) rfl⟩, rfl, rfl, by decide +kernel, by decide +kernel, by decide +kernel⟩, gw_of (q2_in _ (List.mem_of_getElem? (i := 49) rfl)) rfl, gw_of (q2_in _ (List.mem_of_getElem? (i := 50) rfl)) rfl⟩
theorem mok_J0_isLatin1_aae02 : MOK mi_J0_isLatin1_aae02 0 := ⟨⟨⟨gw_of (q1_in _ (List.mem_of_getElem? (i := 8) rfl)) rfl, gw_of (q2_in _ (List.mem_of_getElem? (i := 61) rfl)) rfl⟩, rfl, rfl, by decide +kernel, by decide +kernel, by decide +kernel⟩, gw_of (q2_in _ (List.mem_of_getElem? (i := 59) rfl)) rfl, gw_of (q2_in _ (List.mem_of_getElem? (i := 60) rfl)) rfl⟩
theorem mos_J0_checkIndex_df160 : MOS mi_J0_checkIndex_df160 2 := ⟨⟨⟨gw_of (q1_in _ (List.mem_of_getElem? (i := 8) rfl)) rfl, gw_of (q2_in _ (List.mem_of_getElem? (i := 67) rfl)) rfl⟩, rfl, rfl, by decide +kernel, by decide +kernel, by decide +kernel⟩, gw_of (q2_in _ (List.mem_of_getElem? (i := 66) rfl)) rfl⟩
theorem mos_J1_charAt_3b067 : MOS mi_J1_charAt_3b067 2 := ⟨⟨⟨gw_of (q1_in _ (List.mem_of_getElem? (i := 9) rfl)) rfl, gw_of (q2_in _ (List.mem_of_getElem? (i := 64) rfl)) rfl⟩, rfl, rfl, by decide +kernel, by decide +kernel, by decide +kernel⟩, gw_of (q2_in _ (List.mem_of_getElem? (i := 63) rfl)) rfl⟩
theorem mos_J3_checkIndex_8e157 : MOS mi_J3_checkIndex_8e157 3 := ⟨⟨⟨gw_of (q1_in _ (List.mem_of_getElem? (i := 10) rfl)) rfl, gw_of (q2_in _ (List.mem_of_getElem? (i := 72) rfl)) rfl⟩, rfl, rfl, by decide +kernel, by decide +kernel, by decide +kernel⟩, gw_of (q2_in _ (List.mem_of_getElem? (i := 71) rfl)) rfl⟩
theorem mos_J6_bitCount_0f7a4 : MOS mi_J6_bitCount_0f7a4 1 := ⟨⟨⟨gw_of (q1_in _ (List.mem_of_getElem? (i := 14) rfl)) rfl, gw_of (q3_in _ (List.mem_of_getElem? (i := 204) rfl)) rfl⟩, rfl, rfl, by decide +kernel, by decide +kernel, by decide +kernel⟩, gw_of (q3_in _ (List.mem_of_getElem? (i := 203) rfl)) rfl⟩
theorem mok_X0_run : MOK mi_X0_run 1 := ⟨⟨⟨gw_of (q1_in _ (List.mem_of_getElem? (i := 6) rfl)) rfl, gw_of (q3_in _ (List.mem_of_getElem? (i := 74) rfl)) rfl⟩, rfl, rfl, by decide +kernel, by decide +kernel, by decide +kernel⟩, gw_of (q3_in _ (List.mem_of_getElem? (i := 73) rfl)) rfl, gw_sel (List.mem_of_getElem? (i := 34) rfl) rfl⟩
theorem mok_X0_sail : MOK mi_X0_sail 1 := ⟨⟨⟨gw_of (q1_in _ (List.mem_of_getElem? (i := 6) rfl)) rfl, gw_of (q3_in _ (List.mem_of_getElem? (i := 120) rfl)) rfl⟩, rfl, rfl, by decide +kernel, by decide +kernel, by decide +kernel⟩, gw_of (q3_in _ (List.mem_of_getElem? (i := 119) rfl)) rfl, gw_sel (List.mem_of_getElem? (i := 40) rfl) rfl⟩
theorem mok_X0_meet : MOK mi_X0_meet 1 := ⟨⟨⟨gw_of (q1_in _ (List.mem_of_getElem? (i := 6) rfl)) rfl, gw_of (q3_in _ (List.mem_of_getElem? (i := 124) rfl)) rfl⟩, rfl, rfl, by decide +kernel, by decide +kernel, by decide +kernel⟩, gw_of (q3_in _ (List.mem_of_getElem? (i := 123) rfl)) rfl, gw_sel (List.mem_of_getElem? (i := 41) rfl) rfl⟩
theorem mok_X0_runTub : MOK mi_X0_runTub 3 := ⟨⟨⟨gw_of (q1_in _ (List.mem_of_getElem? (i := 6) rfl)) rfl, gw_of (q3_in _ (List.mem_of_getElem? (i := 21) rfl)) rfl⟩, rfl, rfl, by decide +kernel, by decide +kernel, by decide +kernel⟩, gw_of (q3_in _ (List.mem_of_getElem? (i := 20) rfl)) rfl, gw_sel (List.mem_of_getElem? (i := 27) rfl) rfl⟩
theorem mok_X0_sailTub : MOK mi_X0_sailTub 3 := ⟨⟨⟨gw_of (q1_in _ (List.mem_of_getElem? (i := 6) rfl)) rfl, gw_of (q3_in _ (List.mem_of_getElem? (i := 25) rfl)) rfl⟩, rfl, rfl, by decide +kernel, by decide +kernel, by decide +kernel⟩, gw_of (q3_in _ (List.mem_of_getElem? (i := 24) rfl)) rfl, gw_sel (List.mem_of_getElem? (i := 28) rfl) rfl⟩
theorem mok_X0_sailHour : MOK mi_X0_sailHour 3 := ⟨⟨⟨gw_of (q1_in _ (List.mem_of_getElem? (i := 6) rfl)) rfl, gw_of (q3_in _ (List.mem_of_getElem? (i := 30) rfl)) rfl⟩, rfl, rfl, by decide +kernel, by decide +kernel, by decide +kernel⟩, gw_of (q3_in _ (List.mem_of_getElem? (i := 29) rfl)) rfl, gw_sel (List.mem_of_getElem? (i := 29) rfl) rfl⟩
theorem mok_X0_meetTub : MOK mi_X0_meetTub 3 := ⟨⟨⟨gw_of (q1_in _ (List.mem_of_getElem? (i := 6) rfl)) rfl, gw_of (q3_in _ (List.mem_of_getElem? (i := 50) rfl)) rfl⟩, rfl, rfl, by decide +kernel, by decide +kernel, by decide +kernel⟩, gw_of (q3_in _ (List.mem_of_getElem? (i := 49) rfl)) rfl, gw_sel (List.mem_of_getElem? (i := 31) rfl) rfl⟩
theorem mok_X0_gives : MOK mi_X0_gives 3 := ⟨⟨⟨gw_of (q1_in _ (List.mem_of_getElem? (i := 6) rfl)) rfl, gw_of (q3_in _ (List.mem_of_getElem? (i := 104) rfl)) rfl⟩, rfl, rfl, by decide +kernel, by decide +kernel, by decide +kernel⟩, gw_of (q3_in _ (List.mem_of_getElem? (i := 103) rfl)) rfl, gw_sel (List.mem_of_getElem? (i := 39) rfl) rfl⟩
theorem mok_X0_wayOf : MOK mi_X0_wayOf 1 := ⟨⟨⟨gw_of (q1_in _ (List.mem_of_getElem? (i := 6) rfl)) rfl, gw_of (q3_in _ (List.mem_of_getElem? (i := 58) rfl)) rfl⟩, rfl, rfl, by decide +kernel, by decide +kernel, by decide +kernel⟩, gw_of (q3_in _ (List.mem_of_getElem? (i := 57) rfl)) rfl, gw_sel (List.mem_of_getElem? (i := 32) rfl) rfl⟩
theorem mok_X0_eastOf : MOK mi_X0_eastOf 1 := ⟨⟨⟨gw_of (q1_in _ (List.mem_of_getElem? (i := 6) rfl)) rfl, gw_of (q3_in _ (List.mem_of_getElem? (i := 66) rfl)) rfl⟩, rfl, rfl, by decide +kernel, by decide +kernel, by decide +kernel⟩, gw_of (q3_in _ (List.mem_of_getElem? (i := 65) rfl)) rfl, gw_sel (List.mem_of_getElem? (i := 33) rfl) rfl⟩
theorem mok_X0_estatesOf : MOK mi_X0_estatesOf 2 := ⟨⟨⟨gw_of (q1_in _ (List.mem_of_getElem? (i := 6) rfl)) rfl, gw_of (q3_in _ (List.mem_of_getElem? (i := 79) rfl)) rfl⟩, rfl, rfl, by decide +kernel, by decide +kernel, by decide +kernel⟩, gw_of (q3_in _ (List.mem_of_getElem? (i := 78) rfl)) rfl, gw_sel (List.mem_of_getElem? (i := 35) rfl) rfl⟩
theorem mok_X0_tubsOf : MOK mi_X0_tubsOf 2 := ⟨⟨⟨gw_of (q1_in _ (List.mem_of_getElem? (i := 6) rfl)) rfl, gw_of (q3_in _ (List.mem_of_getElem? (i := 83) rfl)) rfl⟩, rfl, rfl, by decide +kernel, by decide +kernel, by decide +kernel⟩, gw_of (q3_in _ (List.mem_of_getElem? (i := 82) rfl)) rfl, gw_sel (List.mem_of_getElem? (i := 36) rfl) rfl⟩
theorem mok_X0_estatesHooked : MOK mi_X0_estatesHooked 1 := ⟨⟨⟨gw_of (q1_in _ (List.mem_of_getElem? (i := 6) rfl)) rfl, gw_of (q3_in _ (List.mem_of_getElem? (i := 91) rfl)) rfl⟩, rfl, rfl, by decide +kernel, by decide +kernel, by decide +kernel⟩, gw_of (q3_in _ (List.mem_of_getElem? (i := 90) rfl)) rfl, gw_sel (List.mem_of_getElem? (i := 37) rfl) rfl⟩
theorem mok_X0_tubsOfWay : MOK mi_X0_tubsOfWay 2 := ⟨⟨⟨gw_of (q1_in _ (List.mem_of_getElem? (i := 6) rfl)) rfl, gw_of (q3_in _ (List.mem_of_getElem? (i := 95) rfl)) rfl⟩, rfl, rfl, by decide +kernel, by decide +kernel, by decide +kernel⟩, gw_of (q3_in _ (List.mem_of_getElem? (i := 94) rfl)) rfl, gw_sel (List.mem_of_getElem? (i := 38) rfl) rfl⟩
theorem mok_X1_readAll : MOK mi_X1_readAll 0 := ⟨⟨⟨gw_of (q1_in _ (List.mem_of_getElem? (i := 2) rfl)) rfl, gw_of (q2_in _ (List.mem_of_getElem? (i := 18) rfl)) rfl⟩, rfl, rfl, by decide +kernel, by decide +kernel, by decide +kernel⟩, gw_of (q2_in _ (List.mem_of_getElem? (i := 17) rfl)) rfl, gw_sel (List.mem_of_getElem? (i := 2) rfl) rfl⟩
theorem mok_X1_readLine : MOK mi_X1_readLine 0 := ⟨⟨⟨gw_of (q1_in _ (List.mem_of_getElem? (i := 2) rfl)) rfl, gw_of (q2_in _ (List.mem_of_getElem? (i := 38) rfl)) rfl⟩, rfl, rfl, by decide +kernel, by decide +kernel, by decide +kernel⟩, gw_of (q2_in _ (List.mem_of_getElem? (i := 37) rfl)) rfl, gw_sel (List.mem_of_getElem? (i := 6) rfl) rfl⟩
theorem mok_X1_readTub : MOK mi_X1_readTub 1 := ⟨⟨⟨gw_of (q1_in _ (List.mem_of_getElem? (i := 2) rfl)) rfl, gw_of (q2_in _ (List.mem_of_getElem? (i := 95) rfl)) rfl⟩, rfl, rfl, by decide +kernel, by decide +kernel, by decide +kernel⟩, gw_of (q2_in _ (List.mem_of_getElem? (i := 94) rfl)) rfl, gw_sel (List.mem_of_getElem? (i := 8) rfl) rfl⟩
theorem mok_X1_readHeir : MOK mi_X1_readHeir 0 := ⟨⟨⟨gw_of (q1_in _ (List.mem_of_getElem? (i := 2) rfl)) rfl, gw_of (q2_in _ (List.mem_of_getElem? (i := 124) rfl)) rfl⟩, rfl, rfl, by decide +kernel, by decide +kernel, by decide +kernel⟩, gw_of (q2_in _ (List.mem_of_getElem? (i := 123) rfl)) rfl, gw_sel (List.mem_of_getElem? (i := 13) rfl) rfl⟩
theorem mok_X1_readCurrent : MOK mi_X1_readCurrent 0 := ⟨⟨⟨gw_of (q1_in _ (List.mem_of_getElem? (i := 2) rfl)) rfl, gw_of (q2_in _ (List.mem_of_getElem? (i := 139) rfl)) rfl⟩, rfl, rfl, by decide +kernel, by decide +kernel, by decide +kernel⟩, gw_of (q2_in _ (List.mem_of_getElem? (i := 138) rfl)) rfl, gw_sel (List.mem_of_getElem? (i := 16) rfl) rfl⟩
theorem mok_X1_readWind : MOK mi_X1_readWind 0 := ⟨⟨⟨gw_of (q1_in _ (List.mem_of_getElem? (i := 2) rfl)) rfl, gw_of (q2_in _ (List.mem_of_getElem? (i := 144) rfl)) rfl⟩, rfl, rfl, by decide +kernel, by decide +kernel, by decide +kernel⟩, gw_of (q2_in _ (List.mem_of_getElem? (i := 143) rfl)) rfl, gw_sel (List.mem_of_getElem? (i := 17) rfl) rfl⟩
theorem mok_X1_readPhase : MOK mi_X1_readPhase 0 := ⟨⟨⟨gw_of (q1_in _ (List.mem_of_getElem? (i := 2) rfl)) rfl, gw_of (q2_in _ (List.mem_of_getElem? (i := 149) rfl)) rfl⟩, rfl, rfl, by decide +kernel, by decide +kernel, by decide +kernel⟩, gw_of (q2_in _ (List.mem_of_getElem? (i := 148) rfl)) rfl, gw_sel (List.mem_of_getElem? (i := 18) rfl) rfl⟩
theorem mok_X1_readNumber : MOK mi_X1_readNumber 2 := ⟨⟨⟨gw_of (q1_in _ (List.mem_of_getElem? (i := 2) rfl)) rfl, gw_of (q2_in _ (List.mem_of_getElem? (i := 111) rfl)) rfl⟩, rfl, rfl, by decide +kernel, by decide +kernel, by decide +kernel⟩, gw_of (q2_in _ (List.mem_of_getElem? (i := 110) rfl)) rfl, gw_sel (List.mem_of_getElem? (i := 11) rfl) rfl⟩
theorem mok_X1_failToken : MOK mi_X1_failToken 0 := ⟨⟨⟨gw_of (q1_in _ (List.mem_of_getElem? (i := 2) rfl)) rfl, gw_of (q2_in _ (List.mem_of_getElem? (i := 115) rfl)) rfl⟩, rfl, rfl, by decide +kernel, by decide +kernel, by decide +kernel⟩, gw_of (q2_in _ (List.mem_of_getElem? (i := 114) rfl)) rfl, gw_sel (List.mem_of_getElem? (i := 12) rfl) rfl⟩
theorem mok_X1_fail : MOK mi_X1_fail 1 := ⟨⟨⟨gw_of (q1_in _ (List.mem_of_getElem? (i := 2) rfl)) rfl, gw_of (q2_in _ (List.mem_of_getElem? (i := 99) rfl)) rfl⟩, rfl, rfl, by decide +kernel, by decide +kernel, by decide +kernel⟩, gw_of (q2_in _ (List.mem_of_getElem? (i := 98) rfl)) rfl, gw_sel (List.mem_of_getElem? (i := 9) rfl) rfl⟩
theorem mok_X2_empty : MOK mi_X2_empty 0 := ⟨⟨⟨gw_of (q1_in _ (List.mem_of_getElem? (i := 4) rfl)) rfl, gw_of (q1_in _ (List.mem_of_getElem? (i := 68) rfl)) rfl⟩, rfl, rfl, by decide +kernel, by decide +kernel, by decide +kernel⟩, gw_of (q1_in _ (List.mem_of_getElem? (i := 67) rfl)) rfl, gw_sel (List.mem_of_getElem? (i := 0) rfl) rfl⟩
theorem mok_X2_become : MOK mi_X2_become 1 := ⟨⟨⟨gw_of (q1_in _ (List.mem_of_getElem? (i := 4) rfl)) rfl, gw_of (q2_in _ (List.mem_of_getElem? (i := 153) rfl)) rfl⟩, rfl, rfl, by decide +kernel, by decide +kernel, by decide +kernel⟩, gw_of (q2_in _ (List.mem_of_getElem? (i := 152) rfl)) rfl, gw_sel (List.mem_of_getElem? (i := 19) rfl) rfl⟩
theorem mok_X2_isTub : MOK mi_X2_isTub 1 := ⟨⟨⟨gw_of (q1_in _ (List.mem_of_getElem? (i := 4) rfl)) rfl, gw_of (q2_in _ (List.mem_of_getElem? (i := 185) rfl)) rfl⟩, rfl, rfl, by decide +kernel, by decide +kernel, by decide +kernel⟩, gw_of (q2_in _ (List.mem_of_getElem? (i := 184) rfl)) rfl, gw_sel (List.mem_of_getElem? (i := 23) rfl) rfl⟩
theorem mok_X2_isHeir : MOK mi_X2_isHeir 1 := ⟨⟨⟨gw_of (q1_in _ (List.mem_of_getElem? (i := 4) rfl)) rfl, gw_of (q2_in _ (List.mem_of_getElem? (i := 196) rfl)) rfl⟩, rfl, rfl, by decide +kernel, by decide +kernel, by decide +kernel⟩, gw_of (q2_in _ (List.mem_of_getElem? (i := 195) rfl)) rfl, gw_sel (List.mem_of_getElem? (i := 24) rfl) rfl⟩
theorem mok_X2_ofTub : MOK mi_X2_ofTub 2 := ⟨⟨⟨gw_of (q1_in _ (List.mem_of_getElem? (i := 4) rfl)) rfl, gw_of (q2_in _ (List.mem_of_getElem? (i := 173) rfl)) rfl⟩, rfl, rfl, by decide +kernel, by decide +kernel, by decide +kernel⟩, gw_of (q2_in _ (List.mem_of_getElem? (i := 172) rfl)) rfl, gw_sel (List.mem_of_getElem? (i := 21) rfl) rfl⟩
theorem mok_X2_putTub : MOK mi_X2_putTub 3 := ⟨⟨⟨gw_of (q1_in _ (List.mem_of_getElem? (i := 4) rfl)) rfl, gw_of (q2_in _ (List.mem_of_getElem? (i := 103) rfl)) rfl⟩, rfl, rfl, by decide +kernel, by decide +kernel, by decide +kernel⟩, gw_of (q2_in _ (List.mem_of_getElem? (i := 102) rfl)) rfl, gw_sel (List.mem_of_getElem? (i := 10) rfl) rfl⟩
theorem mok_X2_moveTub : MOK mi_X2_moveTub 3 := ⟨⟨⟨gw_of (q1_in _ (List.mem_of_getElem? (i := 4) rfl)) rfl, gw_of (q3_in _ (List.mem_of_getElem? (i := 8) rfl)) rfl⟩, rfl, rfl, by decide +kernel, by decide +kernel, by decide +kernel⟩, gw_of (q3_in _ (List.mem_of_getElem? (i := 7) rfl)) rfl, gw_sel (List.mem_of_getElem? (i := 26) rfl) rfl⟩
theorem mok_X2_ofHeir : MOK mi_X2_ofHeir 2 := ⟨⟨⟨gw_of (q1_in _ (List.mem_of_getElem? (i := 4) rfl)) rfl, gw_of (q2_in _ (List.mem_of_getElem? (i := 128) rfl)) rfl⟩, rfl, rfl, by decide +kernel, by decide +kernel, by decide +kernel⟩, gw_of (q2_in _ (List.mem_of_getElem? (i := 127) rfl)) rfl, gw_sel (List.mem_of_getElem? (i := 14) rfl) rfl⟩
theorem mok_X2_putHeir : MOK mi_X2_putHeir 3 := ⟨⟨⟨gw_of (q1_in _ (List.mem_of_getElem? (i := 4) rfl)) rfl, gw_of (q2_in _ (List.mem_of_getElem? (i := 134) rfl)) rfl⟩, rfl, rfl, by decide +kernel, by decide +kernel, by decide +kernel⟩, gw_of (q2_in _ (List.mem_of_getElem? (i := 133) rfl)) rfl, gw_sel (List.mem_of_getElem? (i := 15) rfl) rfl⟩
theorem mok_X2_estates : MOK mi_X2_estates 0 := ⟨⟨⟨gw_of (q1_in _ (List.mem_of_getElem? (i := 4) rfl)) rfl, gw_of (q2_in _ (List.mem_of_getElem? (i := 169) rfl)) rfl⟩, rfl, rfl, by decide +kernel, by decide +kernel, by decide +kernel⟩, gw_of (q2_in _ (List.mem_of_getElem? (i := 168) rfl)) rfl, gw_sel (List.mem_of_getElem? (i := 20) rfl) rfl⟩
theorem mok_X2_hooks : MOK mi_X2_hooks 0 := ⟨⟨⟨gw_of (q1_in _ (List.mem_of_getElem? (i := 4) rfl)) rfl, gw_of (q4_in _ (List.mem_of_getElem? (i := 21) rfl)) rfl⟩, rfl, rfl, by decide +kernel, by decide +kernel, by decide +kernel⟩, gw_of (q4_in _ (List.mem_of_getElem? (i := 20) rfl)) rfl, gw_sel (List.mem_of_getElem? (i := 51) rfl) rfl⟩
theorem mok_X2_moving : MOK mi_X2_moving 0 := ⟨⟨⟨gw_of (q1_in _ (List.mem_of_getElem? (i := 4) rfl)) rfl, gw_of (q4_in _ (List.mem_of_getElem? (i := 26) rfl)) rfl⟩, rfl, rfl, by decide +kernel, by decide +kernel, by decide +kernel⟩, gw_of (q4_in _ (List.mem_of_getElem? (i := 25) rfl)) rfl, gw_sel (List.mem_of_getElem? (i := 52) rfl) rfl⟩
theorem mok_X2_tideAt : MOK mi_X2_tideAt 1 := ⟨⟨⟨gw_of (q1_in _ (List.mem_of_getElem? (i := 4) rfl)) rfl, gw_of (q3_in _ (List.mem_of_getElem? (i := 37) rfl)) rfl⟩, rfl, rfl, by decide +kernel, by decide +kernel, by decide +kernel⟩, gw_of (q3_in _ (List.mem_of_getElem? (i := 36) rfl)) rfl, gw_sel (List.mem_of_getElem? (i := 30) rfl) rfl⟩
theorem mok_X3_renew : MOK mi_X3_renew 2 := ⟨⟨⟨gw_of (q1_in _ (List.mem_of_getElem? (i := 5) rfl)) rfl, gw_of (q3_in _ (List.mem_of_getElem? (i := 233) rfl)) rfl⟩, rfl, rfl, by decide +kernel, by decide +kernel, by decide +kernel⟩, gw_of (q3_in _ (List.mem_of_getElem? (i := 232) rfl)) rfl, gw_sel (List.mem_of_getElem? (i := 48) rfl) rfl⟩
theorem mok_X3_faultOf : MOK mi_X3_faultOf 3 := ⟨⟨⟨gw_of (q1_in _ (List.mem_of_getElem? (i := 5) rfl)) rfl, gw_of (q4_in _ (List.mem_of_getElem? (i := 1) rfl)) rfl⟩, rfl, rfl, by decide +kernel, by decide +kernel, by decide +kernel⟩, gw_of (q4_in _ (List.mem_of_getElem? (i := 0) rfl)) rfl, gw_sel (List.mem_of_getElem? (i := 49) rfl) rfl⟩
theorem mok_X3_put : MOK mi_X3_put 2 := ⟨⟨⟨gw_of (q1_in _ (List.mem_of_getElem? (i := 5) rfl)) rfl, gw_of (q4_in _ (List.mem_of_getElem? (i := 5) rfl)) rfl⟩, rfl, rfl, by decide +kernel, by decide +kernel, by decide +kernel⟩, gw_of (q4_in _ (List.mem_of_getElem? (i := 4) rfl)) rfl, gw_sel (List.mem_of_getElem? (i := 50) rfl) rfl⟩
theorem mok_X4_add : MOK mi_X4_add 1 := ⟨⟨⟨gw_of (q1_in _ (List.mem_of_getElem? (i := 3) rfl)) rfl, gw_of (q2_in _ (List.mem_of_getElem? (i := 6) rfl)) rfl⟩, rfl, rfl, by decide +kernel, by decide +kernel, by decide +kernel⟩, gw_of (q2_in _ (List.mem_of_getElem? (i := 5) rfl)) rfl, gw_sel (List.mem_of_getElem? (i := 1) rfl) rfl⟩
theorem mok_X4_rewind : MOK mi_X4_rewind 0 := ⟨⟨⟨gw_of (q1_in _ (List.mem_of_getElem? (i := 3) rfl)) rfl, gw_of (q2_in _ (List.mem_of_getElem? (i := 23) rfl)) rfl⟩, rfl, rfl, by decide +kernel, by decide +kernel, by decide +kernel⟩, gw_of (q2_in _ (List.mem_of_getElem? (i := 22) rfl)) rfl, gw_sel (List.mem_of_getElem? (i := 3) rfl) rfl⟩
theorem mok_X4_take : MOK mi_X4_take 0 := ⟨⟨⟨gw_of (q1_in _ (List.mem_of_getElem? (i := 3) rfl)) rfl, gw_of (q2_in _ (List.mem_of_getElem? (i := 27) rfl)) rfl⟩, rfl, rfl, by decide +kernel, by decide +kernel, by decide +kernel⟩, gw_of (q2_in _ (List.mem_of_getElem? (i := 26) rfl)) rfl, gw_sel (List.mem_of_getElem? (i := 4) rfl) rfl⟩
theorem mok_X4_weighNumber : MOK mi_X4_weighNumber 0 := ⟨⟨⟨gw_of (q1_in _ (List.mem_of_getElem? (i := 3) rfl)) rfl, gw_of (q2_in _ (List.mem_of_getElem? (i := 34) rfl)) rfl⟩, rfl, rfl, by decide +kernel, by decide +kernel, by decide +kernel⟩, gw_of (q2_in _ (List.mem_of_getElem? (i := 33) rfl)) rfl, gw_sel (List.mem_of_getElem? (i := 5) rfl) rfl⟩
theorem mok_X4_isWord : MOK mi_X4_isWord 1 := ⟨⟨⟨gw_of (q1_in _ (List.mem_of_getElem? (i := 3) rfl)) rfl, gw_of (q2_in _ (List.mem_of_getElem? (i := 43) rfl)) rfl⟩, rfl, rfl, by decide +kernel, by decide +kernel, by decide +kernel⟩, gw_of (q2_in _ (List.mem_of_getElem? (i := 42) rfl)) rfl, gw_sel (List.mem_of_getElem? (i := 7) rfl) rfl⟩
theorem mos_X4_sortOf : MOS mi_X4_sortOf 1 := ⟨⟨⟨gw_of (q1_in _ (List.mem_of_getElem? (i := 3) rfl)) rfl, gw_of (q2_in _ (List.mem_of_getElem? (i := 30) rfl)) rfl⟩, rfl, rfl, by decide +kernel, by decide +kernel, by decide +kernel⟩, gw_of (q2_in _ (List.mem_of_getElem? (i := 29) rfl)) rfl⟩
theorem mok_X5_feed : MOK mi_X5_feed 1 := ⟨⟨⟨gw_of (q1_in _ (List.mem_of_getElem? (i := 1) rfl)) rfl, gw_of (q1_in _ (List.mem_of_getElem? (i := 239) rfl)) rfl⟩, rfl, rfl, by decide +kernel, by decide +kernel, by decide +kernel⟩, gw_of (q1_in _ (List.mem_of_getElem? (i := 237) rfl)) rfl, gw_of (q1_in _ (List.mem_of_getElem? (i := 238) rfl)) rfl⟩
theorem mok_X5_end : MOK mi_X5_end 1 := ⟨⟨⟨gw_of (q1_in _ (List.mem_of_getElem? (i := 1) rfl)) rfl, gw_of (q2_in _ (List.mem_of_getElem? (i := 10) rfl)) rfl⟩, rfl, rfl, by decide +kernel, by decide +kernel, by decide +kernel⟩, gw_of (q2_in _ (List.mem_of_getElem? (i := 8) rfl)) rfl, gw_of (q2_in _ (List.mem_of_getElem? (i := 9) rfl)) rfl⟩
theorem mok_X5_text : MOK mi_X5_text 0 := ⟨⟨⟨gw_of (q1_in _ (List.mem_of_getElem? (i := 1) rfl)) rfl, gw_of (q2_in _ (List.mem_of_getElem? (i := 14) rfl)) rfl⟩, rfl, rfl, by decide +kernel, by decide +kernel, by decide +kernel⟩, gw_of (q2_in _ (List.mem_of_getElem? (i := 12) rfl)) rfl, gw_of (q2_in _ (List.mem_of_getElem? (i := 13) rfl)) rfl⟩
theorem mok_X5_fault : MOK mi_X5_fault 0 := ⟨⟨⟨gw_of (q1_in _ (List.mem_of_getElem? (i := 1) rfl)) rfl, gw_of (q2_in _ (List.mem_of_getElem? (i := 161) rfl)) rfl⟩, rfl, rfl, by decide +kernel, by decide +kernel, by decide +kernel⟩, gw_of (q2_in _ (List.mem_of_getElem? (i := 159) rfl)) rfl, gw_of (q2_in _ (List.mem_of_getElem? (i := 160) rfl)) rfl⟩
theorem mok_X5_rule : MOK mi_X5_rule 1 := ⟨⟨⟨gw_of (q1_in _ (List.mem_of_getElem? (i := 1) rfl)) rfl, gw_of (q2_in _ (List.mem_of_getElem? (i := 165) rfl)) rfl⟩, rfl, rfl, by decide +kernel, by decide +kernel, by decide +kernel⟩, gw_of (q2_in _ (List.mem_of_getElem? (i := 163) rfl)) rfl, gw_of (q2_in _ (List.mem_of_getElem? (i := 164) rfl)) rfl⟩
theorem mok_X5_tub : MOK mi_X5_tub 2 := ⟨⟨⟨gw_of (q1_in _ (List.mem_of_getElem? (i := 1) rfl)) rfl, gw_of (q2_in _ (List.mem_of_getElem? (i := 181) rfl)) rfl⟩, rfl, rfl, by decide +kernel, by decide +kernel, by decide +kernel⟩, gw_of (q2_in _ (List.mem_of_getElem? (i := 179) rfl)) rfl, gw_of (q2_in _ (List.mem_of_getElem? (i := 180) rfl)) rfl⟩
theorem mok_X5_heir : MOK mi_X5_heir 2 := ⟨⟨⟨gw_of (q1_in _ (List.mem_of_getElem? (i := 1) rfl)) rfl, gw_of (q2_in _ (List.mem_of_getElem? (i := 192) rfl)) rfl⟩, rfl, rfl, by decide +kernel, by decide +kernel, by decide +kernel⟩, gw_of (q2_in _ (List.mem_of_getElem? (i := 190) rfl)) rfl, gw_of (q2_in _ (List.mem_of_getElem? (i := 191) rfl)) rfl⟩
theorem mok_X5_current : MOK mi_X5_current 1 := ⟨⟨⟨gw_of (q1_in _ (List.mem_of_getElem? (i := 1) rfl)) rfl, gw_of (q2_in _ (List.mem_of_getElem? (i := 201) rfl)) rfl⟩, rfl, rfl, by decide +kernel, by decide +kernel, by decide +kernel⟩, gw_of (q2_in _ (List.mem_of_getElem? (i := 199) rfl)) rfl, gw_of (q2_in _ (List.mem_of_getElem? (i := 200) rfl)) rfl⟩
theorem mok_X5_wind : MOK mi_X5_wind 1 := ⟨⟨⟨gw_of (q1_in _ (List.mem_of_getElem? (i := 1) rfl)) rfl, gw_of (q2_in _ (List.mem_of_getElem? (i := 205) rfl)) rfl⟩, rfl, rfl, by decide +kernel, by decide +kernel, by decide +kernel⟩, gw_of (q2_in _ (List.mem_of_getElem? (i := 203) rfl)) rfl, gw_of (q2_in _ (List.mem_of_getElem? (i := 204) rfl)) rfl⟩
theorem mok_X5_alter : MOK mi_X5_alter 3 := ⟨⟨⟨gw_of (q1_in _ (List.mem_of_getElem? (i := 1) rfl)) rfl, gw_of (q2_in _ (List.mem_of_getElem? (i := 209) rfl)) rfl⟩, rfl, rfl, by decide +kernel, by decide +kernel, by decide +kernel⟩, gw_of (q2_in _ (List.mem_of_getElem? (i := 207) rfl)) rfl, gw_of (q2_in _ (List.mem_of_getElem? (i := 208) rfl)) rfl⟩
theorem mok_X5_stand : MOK mi_X5_stand 3 := ⟨⟨⟨gw_of (q1_in _ (List.mem_of_getElem? (i := 1) rfl)) rfl, gw_of (q2_in _ (List.mem_of_getElem? (i := 219) rfl)) rfl⟩, rfl, rfl, by decide +kernel, by decide +kernel, by decide +kernel⟩, gw_of (q2_in _ (List.mem_of_getElem? (i := 217) rfl)) rfl, gw_of (q2_in _ (List.mem_of_getElem? (i := 218) rfl)) rfl⟩
theorem mok_X5_set : MOK mi_X5_set 2 := ⟨⟨⟨gw_of (q1_in _ (List.mem_of_getElem? (i := 1) rfl)) rfl, gw_of (q2_in _ (List.mem_of_getElem? (i := 228) rfl)) rfl⟩, rfl, rfl, by decide +kernel, by decide +kernel, by decide +kernel⟩, gw_of (q2_in _ (List.mem_of_getElem? (i := 226) rfl)) rfl, gw_of (q2_in _ (List.mem_of_getElem? (i := 227) rfl)) rfl⟩
theorem mok_X5_blow : MOK mi_X5_blow 2 := ⟨⟨⟨gw_of (q1_in _ (List.mem_of_getElem? (i := 1) rfl)) rfl, gw_of (q2_in _ (List.mem_of_getElem? (i := 232) rfl)) rfl⟩, rfl, rfl, by decide +kernel, by decide +kernel, by decide +kernel⟩, gw_of (q2_in _ (List.mem_of_getElem? (i := 230) rfl)) rfl, gw_of (q2_in _ (List.mem_of_getElem? (i := 231) rfl)) rfl⟩
theorem mok_X5_phase : MOK mi_X5_phase 1 := ⟨⟨⟨gw_of (q1_in _ (List.mem_of_getElem? (i := 1) rfl)) rfl, gw_of (q2_in _ (List.mem_of_getElem? (i := 236) rfl)) rfl⟩, rfl, rfl, by decide +kernel, by decide +kernel, by decide +kernel⟩, gw_of (q2_in _ (List.mem_of_getElem? (i := 234) rfl)) rfl, gw_of (q2_in _ (List.mem_of_getElem? (i := 235) rfl)) rfl⟩
theorem mok_X5_cast : MOK mi_X5_cast 3 := ⟨⟨⟨gw_of (q1_in _ (List.mem_of_getElem? (i := 1) rfl)) rfl, gw_of (q3_in _ (List.mem_of_getElem? (i := 0) rfl)) rfl⟩, rfl, rfl, by decide +kernel, by decide +kernel, by decide +kernel⟩, gw_of (q2_in _ (List.mem_of_getElem? (i := 238) rfl)) rfl, gw_of (q2_in _ (List.mem_of_getElem? (i := 239) rfl)) rfl⟩
theorem mok_X5_sink : MOK mi_X5_sink 1 := ⟨⟨⟨gw_of (q1_in _ (List.mem_of_getElem? (i := 1) rfl)) rfl, gw_of (q3_in _ (List.mem_of_getElem? (i := 13) rfl)) rfl⟩, rfl, rfl, by decide +kernel, by decide +kernel, by decide +kernel⟩, gw_of (q3_in _ (List.mem_of_getElem? (i := 11) rfl)) rfl, gw_of (q3_in _ (List.mem_of_getElem? (i := 12) rfl)) rfl⟩
theorem mok_X5_fate : MOK mi_X5_fate 2 := ⟨⟨⟨gw_of (q1_in _ (List.mem_of_getElem? (i := 1) rfl)) rfl, gw_of (q3_in _ (List.mem_of_getElem? (i := 17) rfl)) rfl⟩, rfl, rfl, by decide +kernel, by decide +kernel, by decide +kernel⟩, gw_of (q3_in _ (List.mem_of_getElem? (i := 15) rfl)) rfl, gw_of (q3_in _ (List.mem_of_getElem? (i := 16) rfl)) rfl⟩
theorem mok_X5_where : MOK mi_X5_where 3 := ⟨⟨⟨gw_of (q1_in _ (List.mem_of_getElem? (i := 1) rfl)) rfl, gw_of (q3_in _ (List.mem_of_getElem? (i := 62) rfl)) rfl⟩, rfl, rfl, by decide +kernel, by decide +kernel, by decide +kernel⟩, gw_of (q3_in _ (List.mem_of_getElem? (i := 60) rfl)) rfl, gw_of (q3_in _ (List.mem_of_getElem? (i := 61) rfl)) rfl⟩
theorem mok_X5_has : MOK mi_X5_has 2 := ⟨⟨⟨gw_of (q1_in _ (List.mem_of_getElem? (i := 1) rfl)) rfl, gw_of (q3_in _ (List.mem_of_getElem? (i := 70) rfl)) rfl⟩, rfl, rfl, by decide +kernel, by decide +kernel, by decide +kernel⟩, gw_of (q3_in _ (List.mem_of_getElem? (i := 68) rfl)) rfl, gw_of (q3_in _ (List.mem_of_getElem? (i := 69) rfl)) rfl⟩
theorem mok_X5_all : MOK mi_X5_all 1 := ⟨⟨⟨gw_of (q1_in _ (List.mem_of_getElem? (i := 1) rfl)) rfl, gw_of (q3_in _ (List.mem_of_getElem? (i := 87) rfl)) rfl⟩, rfl, rfl, by decide +kernel, by decide +kernel, by decide +kernel⟩, gw_of (q3_in _ (List.mem_of_getElem? (i := 85) rfl)) rfl, gw_of (q3_in _ (List.mem_of_getElem? (i := 86) rfl)) rfl⟩
theorem mok_X5_when : MOK mi_X5_when 2 := ⟨⟨⟨gw_of (q1_in _ (List.mem_of_getElem? (i := 1) rfl)) rfl, gw_of (q3_in _ (List.mem_of_getElem? (i := 100) rfl)) rfl⟩, rfl, rfl, by decide +kernel, by decide +kernel, by decide +kernel⟩, gw_of (q3_in _ (List.mem_of_getElem? (i := 98) rfl)) rfl, gw_of (q3_in _ (List.mem_of_getElem? (i := 99) rfl)) rfl⟩
theorem mok_X5_aim : MOK mi_X5_aim 2 := ⟨⟨⟨gw_of (q1_in _ (List.mem_of_getElem? (i := 1) rfl)) rfl, gw_of (q3_in _ (List.mem_of_getElem? (i := 108) rfl)) rfl⟩, rfl, rfl, by decide +kernel, by decide +kernel, by decide +kernel⟩, gw_of (q3_in _ (List.mem_of_getElem? (i := 106) rfl)) rfl, gw_of (q3_in _ (List.mem_of_getElem? (i := 107) rfl)) rfl⟩
theorem mok_X5_ways : MOK mi_X5_ways 2 := ⟨⟨⟨gw_of (q1_in _ (List.mem_of_getElem? (i := 1) rfl)) rfl, gw_of (q3_in _ (List.mem_of_getElem? (i := 112) rfl)) rfl⟩, rfl, rfl, by decide +kernel, by decide +kernel, by decide +kernel⟩, gw_of (q3_in _ (List.mem_of_getElem? (i := 110) rfl)) rfl, gw_of (q3_in _ (List.mem_of_getElem? (i := 111) rfl)) rfl⟩
theorem mok_X5_place : MOK mi_X5_place 2 := ⟨⟨⟨gw_of (q1_in _ (List.mem_of_getElem? (i := 1) rfl)) rfl, gw_of (q3_in _ (List.mem_of_getElem? (i := 116) rfl)) rfl⟩, rfl, rfl, by decide +kernel, by decide +kernel, by decide +kernel⟩, gw_of (q3_in _ (List.mem_of_getElem? (i := 114) rfl)) rfl, gw_of (q3_in _ (List.mem_of_getElem? (i := 115) rfl)) rfl⟩
theorem mok_X5_hook : MOK mi_X5_hook 2 := ⟨⟨⟨gw_of (q1_in _ (List.mem_of_getElem? (i := 1) rfl)) rfl, gw_of (q3_in _ (List.mem_of_getElem? (i := 128) rfl)) rfl⟩, rfl, rfl, by decide +kernel, by decide +kernel, by decide +kernel⟩, gw_of (q3_in _ (List.mem_of_getElem? (i := 126) rfl)) rfl, gw_of (q3_in _ (List.mem_of_getElem? (i := 127) rfl)) rfl⟩
theorem mok_X5_fire : MOK mi_X5_fire 2 := ⟨⟨⟨gw_of (q1_in _ (List.mem_of_getElem? (i := 1) rfl)) rfl, gw_of (q3_in _ (List.mem_of_getElem? (i := 132) rfl)) rfl⟩, rfl, rfl, by decide +kernel, by decide +kernel, by decide +kernel⟩, gw_of (q3_in _ (List.mem_of_getElem? (i := 130) rfl)) rfl, gw_of (q3_in _ (List.mem_of_getElem? (i := 131) rfl)) rfl⟩
theorem mok_X5_moon : MOK mi_X5_moon 1 := ⟨⟨⟨gw_of (q1_in _ (List.mem_of_getElem? (i := 1) rfl)) rfl, gw_of (q3_in _ (List.mem_of_getElem? (i := 136) rfl)) rfl⟩, rfl, rfl, by decide +kernel, by decide +kernel, by decide +kernel⟩, gw_of (q3_in _ (List.mem_of_getElem? (i := 134) rfl)) rfl, gw_of (q3_in _ (List.mem_of_getElem? (i := 135) rfl)) rfl⟩
theorem mok_X5_rest : MOK mi_X5_rest 3 := ⟨⟨⟨gw_of (q1_in _ (List.mem_of_getElem? (i := 1) rfl)) rfl, gw_of (q3_in _ (List.mem_of_getElem? (i := 140) rfl)) rfl⟩, rfl, rfl, by decide +kernel, by decide +kernel, by decide +kernel⟩, gw_of (q3_in _ (List.mem_of_getElem? (i := 138) rfl)) rfl, gw_of (q3_in _ (List.mem_of_getElem? (i := 139) rfl)) rfl⟩
theorem mok_X5_luck : MOK mi_X5_luck 4 := ⟨⟨⟨gw_of (q1_in _ (List.mem_of_getElem? (i := 1) rfl)) rfl, gw_of (q3_in _ (List.mem_of_getElem? (i := 152) rfl)) rfl⟩, rfl, rfl, by decide +kernel, by decide +kernel, by decide +kernel⟩, gw_of (q3_in _ (List.mem_of_getElem? (i := 150) rfl)) rfl, gw_of (q3_in _ (List.mem_of_getElem? (i := 151) rfl)) rfl⟩
theorem mok_X5_mean : MOK mi_X5_mean 3 := ⟨⟨⟨gw_of (q1_in _ (List.mem_of_getElem? (i := 1) rfl)) rfl, gw_of (q3_in _ (List.mem_of_getElem? (i := 172) rfl)) rfl⟩, rfl, rfl, by decide +kernel, by decide +kernel, by decide +kernel⟩, gw_of (q3_in _ (List.mem_of_getElem? (i := 170) rfl)) rfl, gw_of (q3_in _ (List.mem_of_getElem? (i := 171) rfl)) rfl⟩
theorem mok_X5_see : MOK mi_X5_see 3 := ⟨⟨⟨gw_of (q1_in _ (List.mem_of_getElem? (i := 1) rfl)) rfl, gw_of (q3_in _ (List.mem_of_getElem? (i := 176) rfl)) rfl⟩, rfl, rfl, by decide +kernel, by decide +kernel, by decide +kernel⟩, gw_of (q3_in _ (List.mem_of_getElem? (i := 174) rfl)) rfl, gw_of (q3_in _ (List.mem_of_getElem? (i := 175) rfl)) rfl⟩
theorem mok_X5_forget : MOK mi_X5_forget 1 := ⟨⟨⟨gw_of (q1_in _ (List.mem_of_getElem? (i := 1) rfl)) rfl, gw_of (q3_in _ (List.mem_of_getElem? (i := 180) rfl)) rfl⟩, rfl, rfl, by decide +kernel, by decide +kernel, by decide +kernel⟩, gw_of (q3_in _ (List.mem_of_getElem? (i := 178) rfl)) rfl, gw_of (q3_in _ (List.mem_of_getElem? (i := 179) rfl)) rfl⟩
theorem mok_X5_kinds : MOK mi_X5_kinds 1 := ⟨⟨⟨gw_of (q1_in _ (List.mem_of_getElem? (i := 1) rfl)) rfl, gw_of (q3_in _ (List.mem_of_getElem? (i := 184) rfl)) rfl⟩, rfl, rfl, by decide +kernel, by decide +kernel, by decide +kernel⟩, gw_of (q3_in _ (List.mem_of_getElem? (i := 182) rfl)) rfl, gw_of (q3_in _ (List.mem_of_getElem? (i := 183) rfl)) rfl⟩
theorem mok_X5_sets : MOK mi_X5_sets 1 := ⟨⟨⟨gw_of (q1_in _ (List.mem_of_getElem? (i := 1) rfl)) rfl, gw_of (q3_in _ (List.mem_of_getElem? (i := 197) rfl)) rfl⟩, rfl, rfl, by decide +kernel, by decide +kernel, by decide +kernel⟩, gw_of (q3_in _ (List.mem_of_getElem? (i := 195) rfl)) rfl, gw_of (q3_in _ (List.mem_of_getElem? (i := 196) rfl)) rfl⟩
theorem mok_X5_look : MOK mi_X5_look 2 := ⟨⟨⟨gw_of (q1_in _ (List.mem_of_getElem? (i := 1) rfl)) rfl, gw_of (q3_in _ (List.mem_of_getElem? (i := 201) rfl)) rfl⟩, rfl, rfl, by decide +kernel, by decide +kernel, by decide +kernel⟩, gw_of (q3_in _ (List.mem_of_getElem? (i := 199) rfl)) rfl, gw_of (q3_in _ (List.mem_of_getElem? (i := 200) rfl)) rfl⟩
theorem mok_X5_drift : MOK mi_X5_drift 3 := ⟨⟨⟨gw_of (q1_in _ (List.mem_of_getElem? (i := 1) rfl)) rfl, gw_of (q3_in _ (List.mem_of_getElem? (i := 216) rfl)) rfl⟩, rfl, rfl, by decide +kernel, by decide +kernel, by decide +kernel⟩, gw_of (q3_in _ (List.mem_of_getElem? (i := 214) rfl)) rfl, gw_of (q3_in _ (List.mem_of_getElem? (i := 215) rfl)) rfl⟩
theorem mok_X5_keep : MOK mi_X5_keep 1 := ⟨⟨⟨gw_of (q1_in _ (List.mem_of_getElem? (i := 1) rfl)) rfl, gw_of (q3_in _ (List.mem_of_getElem? (i := 221) rfl)) rfl⟩, rfl, rfl, by decide +kernel, by decide +kernel, by decide +kernel⟩, gw_of (q3_in _ (List.mem_of_getElem? (i := 219) rfl)) rfl, gw_of (q3_in _ (List.mem_of_getElem? (i := 220) rfl)) rfl⟩
theorem mok_X5_back : MOK mi_X5_back 1 := ⟨⟨⟨gw_of (q1_in _ (List.mem_of_getElem? (i := 1) rfl)) rfl, gw_of (q3_in _ (List.mem_of_getElem? (i := 225) rfl)) rfl⟩, rfl, rfl, by decide +kernel, by decide +kernel, by decide +kernel⟩, gw_of (q3_in _ (List.mem_of_getElem? (i := 223) rfl)) rfl, gw_of (q3_in _ (List.mem_of_getElem? (i := 224) rfl)) rfl⟩
theorem mok_X5_sheet : MOK mi_X5_sheet 3 := ⟨⟨⟨gw_of (q1_in _ (List.mem_of_getElem? (i := 1) rfl)) rfl, gw_of (q3_in _ (List.mem_of_getElem? (i := 229) rfl)) rfl⟩, rfl, rfl, by decide +kernel, by decide +kernel, by decide +kernel⟩, gw_of (q3_in _ (List.mem_of_getElem? (i := 227) rfl)) rfl, gw_of (q3_in _ (List.mem_of_getElem? (i := 228) rfl)) rfl⟩
theorem mok_X5_lay : MOK mi_X5_lay 3 := ⟨⟨⟨gw_of (q1_in _ (List.mem_of_getElem? (i := 1) rfl)) rfl, gw_of (q3_in _ (List.mem_of_getElem? (i := 237) rfl)) rfl⟩, rfl, rfl, by decide +kernel, by decide +kernel, by decide +kernel⟩, gw_of (q3_in _ (List.mem_of_getElem? (i := 235) rfl)) rfl, gw_of (q3_in _ (List.mem_of_getElem? (i := 236) rfl)) rfl⟩
theorem mok_X5_read : MOK mi_X5_read 4 := ⟨⟨⟨gw_of (q1_in _ (List.mem_of_getElem? (i := 1) rfl)) rfl, gw_of (q4_in _ (List.mem_of_getElem? (i := 9) rfl)) rfl⟩, rfl, rfl, by decide +kernel, by decide +kernel, by decide +kernel⟩, gw_of (q4_in _ (List.mem_of_getElem? (i := 7) rfl)) rfl, gw_of (q4_in _ (List.mem_of_getElem? (i := 8) rfl)) rfl⟩
theorem mok_X5_torn : MOK mi_X5_torn 0 := ⟨⟨⟨gw_of (q1_in _ (List.mem_of_getElem? (i := 1) rfl)) rfl, gw_of (q4_in _ (List.mem_of_getElem? (i := 13) rfl)) rfl⟩, rfl, rfl, by decide +kernel, by decide +kernel, by decide +kernel⟩, gw_of (q4_in _ (List.mem_of_getElem? (i := 11) rfl)) rfl, gw_of (q4_in _ (List.mem_of_getElem? (i := 12) rfl)) rfl⟩
theorem mok_X5_count : MOK mi_X5_count 1 := ⟨⟨⟨gw_of (q1_in _ (List.mem_of_getElem? (i := 1) rfl)) rfl, gw_of (q4_in _ (List.mem_of_getElem? (i := 17) rfl)) rfl⟩, rfl, rfl, by decide +kernel, by decide +kernel, by decide +kernel⟩, gw_of (q4_in _ (List.mem_of_getElem? (i := 15) rfl)) rfl, gw_of (q4_in _ (List.mem_of_getElem? (i := 16) rfl)) rfl⟩
theorem mos_X5_within : MOS mi_X5_within 3 := ⟨⟨⟨gw_of (q1_in _ (List.mem_of_getElem? (i := 1) rfl)) rfl, gw_of (q2_in _ (List.mem_of_getElem? (i := 2) rfl)) rfl⟩, rfl, rfl, by decide +kernel, by decide +kernel, by decide +kernel⟩, gw_of (q2_in _ (List.mem_of_getElem? (i := 1) rfl)) rfl⟩
theorem mos_X5_fitsTub : MOS mi_X5_fitsTub 2 := ⟨⟨⟨gw_of (q1_in _ (List.mem_of_getElem? (i := 1) rfl)) rfl, gw_of (q2_in _ (List.mem_of_getElem? (i := 212) rfl)) rfl⟩, rfl, rfl, by decide +kernel, by decide +kernel, by decide +kernel⟩, gw_of (q2_in _ (List.mem_of_getElem? (i := 211) rfl)) rfl⟩
theorem mos_X5_fitsHeir : MOS mi_X5_fitsHeir 2 := ⟨⟨⟨gw_of (q1_in _ (List.mem_of_getElem? (i := 1) rfl)) rfl, gw_of (q2_in _ (List.mem_of_getElem? (i := 222) rfl)) rfl⟩, rfl, rfl, by decide +kernel, by decide +kernel, by decide +kernel⟩, gw_of (q2_in _ (List.mem_of_getElem? (i := 221) rfl)) rfl⟩
theorem mok_X5_putIn : MOK mi_X5_putIn 3 := ⟨⟨⟨gw_of (q1_in _ (List.mem_of_getElem? (i := 1) rfl)) rfl, gw_of (q3_in _ (List.mem_of_getElem? (i := 4) rfl)) rfl⟩, rfl, rfl, by decide +kernel, by decide +kernel, by decide +kernel⟩, gw_of (q3_in _ (List.mem_of_getElem? (i := 3) rfl)) rfl, gw_sel (List.mem_of_getElem? (i := 25) rfl) rfl⟩
theorem mok_X5_listWindyHours : MOK mi_X5_listWindyHours 0 := ⟨⟨⟨gw_of (q1_in _ (List.mem_of_getElem? (i := 1) rfl)) rfl, gw_of (q2_in _ (List.mem_of_getElem? (i := 177) rfl)) rfl⟩, rfl, rfl, by decide +kernel, by decide +kernel, by decide +kernel⟩, gw_of (q2_in _ (List.mem_of_getElem? (i := 176) rfl)) rfl, gw_sel (List.mem_of_getElem? (i := 22) rfl) rfl⟩
theorem mok_X5_dropWinds : MOK mi_X5_dropWinds 3 := ⟨⟨⟨gw_of (q1_in _ (List.mem_of_getElem? (i := 1) rfl)) rfl, gw_of (q3_in _ (List.mem_of_getElem? (i := 158) rfl)) rfl⟩, rfl, rfl, by decide +kernel, by decide +kernel, by decide +kernel⟩, gw_of (q3_in _ (List.mem_of_getElem? (i := 157) rfl)) rfl, gw_sel (List.mem_of_getElem? (i := 44) rfl) rfl⟩
theorem mos_X5_allOdds : MOS mi_X5_allOdds 1 := ⟨⟨⟨gw_of (q1_in _ (List.mem_of_getElem? (i := 1) rfl)) rfl, gw_of (q3_in _ (List.mem_of_getElem? (i := 161) rfl)) rfl⟩, rfl, rfl, by decide +kernel, by decide +kernel, by decide +kernel⟩, gw_of (q3_in _ (List.mem_of_getElem? (i := 160) rfl)) rfl⟩
theorem mos_X5_partOfFraction : MOS mi_X5_partOfFraction 3 := ⟨⟨⟨gw_of (q1_in _ (List.mem_of_getElem? (i := 1) rfl)) rfl, gw_of (q3_in _ (List.mem_of_getElem? (i := 165) rfl)) rfl⟩, rfl, rfl, by decide +kernel, by decide +kernel, by decide +kernel⟩, gw_of (q3_in _ (List.mem_of_getElem? (i := 164) rfl)) rfl⟩
theorem mos_X5_commonDivisor : MOS mi_X5_commonDivisor 2 := ⟨⟨⟨gw_of (q1_in _ (List.mem_of_getElem? (i := 1) rfl)) rfl, gw_of (q3_in _ (List.mem_of_getElem? (i := 168) rfl)) rfl⟩, rfl, rfl, by decide +kernel, by decide +kernel, by decide +kernel⟩, gw_of (q3_in _ (List.mem_of_getElem? (i := 167) rfl)) rfl⟩
theorem mok_X5_weighPairs : MOK mi_X5_weighPairs 2 := ⟨⟨⟨gw_of (q1_in _ (List.mem_of_getElem? (i := 1) rfl)) rfl, gw_of (q3_in _ (List.mem_of_getElem? (i := 144) rfl)) rfl⟩, rfl, rfl, by decide +kernel, by decide +kernel, by decide +kernel⟩, gw_of (q3_in _ (List.mem_of_getElem? (i := 143) rfl)) rfl, gw_sel (List.mem_of_getElem? (i := 42) rfl) rfl⟩
theorem mok_X5_neitherWouldGo : MOK mi_X5_neitherWouldGo 2 := ⟨⟨⟨gw_of (q1_in _ (List.mem_of_getElem? (i := 1) rfl)) rfl, gw_of (q3_in _ (List.mem_of_getElem? (i := 148) rfl)) rfl⟩, rfl, rfl, by decide +kernel, by decide +kernel, by decide +kernel⟩, gw_of (q3_in _ (List.mem_of_getElem? (i := 147) rfl)) rfl, gw_sel (List.mem_of_getElem? (i := 43) rfl) rfl⟩
theorem mok_X5_isAsSeen : MOK mi_X5_isAsSeen 1 := ⟨⟨⟨gw_of (q1_in _ (List.mem_of_getElem? (i := 1) rfl)) rfl, gw_of (q3_in _ (List.mem_of_getElem? (i := 192) rfl)) rfl⟩, rfl, rfl, by decide +kernel, by decide +kernel, by decide +kernel⟩, gw_of (q3_in _ (List.mem_of_getElem? (i := 191) rfl)) rfl, gw_sel (List.mem_of_getElem? (i := 46) rfl) rfl⟩
theorem mok_X5_kindsAsSeen : MOK mi_X5_kindsAsSeen 1 := ⟨⟨⟨gw_of (q1_in _ (List.mem_of_getElem? (i := 1) rfl)) rfl, gw_of (q3_in _ (List.mem_of_getElem? (i := 188) rfl)) rfl⟩, rfl, rfl, by decide +kernel, by decide +kernel, by decide +kernel⟩, gw_of (q3_in _ (List.mem_of_getElem? (i := 187) rfl)) rfl, gw_sel (List.mem_of_getElem? (i := 45) rfl) rfl⟩
theorem mok_X5_leftAtWorst : MOK mi_X5_leftAtWorst 3 := ⟨⟨⟨gw_of (q1_in _ (List.mem_of_getElem? (i := 1) rfl)) rfl, gw_of (q3_in _ (List.mem_of_getElem? (i := 211) rfl)) rfl⟩, rfl, rfl, by decide +kernel, by decide +kernel, by decide +kernel⟩, gw_of (q3_in _ (List.mem_of_getElem? (i := 210) rfl)) rfl, gw_sel (List.mem_of_getElem? (i := 47) rfl) rfl⟩
theorem mos_X6_in : MOS mi_X6_in 3 := ⟨⟨⟨gw_of (q1_in _ (List.mem_of_getElem? (i := 7) rfl)) rfl, gw_of (q4_in _ (List.mem_of_getElem? (i := 149) rfl)) rfl⟩, rfl, rfl, by decide +kernel, by decide +kernel, by decide +kernel⟩, gw_of (q4_in _ (List.mem_of_getElem? (i := 148) rfl)) rfl⟩
theorem mok_X6_feed : MOK mi_X6_feed 1 := ⟨⟨⟨gw_of (q1_in _ (List.mem_of_getElem? (i := 7) rfl)) rfl, gw_of (q4_in _ (List.mem_of_getElem? (i := 145) rfl)) rfl⟩, rfl, rfl, by decide +kernel, by decide +kernel, by decide +kernel⟩, gw_of (q4_in _ (List.mem_of_getElem? (i := 143) rfl)) rfl, gw_of (q4_in _ (List.mem_of_getElem? (i := 144) rfl)) rfl⟩
theorem mok_X6_end : MOK mi_X6_end 1 := ⟨⟨⟨gw_of (q1_in _ (List.mem_of_getElem? (i := 7) rfl)) rfl, gw_of (q4_in _ (List.mem_of_getElem? (i := 153) rfl)) rfl⟩, rfl, rfl, by decide +kernel, by decide +kernel, by decide +kernel⟩, gw_of (q4_in _ (List.mem_of_getElem? (i := 151) rfl)) rfl, gw_of (q4_in _ (List.mem_of_getElem? (i := 152) rfl)) rfl⟩
theorem mok_X6_byteAt : MOK mi_X6_byteAt 1 := ⟨⟨⟨gw_of (q1_in _ (List.mem_of_getElem? (i := 7) rfl)) rfl, gw_of (q4_in _ (List.mem_of_getElem? (i := 165) rfl)) rfl⟩, rfl, rfl, by decide +kernel, by decide +kernel, by decide +kernel⟩, gw_of (q4_in _ (List.mem_of_getElem? (i := 164) rfl)) rfl, gw_sel (List.mem_of_getElem? (i := 54) rfl) rfl⟩
theorem mok_X6_fails : MOK mi_X6_fails 1 := ⟨⟨⟨gw_of (q1_in _ (List.mem_of_getElem? (i := 7) rfl)) rfl, gw_of (q4_in _ (List.mem_of_getElem? (i := 173) rfl)) rfl⟩, rfl, rfl, by decide +kernel, by decide +kernel, by decide +kernel⟩, gw_of (q4_in _ (List.mem_of_getElem? (i := 172) rfl)) rfl, gw_sel (List.mem_of_getElem? (i := 55) rfl) rfl⟩
theorem mok_X6_nameHere : MOK mi_X6_nameHere 0 := ⟨⟨⟨gw_of (q1_in _ (List.mem_of_getElem? (i := 7) rfl)) rfl, gw_of (q4_in _ (List.mem_of_getElem? (i := 181) rfl)) rfl⟩, rfl, rfl, by decide +kernel, by decide +kernel, by decide +kernel⟩, gw_of (q4_in _ (List.mem_of_getElem? (i := 180) rfl)) rfl, gw_sel (List.mem_of_getElem? (i := 57) rfl) rfl⟩
theorem mok_X6_step : MOK mi_X6_step 0 := ⟨⟨⟨gw_of (q1_in _ (List.mem_of_getElem? (i := 7) rfl)) rfl, gw_of (q4_in _ (List.mem_of_getElem? (i := 161) rfl)) rfl⟩, rfl, rfl, by decide +kernel, by decide +kernel, by decide +kernel⟩, gw_of (q4_in _ (List.mem_of_getElem? (i := 160) rfl)) rfl, gw_sel (List.mem_of_getElem? (i := 53) rfl) rfl⟩
theorem mok_X6_other : MOK mi_X6_other 3 := ⟨⟨⟨gw_of (q1_in _ (List.mem_of_getElem? (i := 7) rfl)) rfl, gw_of (q4_in _ (List.mem_of_getElem? (i := 194) rfl)) rfl⟩, rfl, rfl, by decide +kernel, by decide +kernel, by decide +kernel⟩, gw_of (q4_in _ (List.mem_of_getElem? (i := 193) rfl)) rfl, gw_sel (List.mem_of_getElem? (i := 60) rfl) rfl⟩
theorem mok_X6_readTub : MOK mi_X6_readTub 1 := ⟨⟨⟨gw_of (q1_in _ (List.mem_of_getElem? (i := 7) rfl)) rfl, gw_of (q4_in _ (List.mem_of_getElem? (i := 190) rfl)) rfl⟩, rfl, rfl, by decide +kernel, by decide +kernel, by decide +kernel⟩, gw_of (q4_in _ (List.mem_of_getElem? (i := 189) rfl)) rfl, gw_sel (List.mem_of_getElem? (i := 59) rfl) rfl⟩
theorem mok_X6_readHeir : MOK mi_X6_readHeir 0 := ⟨⟨⟨gw_of (q1_in _ (List.mem_of_getElem? (i := 7) rfl)) rfl, gw_of (q4_in _ (List.mem_of_getElem? (i := 198) rfl)) rfl⟩, rfl, rfl, by decide +kernel, by decide +kernel, by decide +kernel⟩, gw_of (q4_in _ (List.mem_of_getElem? (i := 197) rfl)) rfl, gw_sel (List.mem_of_getElem? (i := 61) rfl) rfl⟩
theorem mok_X6_readMore : MOK mi_X6_readMore 1 := ⟨⟨⟨gw_of (q1_in _ (List.mem_of_getElem? (i := 7) rfl)) rfl, gw_of (q4_in _ (List.mem_of_getElem? (i := 186) rfl)) rfl⟩, rfl, rfl, by decide +kernel, by decide +kernel, by decide +kernel⟩, gw_of (q4_in _ (List.mem_of_getElem? (i := 185) rfl)) rfl, gw_sel (List.mem_of_getElem? (i := 58) rfl) rfl⟩
theorem mok_X6_readLine : MOK mi_X6_readLine 0 := ⟨⟨⟨gw_of (q1_in _ (List.mem_of_getElem? (i := 7) rfl)) rfl, gw_of (q4_in _ (List.mem_of_getElem? (i := 177) rfl)) rfl⟩, rfl, rfl, by decide +kernel, by decide +kernel, by decide +kernel⟩, gw_of (q4_in _ (List.mem_of_getElem? (i := 176) rfl)) rfl, gw_sel (List.mem_of_getElem? (i := 56) rfl) rfl⟩
theorem mok_X6_text : MOK mi_X6_text 0 := ⟨⟨⟨gw_of (q1_in _ (List.mem_of_getElem? (i := 7) rfl)) rfl, gw_of (q4_in _ (List.mem_of_getElem? (i := 157) rfl)) rfl⟩, rfl, rfl, by decide +kernel, by decide +kernel, by decide +kernel⟩, gw_of (q4_in _ (List.mem_of_getElem? (i := 155) rfl)) rfl, gw_of (q4_in _ (List.mem_of_getElem? (i := 156) rfl)) rfl⟩
theorem mok_X6_fault : MOK mi_X6_fault 0 := ⟨⟨⟨gw_of (q1_in _ (List.mem_of_getElem? (i := 7) rfl)) rfl, gw_of (q4_in _ (List.mem_of_getElem? (i := 202) rfl)) rfl⟩, rfl, rfl, by decide +kernel, by decide +kernel, by decide +kernel⟩, gw_of (q4_in _ (List.mem_of_getElem? (i := 200) rfl)) rfl, gw_of (q4_in _ (List.mem_of_getElem? (i := 201) rfl)) rfl⟩
theorem mok_X6_isTub : MOK mi_X6_isTub 1 := ⟨⟨⟨gw_of (q1_in _ (List.mem_of_getElem? (i := 7) rfl)) rfl, gw_of (q4_in _ (List.mem_of_getElem? (i := 225) rfl)) rfl⟩, rfl, rfl, by decide +kernel, by decide +kernel, by decide +kernel⟩, gw_of (q4_in _ (List.mem_of_getElem? (i := 224) rfl)) rfl, gw_sel (List.mem_of_getElem? (i := 64) rfl) rfl⟩
theorem mok_X6_isHeir : MOK mi_X6_isHeir 1 := ⟨⟨⟨gw_of (q1_in _ (List.mem_of_getElem? (i := 7) rfl)) rfl, gw_of (q4_in _ (List.mem_of_getElem? (i := 234) rfl)) rfl⟩, rfl, rfl, by decide +kernel, by decide +kernel, by decide +kernel⟩, gw_of (q4_in _ (List.mem_of_getElem? (i := 233) rfl)) rfl, gw_sel (List.mem_of_getElem? (i := 65) rfl) rfl⟩
theorem mos_X6_isHour : MOS mi_X6_isHour 1 := ⟨⟨⟨gw_of (q1_in _ (List.mem_of_getElem? (i := 7) rfl)) rfl, gw_of (q5_in _ (List.mem_of_getElem? (i := 7) rfl)) rfl⟩, rfl, rfl, by decide +kernel, by decide +kernel, by decide +kernel⟩, gw_of (q5_in _ (List.mem_of_getElem? (i := 6) rfl)) rfl⟩
theorem mok_X6_estates : MOK mi_X6_estates 0 := ⟨⟨⟨gw_of (q1_in _ (List.mem_of_getElem? (i := 7) rfl)) rfl, gw_of (q4_in _ (List.mem_of_getElem? (i := 210) rfl)) rfl⟩, rfl, rfl, by decide +kernel, by decide +kernel, by decide +kernel⟩, gw_of (q4_in _ (List.mem_of_getElem? (i := 209) rfl)) rfl, gw_sel (List.mem_of_getElem? (i := 62) rfl) rfl⟩
theorem mok_X6_windyHours : MOK mi_X6_windyHours 0 := ⟨⟨⟨gw_of (q1_in _ (List.mem_of_getElem? (i := 7) rfl)) rfl, gw_of (q4_in _ (List.mem_of_getElem? (i := 214) rfl)) rfl⟩, rfl, rfl, by decide +kernel, by decide +kernel, by decide +kernel⟩, gw_of (q4_in _ (List.mem_of_getElem? (i := 213) rfl)) rfl, gw_sel (List.mem_of_getElem? (i := 63) rfl) rfl⟩
theorem mos_X6_bitsOf : MOS mi_X6_bitsOf 1 := ⟨⟨⟨gw_of (q1_in _ (List.mem_of_getElem? (i := 7) rfl)) rfl, gw_of (q4_in _ (List.mem_of_getElem? (i := 217) rfl)) rfl⟩, rfl, rfl, by decide +kernel, by decide +kernel, by decide +kernel⟩, gw_of (q4_in _ (List.mem_of_getElem? (i := 216) rfl)) rfl⟩
theorem mok_X6_rule : MOK mi_X6_rule 1 := ⟨⟨⟨gw_of (q1_in _ (List.mem_of_getElem? (i := 7) rfl)) rfl, gw_of (q4_in _ (List.mem_of_getElem? (i := 206) rfl)) rfl⟩, rfl, rfl, by decide +kernel, by decide +kernel, by decide +kernel⟩, gw_of (q4_in _ (List.mem_of_getElem? (i := 204) rfl)) rfl, gw_of (q4_in _ (List.mem_of_getElem? (i := 205) rfl)) rfl⟩
theorem mok_X6_tub : MOK mi_X6_tub 2 := ⟨⟨⟨gw_of (q1_in _ (List.mem_of_getElem? (i := 7) rfl)) rfl, gw_of (q4_in _ (List.mem_of_getElem? (i := 221) rfl)) rfl⟩, rfl, rfl, by decide +kernel, by decide +kernel, by decide +kernel⟩, gw_of (q4_in _ (List.mem_of_getElem? (i := 219) rfl)) rfl, gw_of (q4_in _ (List.mem_of_getElem? (i := 220) rfl)) rfl⟩
theorem mok_X6_heir : MOK mi_X6_heir 2 := ⟨⟨⟨gw_of (q1_in _ (List.mem_of_getElem? (i := 7) rfl)) rfl, gw_of (q4_in _ (List.mem_of_getElem? (i := 230) rfl)) rfl⟩, rfl, rfl, by decide +kernel, by decide +kernel, by decide +kernel⟩, gw_of (q4_in _ (List.mem_of_getElem? (i := 228) rfl)) rfl, gw_of (q4_in _ (List.mem_of_getElem? (i := 229) rfl)) rfl⟩
theorem mok_X6_current : MOK mi_X6_current 1 := ⟨⟨⟨gw_of (q1_in _ (List.mem_of_getElem? (i := 7) rfl)) rfl, gw_of (q4_in _ (List.mem_of_getElem? (i := 239) rfl)) rfl⟩, rfl, rfl, by decide +kernel, by decide +kernel, by decide +kernel⟩, gw_of (q4_in _ (List.mem_of_getElem? (i := 237) rfl)) rfl, gw_of (q4_in _ (List.mem_of_getElem? (i := 238) rfl)) rfl⟩
theorem mok_X6_wind : MOK mi_X6_wind 1 := ⟨⟨⟨gw_of (q1_in _ (List.mem_of_getElem? (i := 7) rfl)) rfl, gw_of (q5_in _ (List.mem_of_getElem? (i := 4) rfl)) rfl⟩, rfl, rfl, by decide +kernel, by decide +kernel, by decide +kernel⟩, gw_of (q5_in _ (List.mem_of_getElem? (i := 2) rfl)) rfl, gw_of (q5_in _ (List.mem_of_getElem? (i := 3) rfl)) rfl⟩
theorem mok_X6_puts : MOK mi_X6_puts 4 := ⟨⟨⟨gw_of (q1_in _ (List.mem_of_getElem? (i := 7) rfl)) rfl, gw_of (q5_in _ (List.mem_of_getElem? (i := 17) rfl)) rfl⟩, rfl, rfl, by decide +kernel, by decide +kernel, by decide +kernel⟩, gw_of (q5_in _ (List.mem_of_getElem? (i := 16) rfl)) rfl, gw_sel (List.mem_of_getElem? (i := 66) rfl) rfl⟩
theorem mok_X6_alter : MOK mi_X6_alter 3 := ⟨⟨⟨gw_of (q1_in _ (List.mem_of_getElem? (i := 7) rfl)) rfl, gw_of (q5_in _ (List.mem_of_getElem? (i := 12) rfl)) rfl⟩, rfl, rfl, by decide +kernel, by decide +kernel, by decide +kernel⟩, gw_of (q5_in _ (List.mem_of_getElem? (i := 10) rfl)) rfl, gw_of (q5_in _ (List.mem_of_getElem? (i := 11) rfl)) rfl⟩
theorem mok_X6_stand : MOK mi_X6_stand 3 := ⟨⟨⟨gw_of (q1_in _ (List.mem_of_getElem? (i := 7) rfl)) rfl, gw_of (q5_in _ (List.mem_of_getElem? (i := 21) rfl)) rfl⟩, rfl, rfl, by decide +kernel, by decide +kernel, by decide +kernel⟩, gw_of (q5_in _ (List.mem_of_getElem? (i := 19) rfl)) rfl, gw_of (q5_in _ (List.mem_of_getElem? (i := 20) rfl)) rfl⟩
theorem mok_X6_set : MOK mi_X6_set 2 := ⟨⟨⟨gw_of (q1_in _ (List.mem_of_getElem? (i := 7) rfl)) rfl, gw_of (q5_in _ (List.mem_of_getElem? (i := 25) rfl)) rfl⟩, rfl, rfl, by decide +kernel, by decide +kernel, by decide +kernel⟩, gw_of (q5_in _ (List.mem_of_getElem? (i := 23) rfl)) rfl, gw_of (q5_in _ (List.mem_of_getElem? (i := 24) rfl)) rfl⟩
theorem mok_X6_blow : MOK mi_X6_blow 2 := ⟨⟨⟨gw_of (q1_in _ (List.mem_of_getElem? (i := 7) rfl)) rfl, gw_of (q5_in _ (List.mem_of_getElem? (i := 29) rfl)) rfl⟩, rfl, rfl, by decide +kernel, by decide +kernel, by decide +kernel⟩, gw_of (q5_in _ (List.mem_of_getElem? (i := 27) rfl)) rfl, gw_of (q5_in _ (List.mem_of_getElem? (i := 28) rfl)) rfl⟩
theorem mok_X6_phase : MOK mi_X6_phase 1 := ⟨⟨⟨gw_of (q1_in _ (List.mem_of_getElem? (i := 7) rfl)) rfl, gw_of (q5_in _ (List.mem_of_getElem? (i := 33) rfl)) rfl⟩, rfl, rfl, by decide +kernel, by decide +kernel, by decide +kernel⟩, gw_of (q5_in _ (List.mem_of_getElem? (i := 31) rfl)) rfl, gw_of (q5_in _ (List.mem_of_getElem? (i := 32) rfl)) rfl⟩
theorem mok_X6_casts : MOK mi_X6_casts 3 := ⟨⟨⟨gw_of (q1_in _ (List.mem_of_getElem? (i := 7) rfl)) rfl, gw_of (q5_in _ (List.mem_of_getElem? (i := 41) rfl)) rfl⟩, rfl, rfl, by decide +kernel, by decide +kernel, by decide +kernel⟩, gw_of (q5_in _ (List.mem_of_getElem? (i := 40) rfl)) rfl, gw_sel (List.mem_of_getElem? (i := 67) rfl) rfl⟩
theorem mok_X6_cast : MOK mi_X6_cast 3 := ⟨⟨⟨gw_of (q1_in _ (List.mem_of_getElem? (i := 7) rfl)) rfl, gw_of (q5_in _ (List.mem_of_getElem? (i := 37) rfl)) rfl⟩, rfl, rfl, by decide +kernel, by decide +kernel, by decide +kernel⟩, gw_of (q5_in _ (List.mem_of_getElem? (i := 35) rfl)) rfl, gw_of (q5_in _ (List.mem_of_getElem? (i := 36) rfl)) rfl⟩
theorem mok_X6_sink : MOK mi_X6_sink 1 := ⟨⟨⟨gw_of (q1_in _ (List.mem_of_getElem? (i := 7) rfl)) rfl, gw_of (q5_in _ (List.mem_of_getElem? (i := 45) rfl)) rfl⟩, rfl, rfl, by decide +kernel, by decide +kernel, by decide +kernel⟩, gw_of (q5_in _ (List.mem_of_getElem? (i := 43) rfl)) rfl, gw_of (q5_in _ (List.mem_of_getElem? (i := 44) rfl)) rfl⟩
theorem mok_X6_drifts : MOK mi_X6_drifts 3 := ⟨⟨⟨gw_of (q1_in _ (List.mem_of_getElem? (i := 7) rfl)) rfl, gw_of (q5_in _ (List.mem_of_getElem? (i := 57) rfl)) rfl⟩, rfl, rfl, by decide +kernel, by decide +kernel, by decide +kernel⟩, gw_of (q5_in _ (List.mem_of_getElem? (i := 56) rfl)) rfl, gw_sel (List.mem_of_getElem? (i := 69) rfl) rfl⟩
theorem mok_X6_hooks : MOK mi_X6_hooks 3 := ⟨⟨⟨gw_of (q1_in _ (List.mem_of_getElem? (i := 7) rfl)) rfl, gw_of (q5_in _ (List.mem_of_getElem? (i := 61) rfl)) rfl⟩, rfl, rfl, by decide +kernel, by decide +kernel, by decide +kernel⟩, gw_of (q5_in _ (List.mem_of_getElem? (i := 60) rfl)) rfl, gw_sel (List.mem_of_getElem? (i := 70) rfl) rfl⟩
theorem mok_X6_dayGoes : MOK mi_X6_dayGoes 2 := ⟨⟨⟨gw_of (q1_in _ (List.mem_of_getElem? (i := 7) rfl)) rfl, gw_of (q5_in _ (List.mem_of_getElem? (i := 53) rfl)) rfl⟩, rfl, rfl, by decide +kernel, by decide +kernel, by decide +kernel⟩, gw_of (q5_in _ (List.mem_of_getElem? (i := 52) rfl)) rfl, gw_sel (List.mem_of_getElem? (i := 68) rfl) rfl⟩
theorem mok_X6_estatesOf : MOK mi_X6_estatesOf 2 := ⟨⟨⟨gw_of (q1_in _ (List.mem_of_getElem? (i := 7) rfl)) rfl, gw_of (q5_in _ (List.mem_of_getElem? (i := 79) rfl)) rfl⟩, rfl, rfl, by decide +kernel, by decide +kernel, by decide +kernel⟩, gw_of (q5_in _ (List.mem_of_getElem? (i := 78) rfl)) rfl, gw_sel (List.mem_of_getElem? (i := 72) rfl) rfl⟩
theorem mok_X6_worth : MOK mi_X6_worth 2 := ⟨⟨⟨gw_of (q1_in _ (List.mem_of_getElem? (i := 7) rfl)) rfl, gw_of (q5_in _ (List.mem_of_getElem? (i := 75) rfl)) rfl⟩, rfl, rfl, by decide +kernel, by decide +kernel, by decide +kernel⟩, gw_of (q5_in _ (List.mem_of_getElem? (i := 74) rfl)) rfl, gw_sel (List.mem_of_getElem? (i := 71) rfl) rfl⟩
theorem mok_X6_tubsOf : MOK mi_X6_tubsOf 2 := ⟨⟨⟨gw_of (q1_in _ (List.mem_of_getElem? (i := 7) rfl)) rfl, gw_of (q5_in _ (List.mem_of_getElem? (i := 83) rfl)) rfl⟩, rfl, rfl, by decide +kernel, by decide +kernel, by decide +kernel⟩, gw_of (q5_in _ (List.mem_of_getElem? (i := 82) rfl)) rfl, gw_sel (List.mem_of_getElem? (i := 73) rfl) rfl⟩
theorem mok_X6_fate : MOK mi_X6_fate 2 := ⟨⟨⟨gw_of (q1_in _ (List.mem_of_getElem? (i := 7) rfl)) rfl, gw_of (q5_in _ (List.mem_of_getElem? (i := 49) rfl)) rfl⟩, rfl, rfl, by decide +kernel, by decide +kernel, by decide +kernel⟩, gw_of (q5_in _ (List.mem_of_getElem? (i := 47) rfl)) rfl, gw_of (q5_in _ (List.mem_of_getElem? (i := 48) rfl)) rfl⟩
theorem mok_X6_where : MOK mi_X6_where 3 := ⟨⟨⟨gw_of (q1_in _ (List.mem_of_getElem? (i := 7) rfl)) rfl, gw_of (q5_in _ (List.mem_of_getElem? (i := 65) rfl)) rfl⟩, rfl, rfl, by decide +kernel, by decide +kernel, by decide +kernel⟩, gw_of (q5_in _ (List.mem_of_getElem? (i := 63) rfl)) rfl, gw_of (q5_in _ (List.mem_of_getElem? (i := 64) rfl)) rfl⟩
theorem mok_X6_has : MOK mi_X6_has 2 := ⟨⟨⟨gw_of (q1_in _ (List.mem_of_getElem? (i := 7) rfl)) rfl, gw_of (q5_in _ (List.mem_of_getElem? (i := 71) rfl)) rfl⟩, rfl, rfl, by decide +kernel, by decide +kernel, by decide +kernel⟩, gw_of (q5_in _ (List.mem_of_getElem? (i := 69) rfl)) rfl, gw_of (q5_in _ (List.mem_of_getElem? (i := 70) rfl)) rfl⟩
theorem mok_X6_all : MOK mi_X6_all 1 := ⟨⟨⟨gw_of (q1_in _ (List.mem_of_getElem? (i := 7) rfl)) rfl, gw_of (q5_in _ (List.mem_of_getElem? (i := 87) rfl)) rfl⟩, rfl, rfl, by decide +kernel, by decide +kernel, by decide +kernel⟩, gw_of (q5_in _ (List.mem_of_getElem? (i := 85) rfl)) rfl, gw_of (q5_in _ (List.mem_of_getElem? (i := 86) rfl)) rfl⟩
theorem mok_X6_copies : MOK mi_X6_copies 2 := ⟨⟨⟨gw_of (q1_in _ (List.mem_of_getElem? (i := 7) rfl)) rfl, gw_of (q5_in _ (List.mem_of_getElem? (i := 95) rfl)) rfl⟩, rfl, rfl, by decide +kernel, by decide +kernel, by decide +kernel⟩, gw_of (q5_in _ (List.mem_of_getElem? (i := 94) rfl)) rfl, gw_sel (List.mem_of_getElem? (i := 74) rfl) rfl⟩
theorem mok_X6_isHooked : MOK mi_X6_isHooked 2 := ⟨⟨⟨gw_of (q1_in _ (List.mem_of_getElem? (i := 7) rfl)) rfl, gw_of (q5_in _ (List.mem_of_getElem? (i := 99) rfl)) rfl⟩, rfl, rfl, by decide +kernel, by decide +kernel, by decide +kernel⟩, gw_of (q5_in _ (List.mem_of_getElem? (i := 98) rfl)) rfl, gw_sel (List.mem_of_getElem? (i := 75) rfl) rfl⟩
theorem mok_X6_when : MOK mi_X6_when 2 := ⟨⟨⟨gw_of (q1_in _ (List.mem_of_getElem? (i := 7) rfl)) rfl, gw_of (q5_in _ (List.mem_of_getElem? (i := 91) rfl)) rfl⟩, rfl, rfl, by decide +kernel, by decide +kernel, by decide +kernel⟩, gw_of (q5_in _ (List.mem_of_getElem? (i := 89) rfl)) rfl, gw_of (q5_in _ (List.mem_of_getElem? (i := 90) rfl)) rfl⟩
theorem mok_X6_aim : MOK mi_X6_aim 2 := ⟨⟨⟨gw_of (q1_in _ (List.mem_of_getElem? (i := 7) rfl)) rfl, gw_of (q5_in _ (List.mem_of_getElem? (i := 103) rfl)) rfl⟩, rfl, rfl, by decide +kernel, by decide +kernel, by decide +kernel⟩, gw_of (q5_in _ (List.mem_of_getElem? (i := 101) rfl)) rfl, gw_of (q5_in _ (List.mem_of_getElem? (i := 102) rfl)) rfl⟩
theorem mok_X6_ways : MOK mi_X6_ways 2 := ⟨⟨⟨gw_of (q1_in _ (List.mem_of_getElem? (i := 7) rfl)) rfl, gw_of (q5_in _ (List.mem_of_getElem? (i := 107) rfl)) rfl⟩, rfl, rfl, by decide +kernel, by decide +kernel, by decide +kernel⟩, gw_of (q5_in _ (List.mem_of_getElem? (i := 105) rfl)) rfl, gw_of (q5_in _ (List.mem_of_getElem? (i := 106) rfl)) rfl⟩
theorem mok_X6_place : MOK mi_X6_place 2 := ⟨⟨⟨gw_of (q1_in _ (List.mem_of_getElem? (i := 7) rfl)) rfl, gw_of (q5_in _ (List.mem_of_getElem? (i := 111) rfl)) rfl⟩, rfl, rfl, by decide +kernel, by decide +kernel, by decide +kernel⟩, gw_of (q5_in _ (List.mem_of_getElem? (i := 109) rfl)) rfl, gw_of (q5_in _ (List.mem_of_getElem? (i := 110) rfl)) rfl⟩
theorem mok_X6_hook : MOK mi_X6_hook 2 := ⟨⟨⟨gw_of (q1_in _ (List.mem_of_getElem? (i := 7) rfl)) rfl, gw_of (q5_in _ (List.mem_of_getElem? (i := 115) rfl)) rfl⟩, rfl, rfl, by decide +kernel, by decide +kernel, by decide +kernel⟩, gw_of (q5_in _ (List.mem_of_getElem? (i := 113) rfl)) rfl, gw_of (q5_in _ (List.mem_of_getElem? (i := 114) rfl)) rfl⟩
theorem mok_X6_fire : MOK mi_X6_fire 2 := ⟨⟨⟨gw_of (q1_in _ (List.mem_of_getElem? (i := 7) rfl)) rfl, gw_of (q5_in _ (List.mem_of_getElem? (i := 120) rfl)) rfl⟩, rfl, rfl, by decide +kernel, by decide +kernel, by decide +kernel⟩, gw_of (q5_in _ (List.mem_of_getElem? (i := 118) rfl)) rfl, gw_of (q5_in _ (List.mem_of_getElem? (i := 119) rfl)) rfl⟩
theorem mok_X6_moon : MOK mi_X6_moon 1 := ⟨⟨⟨gw_of (q1_in _ (List.mem_of_getElem? (i := 7) rfl)) rfl, gw_of (q5_in _ (List.mem_of_getElem? (i := 124) rfl)) rfl⟩, rfl, rfl, by decide +kernel, by decide +kernel, by decide +kernel⟩, gw_of (q5_in _ (List.mem_of_getElem? (i := 122) rfl)) rfl, gw_of (q5_in _ (List.mem_of_getElem? (i := 123) rfl)) rfl⟩
theorem mok_X6_isRest : MOK mi_X6_isRest 2 := ⟨⟨⟨gw_of (q1_in _ (List.mem_of_getElem? (i := 7) rfl)) rfl, gw_of (q5_in _ (List.mem_of_getElem? (i := 132) rfl)) rfl⟩, rfl, rfl, by decide +kernel, by decide +kernel, by decide +kernel⟩, gw_of (q5_in _ (List.mem_of_getElem? (i := 131) rfl)) rfl, gw_sel (List.mem_of_getElem? (i := 76) rfl) rfl⟩
theorem mok_X6_rest : MOK mi_X6_rest 3 := ⟨⟨⟨gw_of (q1_in _ (List.mem_of_getElem? (i := 7) rfl)) rfl, gw_of (q5_in _ (List.mem_of_getElem? (i := 128) rfl)) rfl⟩, rfl, rfl, by decide +kernel, by decide +kernel, by decide +kernel⟩, gw_of (q5_in _ (List.mem_of_getElem? (i := 126) rfl)) rfl, gw_of (q5_in _ (List.mem_of_getElem? (i := 127) rfl)) rfl⟩
theorem mos_X6_lowest : MOS mi_X6_lowest 3 := ⟨⟨⟨gw_of (q1_in _ (List.mem_of_getElem? (i := 7) rfl)) rfl, gw_of (q5_in _ (List.mem_of_getElem? (i := 146) rfl)) rfl⟩, rfl, rfl, by decide +kernel, by decide +kernel, by decide +kernel⟩, gw_of (q5_in _ (List.mem_of_getElem? (i := 145) rfl)) rfl⟩
theorem mok_X6_byDrops : MOK mi_X6_byDrops 4 := ⟨⟨⟨gw_of (q1_in _ (List.mem_of_getElem? (i := 7) rfl)) rfl, gw_of (q5_in _ (List.mem_of_getElem? (i := 143) rfl)) rfl⟩, rfl, rfl, by decide +kernel, by decide +kernel, by decide +kernel⟩, gw_of (q5_in _ (List.mem_of_getElem? (i := 142) rfl)) rfl, gw_sel (List.mem_of_getElem? (i := 77) rfl) rfl⟩
theorem mok_X6_luck : MOK mi_X6_luck 4 := ⟨⟨⟨gw_of (q1_in _ (List.mem_of_getElem? (i := 7) rfl)) rfl, gw_of (q5_in _ (List.mem_of_getElem? (i := 136) rfl)) rfl⟩, rfl, rfl, by decide +kernel, by decide +kernel, by decide +kernel⟩, gw_of (q5_in _ (List.mem_of_getElem? (i := 134) rfl)) rfl, gw_of (q5_in _ (List.mem_of_getElem? (i := 135) rfl)) rfl⟩
theorem mok_X6_mean : MOK mi_X6_mean 3 := ⟨⟨⟨gw_of (q1_in _ (List.mem_of_getElem? (i := 7) rfl)) rfl, gw_of (q5_in _ (List.mem_of_getElem? (i := 150) rfl)) rfl⟩, rfl, rfl, by decide +kernel, by decide +kernel, by decide +kernel⟩, gw_of (q5_in _ (List.mem_of_getElem? (i := 148) rfl)) rfl, gw_of (q5_in _ (List.mem_of_getElem? (i := 149) rfl)) rfl⟩
theorem mok_X6_see : MOK mi_X6_see 3 := ⟨⟨⟨gw_of (q1_in _ (List.mem_of_getElem? (i := 7) rfl)) rfl, gw_of (q5_in _ (List.mem_of_getElem? (i := 154) rfl)) rfl⟩, rfl, rfl, by decide +kernel, by decide +kernel, by decide +kernel⟩, gw_of (q5_in _ (List.mem_of_getElem? (i := 152) rfl)) rfl, gw_of (q5_in _ (List.mem_of_getElem? (i := 153) rfl)) rfl⟩
theorem mok_X6_forget : MOK mi_X6_forget 1 := ⟨⟨⟨gw_of (q1_in _ (List.mem_of_getElem? (i := 7) rfl)) rfl, gw_of (q5_in _ (List.mem_of_getElem? (i := 159) rfl)) rfl⟩, rfl, rfl, by decide +kernel, by decide +kernel, by decide +kernel⟩, gw_of (q5_in _ (List.mem_of_getElem? (i := 157) rfl)) rfl, gw_of (q5_in _ (List.mem_of_getElem? (i := 158) rfl)) rfl⟩
theorem mok_X6_isAsSeen : MOK mi_X6_isAsSeen 0 := ⟨⟨⟨gw_of (q1_in _ (List.mem_of_getElem? (i := 7) rfl)) rfl, gw_of (q5_in _ (List.mem_of_getElem? (i := 171) rfl)) rfl⟩, rfl, rfl, by decide +kernel, by decide +kernel, by decide +kernel⟩, gw_of (q5_in _ (List.mem_of_getElem? (i := 170) rfl)) rfl, gw_sel (List.mem_of_getElem? (i := 79) rfl) rfl⟩
theorem mok_X6_kindsOf : MOK mi_X6_kindsOf 1 := ⟨⟨⟨gw_of (q1_in _ (List.mem_of_getElem? (i := 7) rfl)) rfl, gw_of (q5_in _ (List.mem_of_getElem? (i := 167) rfl)) rfl⟩, rfl, rfl, by decide +kernel, by decide +kernel, by decide +kernel⟩, gw_of (q5_in _ (List.mem_of_getElem? (i := 166) rfl)) rfl, gw_sel (List.mem_of_getElem? (i := 78) rfl) rfl⟩
theorem mok_X6_kinds : MOK mi_X6_kinds 1 := ⟨⟨⟨gw_of (q1_in _ (List.mem_of_getElem? (i := 7) rfl)) rfl, gw_of (q5_in _ (List.mem_of_getElem? (i := 163) rfl)) rfl⟩, rfl, rfl, by decide +kernel, by decide +kernel, by decide +kernel⟩, gw_of (q5_in _ (List.mem_of_getElem? (i := 161) rfl)) rfl, gw_of (q5_in _ (List.mem_of_getElem? (i := 162) rfl)) rfl⟩
theorem mok_X6_sets : MOK mi_X6_sets 1 := ⟨⟨⟨gw_of (q1_in _ (List.mem_of_getElem? (i := 7) rfl)) rfl, gw_of (q5_in _ (List.mem_of_getElem? (i := 175) rfl)) rfl⟩, rfl, rfl, by decide +kernel, by decide +kernel, by decide +kernel⟩, gw_of (q5_in _ (List.mem_of_getElem? (i := 173) rfl)) rfl, gw_of (q5_in _ (List.mem_of_getElem? (i := 174) rfl)) rfl⟩
theorem mok_X6_look : MOK mi_X6_look 2 := ⟨⟨⟨gw_of (q1_in _ (List.mem_of_getElem? (i := 7) rfl)) rfl, gw_of (q5_in _ (List.mem_of_getElem? (i := 179) rfl)) rfl⟩, rfl, rfl, by decide +kernel, by decide +kernel, by decide +kernel⟩, gw_of (q5_in _ (List.mem_of_getElem? (i := 177) rfl)) rfl, gw_of (q5_in _ (List.mem_of_getElem? (i := 178) rfl)) rfl⟩
theorem mok_X6_drift : MOK mi_X6_drift 3 := ⟨⟨⟨gw_of (q1_in _ (List.mem_of_getElem? (i := 7) rfl)) rfl, gw_of (q5_in _ (List.mem_of_getElem? (i := 183) rfl)) rfl⟩, rfl, rfl, by decide +kernel, by decide +kernel, by decide +kernel⟩, gw_of (q5_in _ (List.mem_of_getElem? (i := 181) rfl)) rfl, gw_of (q5_in _ (List.mem_of_getElem? (i := 182) rfl)) rfl⟩
theorem mok_X6_keep : MOK mi_X6_keep 1 := ⟨⟨⟨gw_of (q1_in _ (List.mem_of_getElem? (i := 7) rfl)) rfl, gw_of (q5_in _ (List.mem_of_getElem? (i := 189) rfl)) rfl⟩, rfl, rfl, by decide +kernel, by decide +kernel, by decide +kernel⟩, gw_of (q5_in _ (List.mem_of_getElem? (i := 187) rfl)) rfl, gw_of (q5_in _ (List.mem_of_getElem? (i := 188) rfl)) rfl⟩
theorem mok_X6_back : MOK mi_X6_back 1 := ⟨⟨⟨gw_of (q1_in _ (List.mem_of_getElem? (i := 7) rfl)) rfl, gw_of (q5_in _ (List.mem_of_getElem? (i := 193) rfl)) rfl⟩, rfl, rfl, by decide +kernel, by decide +kernel, by decide +kernel⟩, gw_of (q5_in _ (List.mem_of_getElem? (i := 191) rfl)) rfl, gw_of (q5_in _ (List.mem_of_getElem? (i := 192) rfl)) rfl⟩
theorem mok_X6_sheet : MOK mi_X6_sheet 3 := ⟨⟨⟨gw_of (q1_in _ (List.mem_of_getElem? (i := 7) rfl)) rfl, gw_of (q5_in _ (List.mem_of_getElem? (i := 197) rfl)) rfl⟩, rfl, rfl, by decide +kernel, by decide +kernel, by decide +kernel⟩, gw_of (q5_in _ (List.mem_of_getElem? (i := 195) rfl)) rfl, gw_of (q5_in _ (List.mem_of_getElem? (i := 196) rfl)) rfl⟩
theorem mok_X6_lay : MOK mi_X6_lay 3 := ⟨⟨⟨gw_of (q1_in _ (List.mem_of_getElem? (i := 7) rfl)) rfl, gw_of (q5_in _ (List.mem_of_getElem? (i := 201) rfl)) rfl⟩, rfl, rfl, by decide +kernel, by decide +kernel, by decide +kernel⟩, gw_of (q5_in _ (List.mem_of_getElem? (i := 199) rfl)) rfl, gw_of (q5_in _ (List.mem_of_getElem? (i := 200) rfl)) rfl⟩
theorem mok_X6_read : MOK mi_X6_read 4 := ⟨⟨⟨gw_of (q1_in _ (List.mem_of_getElem? (i := 7) rfl)) rfl, gw_of (q5_in _ (List.mem_of_getElem? (i := 205) rfl)) rfl⟩, rfl, rfl, by decide +kernel, by decide +kernel, by decide +kernel⟩, gw_of (q5_in _ (List.mem_of_getElem? (i := 203) rfl)) rfl, gw_of (q5_in _ (List.mem_of_getElem? (i := 204) rfl)) rfl⟩
theorem mok_X6_torn : MOK mi_X6_torn 0 := ⟨⟨⟨gw_of (q1_in _ (List.mem_of_getElem? (i := 7) rfl)) rfl, gw_of (q5_in _ (List.mem_of_getElem? (i := 210) rfl)) rfl⟩, rfl, rfl, by decide +kernel, by decide +kernel, by decide +kernel⟩, gw_of (q5_in _ (List.mem_of_getElem? (i := 208) rfl)) rfl, gw_of (q5_in _ (List.mem_of_getElem? (i := 209) rfl)) rfl⟩
theorem mok_X6_count : MOK mi_X6_count 1 := ⟨⟨⟨gw_of (q1_in _ (List.mem_of_getElem? (i := 7) rfl)) rfl, gw_of (q5_in _ (List.mem_of_getElem? (i := 214) rfl)) rfl⟩, rfl, rfl, by decide +kernel, by decide +kernel, by decide +kernel⟩, gw_of (q5_in _ (List.mem_of_getElem? (i := 212) rfl)) rfl, gw_of (q5_in _ (List.mem_of_getElem? (i := 213) rfl)) rfl⟩
theorem mok_max : MathOK Lib.Math.max.name Lib.Math.max.code 2 := ⟨gw_of (q3_in _ (List.mem_of_getElem? (i := 45) rfl)) rfl, gw_of (q1_in _ (List.mem_of_getElem? (i := 13) rfl)) rfl, gw_of (q3_in _ (List.mem_of_getElem? (i := 46) rfl)) rfl⟩
theorem mok_min : MathOK Lib.Math.min.name Lib.Math.min.code 2 := ⟨gw_of (q3_in _ (List.mem_of_getElem? (i := 42) rfl)) rfl, gw_of (q1_in _ (List.mem_of_getElem? (i := 13) rfl)) rfl, gw_of (q3_in _ (List.mem_of_getElem? (i := 43) rfl)) rfl⟩
theorem mok_abs : MathOK Lib.Math.abs.name Lib.Math.abs.code 1 := ⟨gw_of (q3_in _ (List.mem_of_getElem? (i := 53) rfl)) rfl, gw_of (q1_in _ (List.mem_of_getElem? (i := 13) rfl)) rfl, gw_of (q3_in _ (List.mem_of_getElem? (i := 54) rfl)) rfl⟩
theorem copyOK : CopyOK := ⟨gw_of (q2_in _ (List.mem_of_getElem? (i := 156) rfl)) rfl, gw_of (q2_in _ (List.mem_of_getElem? (i := 155) rfl)) rfl, gw_of (q1_in _ (List.mem_of_getElem? (i := 12) rfl)) rfl⟩

