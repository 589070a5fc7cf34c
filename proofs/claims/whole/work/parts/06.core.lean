/-! THE ABSTRACT MACHINE: a fixed graph of cells; what changes is a number at (cell, slot). 'Ev' is W said over it, 'Runs' is Met said over it. -/
abbrev Mem : Type := Nat → Nat → Int32
abbrev MI : Type := MethodName × ByteArray × Nat × Option FieldType × Room
abbrev mi_nm (y : MI) : MethodName := y.1
abbrev mi_code (y : MI) : ByteArray := y.2.1
abbrev mi_maxL (y : MI) : Nat := y.2.2.1
abbrev mi_ret (y : MI) : Option FieldType := y.2.2.2.1
abbrev mi_rm (y : MI) : Room := y.2.2.2.2
/-- launch, class ids, slots, the cells' addresses, the array classes, the tables' addresses, the texts' addresses and their rows' -/
abbrev GE : Type := Launch × va_G × (Nat → Nat) × (Nat → ClassId) × (Nat → Nat) × (Nat → Nat) × (Nat → Nat)
abbrev ge_l (E : GE) : Launch := E.1
abbrev ge_D (E : GE) : va_G := E.2.1
abbrev ad (E : GE) : Nat → Nat := E.2.2.1
abbrev ge_cy (E : GE) : Nat → ClassId := E.2.2.2.1
abbrev sT (E : GE) : Nat → Nat := E.2.2.2.2.1
abbrev sK (E : GE) : Nat → Nat := E.2.2.2.2.2.1
abbrev sV (E : GE) : Nat → Nat := E.2.2.2.2.2.2
/-- one field or element becomes v -/
def up (M : Mem) (c j : Nat) (v : Int32) : Mem := fun c' => if c' = c then upd (M c) j v else M c'
def upR (M : Mem) (c : Nat) (f : Nat → Int32) : Mem := fun c' => if c' = c then f else M c'
theorem up_same (M : Mem) (c j : Nat) (v : Int32) : up M c j v c j = v := by simp [up, upd]
theorem up_slot {M : Mem} {c j i : Nat} {v : Int32} (h : i ≠ j) : up M c j v c i = M c i := by simp [up, upd, h]
theorem up_cell {M : Mem} {c d j i : Nat} {v : Int32} (h : d ≠ c) : up M c j v d i = M d i := by simp [up, h]
theorem up_row {M : Mem} {c d j : Nat} {v : Int32} (h : d ≠ c) : up M c j v d = M d := by simp [up, h]
theorem up_at (M : Mem) (c j : Nat) (v : Int32) (d i : Nat) : up M c j v d i = if d = c ∧ i = j then v else M d i := by
  unfold up upd
  by_cases h : d = c
  · subst h; by_cases hi : i = j <;> simp [hi]
  · simp [h]
theorem up_upR (M : Mem) (c j : Nat) (v : Int32) : up M c j v = upR M c (upd (M c) j v) := rfl
theorem upR_same (M : Mem) (c : Nat) (f : Nat → Int32) : upR M c f c = f := by simp [upR]
theorem upR_ne {M : Mem} {c d : Nat} {f : Nat → Int32} (h : d ≠ c) : upR M c f d = M d := by simp [upR, h]
def NC : Nat := 75
def kdL : List Nat := [5, 1, 4, 7, 2, 7, 7, 7, 7, 2, 7, 7, 7, 7, 2, 7, 7, 7, 7, 9, 2, 7, 7, 7, 7, 2, 7, 7, 7, 7, 8, 10, 3, 7, 3, 7, 3, 7, 3, 7, 0, 7, 7, 7, 7, 7, 7, 7, 7, 7, 7, 7, 7, 7, 6, 7, 7, 7, 7, 7, 7, 7, 7, 7, 7, 7, 7, 7, 7, 7, 7, 8, 7, 7, 7]
def lnL : List Nat := [17, 7, 6, 160, 7, 20, 16, 10, 24, 7, 20, 16, 10, 24, 7, 20, 16, 10, 24, 2, 7, 20, 16, 10, 24, 7, 20, 16, 10, 24, 2, 4, 3, 40, 3, 40, 3, 40, 3, 40, 6, 4, 4, 4, 4, 4, 4, 6, 6, 6, 24, 4, 100, 100, 36, 360, 4, 72, 160, 9, 38, 4, 4, 4, 4, 4, 4, 100, 100, 18, 100, 2, 4, 4, 160]
def rfL : List (List Nat) := [[1, 2, 9, 14, 19, 30, 31, 40, 47, 48, 49, 50, 51, 52, 53, 0, 0], [2, 4, 0, 0, 0, 0, 0], [3, 0, 0, 0, 0, 0], [], [5, 6, 7, 8, 0, 0, 0], [], [], [], [], [10, 11, 12, 13, 0, 0, 0], [], [], [], [], [15, 16, 17, 18, 0, 0, 0], [], [], [], [], [20, 25], [21, 22, 23, 24, 0, 0, 0], [], [], [], [], [26, 27, 28, 29, 0, 0, 0], [], [], [], [], [], [32, 34, 36, 38], [33, 0, 0], [], [35, 0, 0], [], [37, 0, 0], [], [39, 0, 0], [], [41, 42, 43, 44, 45, 46], [], [], [], [], [], [], [], [], [], [], [], [], [], [55, 56, 0, 57, 0, 0, 0, 0, 58, 0, 0, 0, 0, 0, 0, 0, 0, 59, 60, 61, 62, 63, 64, 65, 66, 0, 67, 68, 69, 0, 70, 71, 72, 73, 74, 0], [], [], [], [], [], [], [], [], [], [], [], [], [], [], [], [], [], [], [], []]
def kd (k : Nat) : Nat := kdL.getD k 99
def ln (k : Nat) : Nat := lnL.getD k 0
def rf (k j : Nat) : Nat := (rfL.getD k []).getD j 0
def nf (c : Nat) : Nat := match vwCl[c]? with | some r => r.2.2 | none => 0
def isRefL : List (List Bool) := [[true, true, true, true, true, true], [true, true, false, false, false, false, false], [true, true, true, true, false, false, false], [true, false, false], [true, false, false, false, false, false], [true, true, true, true, true, true, true, true, true, true, true, true, true, true, true, false, false], [true, true, false, true, false, false, false, false, true, false, false, false, false, false, false, false, false, true, true, true, true, true, true, true, true, false, true, true, true, false, true, true, true, true, true, false]]
def isRefF (c j : Nat) : Bool := (isRefL.getD c []).getD j false
def tbNs : List String := ["TUB_LEAST", "TUB_MOST", "HEIR_MOST", "WINDAGES", "WIND_X", "WIND_Y"]
def tbN (i : Nat) : String := tbNs.getD i ""
def tbVs : List (List Int32) := [[0, 0, 1, 0, 1], [3, 9, 9, 23, 99], [9, 23, 23, 9], [1, 0, 2, 3], [0, 0, 1, 0, -1], [0, -1, 0, 1, 0]]
def tbV (i j : Nat) : Int32 := (tbVs.getD i []).getD j 0
def tbL (i : Nat) : Nat := (tbVs.getD i []).length
def tx_ixs : List Nat := [54, 64, 66, 68, 70, 75, 80, 85]
def tx_ix (i : Nat) : Nat := tx_ixs.getD i 0
def tx_ss : List String := ["tub", "bottle", "piano", "coop", "heir", "current", "wind", "phase"]
def tx_s (i : Nat) : String := tx_ss.getD i ""
def tx_byt : List (List Int32) := [[116, 117, 98], [98, 111, 116, 116, 108, 101], [112, 105, 97, 110, 111], [99, 111, 111, 112], [104, 101, 105, 114], [99, 117, 114, 114, 101, 110, 116], [119, 105, 110, 100], [112, 104, 97, 115, 101]]
def tx_len : List Nat := [3, 6, 5, 4, 4, 7, 4, 5]
def nestF : List (String × Nat × String × String × String) := [("FlotsamWill", 85, "FlotsamWill$Tape", "length", "I"), ("FlotsamWill$Reader", 48, "FlotsamWill$Tape", "token", "I"), ("FlotsamWill$Reader", 141, "FlotsamWill$Tape", "start", "I"), ("FlotsamWill$Reader", 134, "FlotsamWill$Tape", "value", "I"), ("FlotsamWill$Reader", 126, "FlotsamWill$Sea", "currents", "[I"), ("FlotsamWill$Day", 59, "FlotsamWill$Sea", "currents", "[I"), ("FlotsamWill", 140, "FlotsamWill$Sea", "currents", "[I"), ("FlotsamWill$Day", 53, "FlotsamWill$Sea", "winds", "[I"), ("FlotsamWill$Reader", 129, "FlotsamWill$Sea", "winds", "[I"), ("FlotsamWill", 143, "FlotsamWill$Sea", "winds", "[I"), ("FlotsamWill$Day", 30, "FlotsamWill$Sea", "tubs", "I"), ("FlotsamWill$Reader", 93, "FlotsamWill$Sea", "tubs", "I"), ("FlotsamWill", 109, "FlotsamWill$Sea", "tubs", "I"), ("FlotsamWill$Reader", 114, "FlotsamWill$Sea", "heirs", "I"), ("FlotsamWill", 112, "FlotsamWill$Sea", "heirs", "I"), ("FlotsamWill$Day", 83, "FlotsamWill$Sea", "heirs", "I"), ("FlotsamWill", 115, "FlotsamWill$Sea", "phase", "I"), ("FlotsamWill$Reader", 132, "FlotsamWill$Sea", "phase", "I"), ("FlotsamWill", 16, "FlotsamWill$Reader", "tape", "LFlotsamWill$Tape;"), ("FlotsamWill", 99, "FlotsamWill$Reader", "told", "LFlotsamWill$Sea;"), ("FlotsamWill", 93, "FlotsamWill$Reader", "fault", "I"), ("FlotsamWill", 96, "FlotsamWill$Reader", "faultAt", "I"), ("FlotsamWill", 277, "FlotsamWill$Sheet", "cells", "[I"), ("FlotsamWill", 268, "FlotsamWill$Sheet", "lane", "I"), ("FlotsamWill", 283, "FlotsamWill$Sheet", "size", "I"), ("FlotsamWill", 184, "FlotsamWill$Day", "y", "[I"), ("FlotsamWill", 175, "FlotsamWill$Day", "over", "[I"), ("FlotsamWill", 172, "FlotsamWill$Day", "hooker", "[I"), ("FlotsamWill", 178, "FlotsamWill$Day", "hooked", "[I"), ("FlotsamWill$Reader", 103, "FlotsamWill", "TUB_LEAST", "[I"), ("FlotsamWill$Reader", 107, "FlotsamWill", "TUB_MOST", "[I"), ("FlotsamWill$Reader", 120, "FlotsamWill", "HEIR_MOST", "[I"), ("FlotsamWill$Day", 56, "FlotsamWill", "WINDAGES", "[I"), ("FlotsamWill$Day", 62, "FlotsamWill", "WIND_X", "[I"), ("FlotsamWill$Day", 69, "FlotsamWill", "WIND_Y", "[I"), ("FlotsamWill$Day", 72, "FlotsamWill", "TUB_MOST", "[I")]
def nestM : List (String × Nat × MethodName) := [("FlotsamWill", 9, ⟨"FlotsamWill$Reader", "<init>", "()V"⟩), ("FlotsamWill$Reader", 11, ⟨"FlotsamWill$Tape", "<init>", "()V"⟩), ("FlotsamWill$Reader", 20, ⟨"FlotsamWill$Sea", "<init>", "()V"⟩), ("FlotsamWill", 23, ⟨"FlotsamWill$Sea", "<init>", "()V"⟩), ("FlotsamWill", 41, ⟨"FlotsamWill$Sheet", "<init>", "()V"⟩), ("FlotsamWill", 48, ⟨"FlotsamWill$Day", "<init>", "()V"⟩), ("FlotsamWill", 79, ⟨"FlotsamWill$Tape", "add", "(I)Z"⟩), ("FlotsamWill", 89, ⟨"FlotsamWill$Reader", "readAll", "()I"⟩), ("FlotsamWill$Reader", 25, ⟨"FlotsamWill$Sea", "empty", "()V"⟩), ("FlotsamWill$Reader", 28, ⟨"FlotsamWill$Tape", "rewind", "()V"⟩), ("FlotsamWill$Reader", 45, ⟨"FlotsamWill$Tape", "take", "()V"⟩), ("FlotsamWill$Reader", 56, ⟨"FlotsamWill$Tape", "isWord", "(Ljava/lang/String;)Z"⟩), ("FlotsamWill$Reader", 99, ⟨"FlotsamWill$Sea", "putTub", "(III)V"⟩), ("FlotsamWill$Reader", 137, ⟨"FlotsamWill", "within", "(III)Z"⟩), ("FlotsamWill$Reader", 117, ⟨"FlotsamWill$Sea", "ofHeir", "(II)I"⟩), ("FlotsamWill$Reader", 123, ⟨"FlotsamWill$Sea", "putHeir", "(III)V"⟩), ("FlotsamWill", 102, ⟨"FlotsamWill$Sea", "become", "(LFlotsamWill$Sea;)V"⟩), ("FlotsamWill", 118, ⟨"FlotsamWill$Sea", "estates", "()I"⟩), ("FlotsamWill", 124, ⟨"FlotsamWill$Sea", "isTub", "(I)Z"⟩), ("FlotsamWill", 130, ⟨"FlotsamWill$Sea", "ofTub", "(II)I"⟩), ("FlotsamWill", 134, ⟨"FlotsamWill$Sea", "isHeir", "(I)Z"⟩), ("FlotsamWill", 137, ⟨"FlotsamWill$Sea", "ofHeir", "(II)I"⟩), ("FlotsamWill", 150, ⟨"FlotsamWill$Sea", "putTub", "(III)V"⟩), ("FlotsamWill", 157, ⟨"FlotsamWill$Sea", "putHeir", "(III)V"⟩), ("FlotsamWill", 214, ⟨"FlotsamWill$Sea", "moveTub", "(III)V"⟩), ("FlotsamWill", 164, ⟨"FlotsamWill$Day", "runTub", "(LFlotsamWill$Sea;II)V"⟩), ("FlotsamWill$Day", 46, ⟨"FlotsamWill$Sea", "ofTub", "(II)I"⟩), ("FlotsamWill$Day", 65, ⟨"FlotsamWill$Sea", "tideAt", "(I)I"⟩), ("FlotsamWill$Day", 86, ⟨"FlotsamWill$Sea", "ofHeir", "(II)I"⟩), ("FlotsamWill", 168, ⟨"FlotsamWill$Day", "wayOf", "(I)I"⟩), ("FlotsamWill", 181, ⟨"FlotsamWill$Day", "eastOf", "(I)I"⟩), ("FlotsamWill", 187, ⟨"FlotsamWill$Day", "run", "(LFlotsamWill$Sea;)V"⟩), ("FlotsamWill", 190, ⟨"FlotsamWill$Day", "estatesOf", "(LFlotsamWill$Sea;I)I"⟩), ("FlotsamWill", 194, ⟨"FlotsamWill$Day", "tubsOf", "(LFlotsamWill$Sea;I)I"⟩), ("FlotsamWill", 197, ⟨"FlotsamWill$Day", "estatesHooked", "(LFlotsamWill$Sea;)I"⟩), ("FlotsamWill", 201, ⟨"FlotsamWill$Day", "tubsOfWay", "(LFlotsamWill$Sea;I)I"⟩), ("FlotsamWill", 204, ⟨"FlotsamWill$Day", "gives", "(LFlotsamWill$Sea;II)Z"⟩), ("FlotsamWill", 217, ⟨"FlotsamWill$Day", "sail", "(LFlotsamWill$Sea;)V"⟩), ("FlotsamWill", 220, ⟨"FlotsamWill$Day", "meet", "(LFlotsamWill$Sea;)V"⟩), ("FlotsamWill", 298, ⟨"FlotsamWill$Day", "sailTub", "(LFlotsamWill$Sea;II)V"⟩), ("FlotsamWill", 265, ⟨"FlotsamWill$Sheet", "renew", "(II)V"⟩), ("FlotsamWill", 271, ⟨"FlotsamWill$Sheet", "faultOf", "(III)I"⟩), ("FlotsamWill", 274, ⟨"FlotsamWill$Sheet", "put", "(II)V"⟩), ("FlotsamWill", 286, ⟨"FlotsamWill$Sea", "hooks", "()I"⟩), ("FlotsamWill", 289, ⟨"FlotsamWill$Sea", "moving", "()I"⟩)]
def gwL : List Cond := lw_tbl.filter goodWord
def fv (E : GE) (k c : Nat) (f : Nat → Int32) (j : Nat) : Value := if isRefF c j = true then .ref (ad E (rf k j)) else .int (f j)
def ent (E : GE) (k : Nat) (f : Nat → Int32) : va_E :=
  if kd k < 7 then .inr (kd k, (List.range (nf (kd k))).map (fv E k (kd k) f))
  else if kd k < 9 then .inl (ge_cy E (kd k - 7), ln k, .inl f)
  else .inl (ge_cy E (kd k - 7), ln k, .inr (.inr (.inr (.inr (fun j => some (ad E (rf k j)))))))
def wl (E : GE) (M : Mem) : va_W := (List.range NC).map fun k => (ad E k, ent E k (M k))
def AW (E : GE) : Nat → Prop := fun q => ∃ k, k < NC ∧ q = ad E k
def AD (E : GE) : Prop := ∀ i j, i < NC → j < NC → ad E i = ad E j → i = j
def tysE (E : GE) : List (ClassId × FieldType) := [(ge_cy E 0, .int), (ge_cy E 1, .boolean), (ge_cy E 2, .object RX2), (ge_cy E 3, .object RX3)]
theorem wl_at (E : GE) (M : Mem) {k : Nat} (h : k < NC) : (wl E M)[k]? = some (ad E k, ent E k (M k)) := by
  simp [wl, List.getElem?_map, List.getElem?_range h]
theorem wl_set (E : GE) (M : Mem) {k : Nat} (h : k < NC) (f : Nat → Int32) : (wl E M).set k (ad E k, ent E k f) = wl E (upR M k f) := by
  apply List.ext_getElem?
  intro i
  by_cases hi : i < NC
  · rw [wl_at E _ hi]
    by_cases hik : i = k
    · subst hik
      rw [List.getElem?_set_self (by simp [wl]; exact hi), upR_same]
    · rw [List.getElem?_set_ne (Ne.symm hik), wl_at E M hi, upR_ne hik]
  · rw [List.getElem?_eq_none (by simp [wl]; omega), List.getElem?_eq_none (by simp [wl]; omega)]
theorem wl_D {E : GE} (h : AD E) (M : Mem) : va_D (AW E) (wl E M) := by
  have key : ∀ (i : Nat) (p : Nat × va_E), (wl E M)[i]? = some p → i < NC ∧ p.1 = ad E i := by
    intro i p hp
    by_cases hi : i < NC
    · rw [wl_at E M hi] at hp
      cases hp
      exact ⟨hi, rfl⟩
    · rw [List.getElem?_eq_none (by simp [wl]; omega)] at hp
      cases hp
  refine ⟨fun i j p q hi hj hpq => ?_, fun k q hk => ?_⟩
  · obtain ⟨h1, e1⟩ := key i p hi
    obtain ⟨h2, e2⟩ := key j q hj
    exact h i j h1 h2 (by rw [← e1, ← e2, hpq])
  · obtain ⟨h1, e1⟩ := key k q hk
    exact ⟨k, h1, e1⟩
/-- what nobody writes: the tables, the texts, two statics of the JDK, the links to nest mates -/
def Sta (E : GE) (U : State) (H : Heap) : Prop :=
  (∀ i, i < 6 → va_Z RX5 (tbN i) "[I" (.ref (sT E i)) (AW E) U H ∧ va_T .int (sT E i) (tbL i) (fun j => .int (tbV i j)) (AW E) U H) ∧
  vk_S 8 tx_len tx_byt (sK E) (sV E) (AW E) U H ∧ (∀ i, i < 8 → vk_R RX1 (tx_ix i) (tx_s i) (sK E i) U) ∧
  va_Z "java/lang/String" "COMPACT_STRINGS" "Z" (.int 1) (AW E) U H ∧ va_Zq "jdk/internal/util/Preconditions" "SIOOBE_FORMATTER" "Ljava/util/function/BiFunction;" (AW E) U H ∧
  (∀ q ∈ nestF, va_Nw (.fieldLinkNest q.1 q.2.1 q.2.2.1 q.2.2.2.1 q.2.2.2.2 "FlotsamWill") U) ∧ (∀ q ∈ nestM, va_Nw (.methodLinkNest q.1 q.2.1 q.2.2 "FlotsamWill") U)
theorem Sta.warm {E : GE} {s U : State} {H : Heap} (hW : s.WarmedH U.vm) (h : Sta E s H) : Sta E U H := by
  obtain ⟨h1, h2, h3, h4, h5, h6, h7⟩ := h
  have ha := hW.alike
  exact ⟨fun i hi => ⟨va_Z.moved ha (h1 i hi).1, va_T.moved ha (h1 i hi).2⟩, vk_S.moved ha h2, fun i hi => vk_R.warm hW (h3 i hi), va_Z.moved ha h4, va_Zq.moved ha h5, fun q hq => va_Nw.warmF hW (h6 q hq), fun q hq => va_Nw.warmM hW (h7 q hq)⟩
theorem Sta.same {E : GE} {s U : State} {H : Heap} (hv : U.vm = s.vm) (h : Sta E s H) : Sta E U H := by
  obtain ⟨h1, h2, h3, h4, h5, h6, h7⟩ := h
  have ha : s.vm.Alike U.vm := by rw [hv]; exact Vm.Alike.refl s.vm
  exact ⟨fun i hi => ⟨va_Z.moved ha (h1 i hi).1, va_T.moved ha (h1 i hi).2⟩, vk_S.moved ha h2, fun i hi => vk_R.same hv (h3 i hi), va_Z.moved ha h4, va_Zq.moved ha h5, fun q hq => va_Nw.same rfl hv.symm (h6 q hq), fun q hq => va_Nw.same rfl hv.symm (h7 q hq)⟩
theorem Sta.kept {E : GE} {U : State} {H H1 : Heap} (hq : ∀ a : Nat, a < H.size → ¬ AW E a → H1[a]? = H[a]?) (h : Sta E U H) : Sta E U H1 := by
  obtain ⟨h1, h2, h3, h4, h5, h6, h7⟩ := h
  exact ⟨fun i hi => ⟨va_Z.kept (h1 i hi).1 hq, va_T.kept (h1 i hi).2 hq⟩, vk_S.kept h2 hq, h3, va_Z.kept h4 hq, va_Zq.kept h5 hq, h6, h7⟩
def ws (y : MI) : List Cond := .code (mi_nm y) (mi_code y) (mi_maxL y) (mi_ret y) :: gwL
def Pre (E : GE) (M : Mem) (U : State) : Prop := va_P (ge_D E) vwCl (wl E M) U.heap ∧ va_K (ge_D E) vwCl (tysE E) U ∧ Sta E U U.heap ∧ AD E
def QcE (E : GE) (Q : Option Value → Mem → Prop) : Array Value → State → Outcome → State → Prop := fun _ st oc t => (∃ (v : Option Value) (M' : Mem), oc = .returned v ∧ Q v M' ∧ va_P (ge_D E) vwCl (wl E M') t.heap) ∧ va_F (AW E) st t
def Runs (E : GE) (y : MI) (as : List Value) (M : Mem) (Q : Option Value → Mem → Prop) : Prop :=
  Met (ge_l E) (mi_nm y) (ws y) (mi_rm y) (va_Pc as (Pre E M)) (QcE E Q) 0 0 (AW E)
def Cx (E : GE) (y : MI) (p : Program) (s : State) (m : MethodId) (args : Array Value) (meth : Method) (c : Code) : Prop :=
  p.tables.exec = Jvm.exec ∧ c.code = mi_code y ∧ meth.sig.returnType = mi_ret y ∧ c.maxLocals = mi_maxL y ∧ meth.locks = false ∧ s.vm.findClass (mi_nm y).cls = some m.cls ∧ (∀ w ∈ ws y, w.before args s = true) ∧ va_K (ge_D E) vwCl (tysE E) s ∧ Sta E s s.heap ∧ AD E
def Ev (E : GE) (y : MI) (pc : Nat) (lv : List (Nat × Value)) (stk : List Value) (M : Mem) (Q : Option Value → Mem → Prop) : Prop :=
  ∀ (p : Program) (e : Env) (s : State) (m : MethodId) (args : Array Value) (below : List Frame) (meth : Method) (c : Code), Cx E y p s m args meth c → ∀ ls : Array Slot, lv_has ls (mi_maxL y) lv → ∀ (H : Heap) (locs : List Loc), va_P (ge_D E) vwCl (wl E M) H → va_S (AW E) s.heap H locs →
    W p (ge_l E) e (mi_rm y) s m args below meth c H locs 0 0 (MQ below (QcE E Q) args s 0 0 (AW E)) (F0 m pc ls stk)
theorem Runs.ofEv {E : GE} {y : MI} {as : List Value} {M : Mem} {Q : Option Value → Mem → Prop} (hy : plainName (mi_nm y).cls = true) (hn : (lg_sl as).length ≤ mi_maxL y) (h : Ev E y 0 (lv_args 0 as) [] M Q) : Runs E y as M Q := by
  refine Met.ofW (cc := mi_code y) (maxL := mi_maxL y) (ret := mi_ret y) (ws' := gwL) hy rfl ?_
  intro p e s m args below meth c s₁ B hml hv
  obtain ⟨rfl, hP, hK, hSt, hAD⟩ := hv
  have hl := lv_entry as hn
  rw [lg_entry_eq]
  exact h p e s m _ below meth c ⟨B.exec, B.bytes, B.returns, hml, B.notSynchronized, findClass_of_methodNamed B.named, atoms_spec (ws := ws y) B.pre, hK, hSt, hAD⟩ _ hl s.heap [] hP va_S.rf
