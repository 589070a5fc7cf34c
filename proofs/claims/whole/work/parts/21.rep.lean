theorem RepC.tub {M : Mem} {k : Nat} {S : Sv} (h : RepC M k S) (j v : Nat) : RepC (up M (k + 1) j (nI v)) k (setS S 1 j v) := by
  obtain ⟨h1, h2, h3, h4, h5, h6, h7⟩ := h
  refine ⟨?_, ?_, ?_, fun i hi => ?_, fun i hi => ?_, fun i hi => ?_, fun i hi => ?_⟩ <;> grind [up_at, setS]
theorem RepM.tub {M : Mem} {p : Nat} {S : Sv} (h : RepM M p S) {t w : Nat} (ht : t < S 0 0) (h4 : S 0 0 ≤ 4) (hw : w < 5) (h16 : S 0 1 ≤ 4) (v : Nat) : RepM (up M 55 (p + 4 * w + t) (nI v)) p (setS S 1 (5 * t + w) v) := by
  obtain ⟨h1, h2, h3, h4, h5, h6, h7⟩ := h
  refine ⟨?_, ?_, ?_, fun i i2 hi hi2 => ?_, fun i hi => ?_, fun i hi => ?_, fun i hi => ?_⟩ <;> grind [up_at, setS]
theorem RepC.heirU {M : Mem} {k : Nat} {S : Sv} (h : RepC M k S) (j v : Nat) : RepC (up M (k + 2) j (nI v)) k (setS S 2 j v) := by
  obtain ⟨h1, h2, h3, h4, h5, h6, h7⟩ := h
  refine ⟨?_, ?_, ?_, fun i hi => ?_, fun i hi => ?_, fun i hi => ?_, fun i hi => ?_⟩ <;> grind [up_at, setS]
theorem RepM.heirU {M : Mem} {p : Nat} {S : Sv} (h : RepM M p S) (w0 : S 0 0 ≤ 4) (w1 : S 0 1 ≤ 4) {j : Nat} (hj : j < 16) (v : Nat) : RepM (up M 55 (p + 21 + j) (nI v)) p (setS S 2 j v) := by
  obtain ⟨h1, h2, h3, h4, h5, h6, h7⟩ := h
  refine ⟨?_, ?_, ?_, fun i i2 hi hi2 => ?_, fun i hi => ?_, fun i hi => ?_, fun i hi => ?_⟩ <;> grind [up_at, setS]
theorem RepC.curU {M : Mem} {k : Nat} {S : Sv} (h : RepC M k S) (j v : Nat) : RepC (up M (k + 3) j (nI v)) k (setS S 3 j v) := by
  obtain ⟨h1, h2, h3, h4, h5, h6, h7⟩ := h
  refine ⟨?_, ?_, ?_, fun i hi => ?_, fun i hi => ?_, fun i hi => ?_, fun i hi => ?_⟩ <;> grind [up_at, setS]
theorem RepM.curU {M : Mem} {p : Nat} {S : Sv} (h : RepM M p S) (w0 : S 0 0 ≤ 4) (w1 : S 0 1 ≤ 4) {j : Nat} (hj : j < 10) (v : Nat) : RepM (up M 55 (p + 37 + j) (iI ((v : Int) - 2))) p (setS S 3 j v) := by
  obtain ⟨h1, h2, h3, h4, h5, h6, h7⟩ := h
  refine ⟨?_, ?_, ?_, fun i i2 hi hi2 => ?_, fun i hi => ?_, fun i hi => ?_, fun i hi => ?_⟩ <;> grind [up_at, setS]
theorem RepC.windU {M : Mem} {k : Nat} {S : Sv} (h : RepC M k S) (j v : Nat) : RepC (up M (k + 4) j (nI v)) k (setS S 4 j v) := by
  obtain ⟨h1, h2, h3, h4, h5, h6, h7⟩ := h
  refine ⟨?_, ?_, ?_, fun i hi => ?_, fun i hi => ?_, fun i hi => ?_, fun i hi => ?_⟩ <;> grind [up_at, setS]
theorem RepM.windU {M : Mem} {p : Nat} {S : Sv} (h : RepM M p S) (w0 : S 0 0 ≤ 4) (w1 : S 0 1 ≤ 4) {j : Nat} (hj : j < 24) (v : Nat) : RepM (up M 55 (p + 47 + j) (nI v)) p (setS S 4 j v) := by
  obtain ⟨h1, h2, h3, h4, h5, h6, h7⟩ := h
  refine ⟨?_, ?_, ?_, fun i i2 hi hi2 => ?_, fun i hi => ?_, fun i hi => ?_, fun i hi => ?_⟩ <;> grind [up_at, setS]
theorem RepC.phaseU {M : Mem} {k : Nat} {S : Sv} (h : RepC M k S) (v : Nat) : RepC (up M k 6 (nI v)) k (setS S 0 2 v) := by
  obtain ⟨h1, h2, h3, h4, h5, h6, h7⟩ := h
  refine ⟨?_, ?_, ?_, fun i hi => ?_, fun i hi => ?_, fun i hi => ?_, fun i hi => ?_⟩ <;> grind [up_at, setS]
theorem RepM.phaseU {M : Mem} {p : Nat} {S : Sv} (h : RepM M p S) (w0 : S 0 0 ≤ 4) (w1 : S 0 1 ≤ 4) (v : Nat) : RepM (up M 55 (p + 71) (nI v)) p (setS S 0 2 v) := by
  obtain ⟨h1, h2, h3, h4, h5, h6, h7⟩ := h
  refine ⟨?_, ?_, ?_, fun i i2 hi hi2 => ?_, fun i hi => ?_, fun i hi => ?_, fun i hi => ?_⟩ <;> grind [up_at, setS]
theorem RepC.cntU {M : Mem} {k : Nat} {S : Sv} (h : RepC M k S) (v : Nat) (hv : v ≤ S 0 0) : RepC (up M k 4 (nI v)) k (setS S 0 0 v) := by
  obtain ⟨h1, h2, h3, h4, h5, h6, h7⟩ := h
  refine ⟨?_, ?_, ?_, fun i hi => ?_, fun i hi => ?_, fun i hi => ?_, fun i hi => ?_⟩ <;> grind [up_at, setS]
theorem RepM.cntU {M : Mem} {p : Nat} {S : Sv} (h : RepM M p S) (w0 : S 0 0 ≤ 4) (w1 : S 0 1 ≤ 4) (v : Nat) (hv : v ≤ S 0 0) : RepM (up M 55 (p + 20) (nI v)) p (setS S 0 0 v) := by
  obtain ⟨h1, h2, h3, h4, h5, h6, h7⟩ := h
  refine ⟨?_, ?_, ?_, fun i i2 hi hi2 => ?_, fun i hi => ?_, fun i hi => ?_, fun i hi => ?_⟩ <;> grind [up_at, setS]
/-! well-formed -/
def okT (w v : Nat) : Prop := (w = 0 → v < 4) ∧ (w = 1 → v < 10) ∧ (w = 2 → 1 ≤ v ∧ v < 10) ∧ (w = 3 → v < 24) ∧ (w = 4 → 1 ≤ v ∧ v < 100)
theorem WF.tub {S : Sv} (h : WF S) {t w v : Nat} (hw : w < 5) (hv : okT w v) : WF (setS S 1 (5 * t + w) v) := by
  obtain ⟨h1, h2, h3, h4, h5, h6, h7⟩ := h
  obtain ⟨v0, v1, v2, v3, v4⟩ := hv
  refine ⟨?_, ?_, ?_, fun i hi => ?_, fun i hi => ?_, fun i hi => ?_, fun i hi => ?_⟩
  · grind [setS]
  · grind [setS]
  · grind [setS]
  · have hi' : i < S 0 0 := by simpa [setS] using hi
    have := h4 i hi'
    refine ⟨?_, ?_, ?_, ?_, ?_, ?_, ?_⟩ <;> grind [setS]
  · have hi' : i < S 0 1 := by simpa [setS] using hi
    have := h5 i hi'
    refine ⟨?_, ?_, ?_, ?_⟩ <;> grind [setS]
  · grind [setS]
  · grind [setS]
theorem WF.cur {S : Sv} (h : WF S) {r v : Nat} (hv : v < 5) : WF (setS S 3 r v) := by
  obtain ⟨h1, h2, h3, h4, h5, h6, h7⟩ := h
  exact ⟨h1, h2, h3, h4, h5, fun i hi => by grind [setS], h7⟩
theorem WF.wind {S : Sv} (h : WF S) {r v : Nat} (hv : v < 5) : WF (setS S 4 r v) := by
  obtain ⟨h1, h2, h3, h4, h5, h6, h7⟩ := h
  exact ⟨h1, h2, h3, h4, h5, h6, fun i hi => by grind [setS]⟩
theorem WF.phase {S : Sv} (h : WF S) {v : Nat} (hv : v < 6) : WF (setS S 0 2 v) := by
  obtain ⟨h1, h2, h3, h4, h5, h6, h7⟩ := h
  exact ⟨h1, h2, by simpa [setS] using hv, h4, h5, h6, h7⟩
theorem WF.cnt {S : Sv} (h : WF S) {v : Nat} (hv : v ≤ S 0 0) : WF (setS S 0 0 v) := by
  obtain ⟨h1, h2, h3, h4, h5, h6, h7⟩ := h
  exact ⟨by simp [setS]; omega, h2, h3, fun i hi => h4 i (by simp [setS] at hi; omega), h5, h6, h7⟩
/-! reads -/
theorem isTubC {M : Mem} {k : Nat} {S : Sv} (h : RepC M k S) (hw : S 0 0 ≤ 4) (a : Int32) : f_X2_isTub k a M = some (b2 (0 ≤ a.toInt ∧ a.toInt < S 0 0)) := by
  unfold f_X2_isTub b2
  rw [h.1]
  by_cases h1 : a < 0
  · rw [if_pos h1, if_neg]
    rw [Int32.lt_iff_toInt_lt] at h1
    have : (0 : Int32).toInt = 0 := by decide
    omega
  · rw [if_neg h1]
    rw [Int32.lt_iff_toInt_lt] at h1
    have e0 : (0 : Int32).toInt = 0 := by decide
    by_cases h2 : nI (S 0 0) ≤ a
    · rw [if_pos h2, if_neg]
      rw [Int32.le_iff_toInt_le, nI_toInt (by omega)] at h2
      omega
    · rw [if_neg h2, if_pos]
      rw [Int32.le_iff_toInt_le, nI_toInt (by omega)] at h2
      omega
theorem isHeirC {M : Mem} {k : Nat} {S : Sv} (h : RepC M k S) (hw : S 0 1 ≤ 4) (a : Int32) : f_X2_isHeir k a M = some (b2 (0 ≤ a.toInt ∧ a.toInt < S 0 1)) := by
  unfold f_X2_isHeir b2
  rw [h.2.1]
  by_cases h1 : a < 0
  · rw [if_pos h1, if_neg]
    rw [Int32.lt_iff_toInt_lt] at h1
    have : (0 : Int32).toInt = 0 := by decide
    omega
  · rw [if_neg h1]
    rw [Int32.lt_iff_toInt_lt] at h1
    have e0 : (0 : Int32).toInt = 0 := by decide
    by_cases h2 : nI (S 0 1) ≤ a
    · rw [if_pos h2, if_neg]
      rw [Int32.le_iff_toInt_le, nI_toInt (by omega)] at h2
      omega
    · rw [if_neg h2, if_pos]
      rw [Int32.le_iff_toInt_le, nI_toInt (by omega)] at h2
      omega
theorem rd_lit {α : Type} {f : Nat → Int32} {n : Nat} {k : Int32 → Option α} (j : Nat) (h : j < n) (hn : n < 2 ^ 31) : rd f n (@OfNat.ofNat Int32 j Int32.instOfNat) k = k (f j) := rd_ok (j := j) h hn
theorem inb_lit {α : Type} {n : Nat} {x : Option α} (j : Nat) (h : j < n) (hn : n < 2 ^ 31) : inb (@OfNat.ofNat Int32 j Int32.instOfNat) n x = x := inb_ok (j := j) h hn
theorem b2_congr {p q : Prop} [Decidable p] [Decidable q] (h : p ↔ q) : b2 p = b2 q := by
  unfold b2
  by_cases hp : p
  · rw [if_pos hp, if_pos (h.mp hp)]
  · rw [if_neg hp, if_neg (fun z => hp (h.mpr z))]
theorem pred_toInt {n : Nat} (h : n < 1000) : (nI n - 1).toInt64.toInt = (n : Int) - 1 := by
  rw [Int32.toInt_toInt64, show (1 : Int32) = iI 1 from rfl, ← iI_nI, iI_sub, iI_toInt (by omega) (by omega)]
theorem isTubM {M : Mem} {S : Sv} (h : RepM M 0 S) (hw : S 0 0 ≤ 4) (a : Int32) : f_X6_isTub a M = some (b2 (0 ≤ a.toInt ∧ a.toInt < S 0 0)) := by
  unfold f_X6_isTub
  rw [rd_lit 20 (by omega) (by omega), show M 55 20 = nI (S 0 0) from h.1, in_eq]
  simp only [Option.bind_some]
  rw [ck_b2, pred_toInt (by omega), lit64T 0 (by omega)]
  exact congrArg some (b2_congr (by omega))
theorem isHeirM {M : Mem} {p : Nat} {S : Sv} (h : RepM M p S) (hw : S 0 1 ≤ 4) (a : Int32) : f_X6_isHeir a M = some (b2 (0 ≤ a.toInt ∧ a.toInt < S 0 1)) := by
  unfold f_X6_isHeir
  rw [h.2.1, in_eq]
  simp only [Option.bind_some]
  rw [ck_b2, pred_toInt (by omega), lit64T 0 (by omega)]
  exact congrArg some (b2_congr (by omega))
theorem isHourM {M : Mem} (a : Int32) : f_X6_isHour a M = some (b2 (0 ≤ a.toInt ∧ a.toInt ≤ 23)) := by
  unfold f_X6_isHour
  rw [in_eq]
  simp only [Option.bind_some]
  rw [ck_b2, lit64T 0 (by omega), lit64T 23 (by omega)]
  rfl
theorem ofTubC {M : Mem} {k t w : Nat} {S : Sv} (h : RepC M k S) (hw : S 0 0 ≤ 4) (ht : t < S 0 0) (h5 : w < 5) : f_X2_ofTub k (nI t) (nI w) M = some (nI (S 1 (5 * t + w))) := by
  unfold f_X2_ofTub
  rw [show (5 : Int32) = nI 5 from rfl, nI_mulN, nI_add, rd_ok (by omega) (by omega), h.2.2.2.1 _ (by omega)]
theorem ofHeirC {M : Mem} {k i w : Nat} {S : Sv} (h : RepC M k S) (hw : S 0 1 ≤ 4) (ht : i < S 0 1) (h5 : w < 4) : f_X2_ofHeir k (nI i) (nI w) M = some (nI (S 2 (4 * i + w))) := by
  unfold f_X2_ofHeir
  rw [show (4 : Int32) = nI 4 from rfl, nI_mulN, nI_add, rd_ok (by omega) (by omega), h.2.2.2.2.1 _ (by omega)]
theorem putTubC {M : Mem} {k t w v : Nat} (ht : t < 4) (h5 : w < 5) : f_X2_putTub k (nI t) (nI w) (nI v) M = some (up M (k + 1) (5 * t + w) (nI v)) := by
  unfold f_X2_putTub
  rw [show (5 : Int32) = nI 5 from rfl, nI_mulN, nI_add, inb_ok (by omega) (by omega)]
  simp only [lm]
  rw [nI_clamp (by omega)]
theorem putHeirC {M : Mem} {k t w v : Nat} (ht : t < 4) (h5 : w < 4) : f_X2_putHeir k (nI t) (nI w) (nI v) M = some (up M (k + 2) (4 * t + w) (nI v)) := by
  unfold f_X2_putHeir
  rw [show (4 : Int32) = nI 4 from rfl, nI_mulN, nI_add, inb_ok (by omega) (by omega)]
  simp only [lm]
  rw [nI_clamp (by omega)]
theorem moveTubC {M : Mem} {k t x y : Nat} (ht : t < 4) : f_X2_moveTub k (nI t) (nI x) (nI y) M = some (up (up M (k + 1) (5 * t + 1) (nI x)) (k + 1) (5 * t + 2) (nI y)) := by
  unfold f_X2_moveTub
  have h1 := putTubC (M := M) (k := k) (t := t) (w := 1) (v := x) ht (by omega)
  rw [show (1 : Int32) = nI 1 from rfl, h1]
  simp only [Option.bind_some]
  have h2 := putTubC (M := up M (k + 1) (5 * t + 1) (nI x)) (k := k) (t := t) (w := 2) (v := y) ht (by omega)
  rw [show (2 : Int32) = nI 2 from rfl, h2]
  simp only [Option.bind_some]
def tlo (w : Nat) : Nat := if w = 2 ∨ w = 4 then 1 else 0
def thi (w : Nat) : Nat := if w = 0 then 3 else if w < 3 then 9 else if w = 3 then 23 else 99
theorem fitsTubC {M : Mem} {w : Nat} (hw : w < 5) (b : Int32) : f_X5_fitsTub (nI w) b M = some (b2 ((tlo w : Int) ≤ b.toInt ∧ b.toInt ≤ (thi w : Int))) := by
  unfold f_X5_fitsTub
  rw [within_eq]
  simp only [Option.bind_some]
  have e0 : (0 : Int32).toInt = 0 := by decide
  have e4 : (4 : Int32).toInt = 4 := by decide
  rw [if_neg (by rw [b2_0, nI_toInt (by omega)]; omega), rd_ok (by omega) (by omega), rd_ok (by omega) (by omega), within_eq]
  simp only [Option.bind_some]
  have e1 : (tbV 0 w).toInt = tlo w := by
    match w, hw with
    | 0, _ => decide
    | 1, _ => decide
    | 2, _ => decide
    | 3, _ => decide
    | 4, _ => decide
    | w + 5, h => omega
  have e2 : (tbV 1 w).toInt = thi w := by
    match w, hw with
    | 0, _ => decide
    | 1, _ => decide
    | 2, _ => decide
    | 3, _ => decide
    | 4, _ => decide
    | w + 5, h => omega
  rw [e1, e2]
  by_cases h : (tlo w : Int) ≤ b.toInt ∧ b.toInt ≤ (thi w : Int)
  · rw [b2_t h, if_neg (by decide)]
  · rw [b2_f h, if_pos rfl]
theorem fitsTub_out {M : Mem} {a b : Int32} (h : ¬ (0 ≤ a.toInt ∧ a.toInt ≤ 4)) : f_X5_fitsTub a b M = some 0 := by
  unfold f_X5_fitsTub
  rw [within_eq]
  simp only [Option.bind_some]
  have e0 : (0 : Int32).toInt = 0 := by decide
  have e4 : (4 : Int32).toInt = 4 := by decide
  rw [if_pos (by rw [b2_0, e0, e4]; exact h)]
def hhi (w : Nat) : Nat := if w = 0 then 9 else if w = 3 then 9 else 23
theorem fitsHeirC {M : Mem} {w : Nat} (hw : w < 4) (b : Int32) : f_X5_fitsHeir (nI w) b M = some (b2 (0 ≤ b.toInt ∧ b.toInt ≤ (hhi w : Int))) := by
  unfold f_X5_fitsHeir
  rw [within_eq]
  simp only [Option.bind_some]
  have e0 : (0 : Int32).toInt = 0 := by decide
  have e4 : (3 : Int32).toInt = 3 := by decide
  rw [if_neg (by rw [b2_0, nI_toInt (by omega)]; omega), rd_ok (by omega) (by omega), within_eq]
  simp only [Option.bind_some]
  have e1 : (tbV 2 w).toInt = hhi w := by
    match w, hw with
    | 0, _ => decide
    | 1, _ => decide
    | 2, _ => decide
    | 3, _ => decide
    | w + 4, h => omega
  rw [e1, e0]
  by_cases h : 0 ≤ b.toInt ∧ b.toInt ≤ (hhi w : Int)
  · rw [b2_t h, if_neg (by decide)]
  · rw [b2_f h, if_pos rfl]
theorem fitsHeir_out {M : Mem} {a b : Int32} (h : ¬ (0 ≤ a.toInt ∧ a.toInt ≤ 3)) : f_X5_fitsHeir a b M = some 0 := by
  unfold f_X5_fitsHeir
  rw [within_eq]
  simp only [Option.bind_some]
  have e0 : (0 : Int32).toInt = 0 := by decide
  have e4 : (3 : Int32).toInt = 3 := by decide
  rw [if_pos (by rw [b2_0, e0, e4]; exact h)]
