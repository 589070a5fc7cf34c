/-! what is told: a tub more, an heir more -/
def addK (S : Sv) (k x y s e : Nat) : Sv := fun g j =>
  if g = 0 ∧ j = 0 then S 0 0 + 1 else if g = 1 ∧ j = 5 * S 0 0 then k else if g = 1 ∧ j = 5 * S 0 0 + 1 then x else if g = 1 ∧ j = 5 * S 0 0 + 2 then y else if g = 1 ∧ j = 5 * S 0 0 + 3 then s else if g = 1 ∧ j = 5 * S 0 0 + 4 then e else S g j
def addH (S : Sv) (x y s e : Nat) : Sv := fun g j =>
  if g = 0 ∧ j = 1 then S 0 1 + 1 else if g = 2 ∧ j = 4 * S 0 1 then x else if g = 2 ∧ j = 4 * S 0 1 + 1 then y else if g = 2 ∧ j = 4 * S 0 1 + 2 then s else if g = 2 ∧ j = 4 * S 0 1 + 3 then e else S g j
def RepP (M : Mem) (S : Sv) : Prop := M 57 20 = nI (S 0 0) ∧ M 54 4 = nI (S 0 1) ∧ M 57 71 = nI (S 0 2) ∧
  (∀ t w, t < S 0 0 → w < 5 → M 57 (4 * w + t) = nI (S 1 (5 * t + w))) ∧ (∀ j, j < 4 * S 0 1 → M 57 (21 + j) = nI (S 2 j)) ∧ (∀ r, r < 10 → M 57 (37 + r) = iI ((S 3 r : Int) - 2)) ∧ ∀ h, h < 24 → M 57 (47 + h) = nI (S 4 h)
theorem wf_addK {S : Sv} (h : WF S) (hn : S 0 0 < 4) {k x y s e : Nat} (hk : k ≤ 3) (hx : x ≤ 9) (hy1 : 1 ≤ y) (hy : y ≤ 9) (hs : s ≤ 23) (he1 : 1 ≤ e) (he : e ≤ 99) : WF (addK S k x y s e) := by
  obtain ⟨a1, a2, a3, a4, a5, a6, a7⟩ := h
  refine ⟨?_, ?_, ?_, fun t ht => ?_, fun t ht => ?_, fun t ht => ?_, fun t ht => ?_⟩
  · grind [addK]
  · grind [addK]
  · grind [addK]
  · have ht' : t < S 0 0 + 1 := ht
    by_cases q : t = S 0 0
    · subst q
      refine ⟨?_, ?_, ?_, ?_, ?_, ?_, ?_⟩ <;> grind [addK]
    · have := a4 t (by omega)
      refine ⟨?_, ?_, ?_, ?_, ?_, ?_, ?_⟩ <;> grind [addK]
  · have ht' : t < S 0 1 := ht
    have := a5 t ht'
    refine ⟨?_, ?_, ?_, ?_⟩ <;> grind [addK]
  · grind [addK]
  · grind [addK]
theorem wf_addH {S : Sv} (h : WF S) (hn : S 0 1 < 4) {x y s e : Nat} (hx : x ≤ 9) (hy : y ≤ s) (hs : s ≤ 23) (he : e ≤ 9) : WF (addH S x y s e) := by
  obtain ⟨a1, a2, a3, a4, a5, a6, a7⟩ := h
  refine ⟨?_, ?_, ?_, fun t ht => ?_, fun t ht => ?_, fun t ht => ?_, fun t ht => ?_⟩
  · grind [addH]
  · grind [addH]
  · grind [addH]
  · have ht' : t < S 0 0 := ht
    have := a4 t ht'
    refine ⟨?_, ?_, ?_, ?_, ?_, ?_, ?_⟩ <;> grind [addH]
  · have ht' : t < S 0 1 + 1 := ht
    by_cases q : t = S 0 1
    · subst q
      refine ⟨?_, ?_, ?_, ?_⟩ <;> grind [addH]
    · have := a5 t (by omega)
      refine ⟨?_, ?_, ?_, ?_⟩ <;> grind [addH]
  · grind [addH]
  · grind [addH]
theorem repC_addK {M M1 : Mem} {S : Sv} {k x y s e : Nat} (h : RepC M 4 S) (e0 : M1 4 4 = nI (S 0 0 + 1)) (e1 : M1 5 (5 * S 0 0) = nI k) (e2 : M1 5 (5 * S 0 0 + 1) = nI x) (e3 : M1 5 (5 * S 0 0 + 2) = nI y) (e4 : M1 5 (5 * S 0 0 + 3) = nI s) (e5 : M1 5 (5 * S 0 0 + 4) = nI e) (hf : ∀ c j, 4 ≤ c → c ≤ 8 → ¬ (c = 4 ∧ j = 4) → ¬ (c = 5 ∧ 5 * S 0 0 ≤ j) → M1 c j = M c j) : RepC M1 4 (addK S k x y s e) := by
  obtain ⟨h1, h2, h3, h4, h5, h6, h7⟩ := h
  refine ⟨e0, ?_, ?_, fun j hj => ?_, fun j hj => ?_, fun j hj => ?_, fun j hj => ?_⟩
  · rw [hf 4 5 (by omega) (by omega) (by omega) (by omega), h2]; rfl
  · rw [hf 4 6 (by omega) (by omega) (by omega) (by omega), h3]; rfl
  · have hj' : j < 5 * (S 0 0 + 1) := hj
    by_cases q : j < 5 * S 0 0
    · rw [hf 5 j (by omega) (by omega) (by omega) (by omega), h4 j q]
      grind [addK]
    · have : j = 5 * S 0 0 ∨ j = 5 * S 0 0 + 1 ∨ j = 5 * S 0 0 + 2 ∨ j = 5 * S 0 0 + 3 ∨ j = 5 * S 0 0 + 4 := by omega
      rcases this with rfl | rfl | rfl | rfl | rfl <;> grind [addK]
  · have hj' : j < 4 * S 0 1 := hj
    rw [hf 6 j (by omega) (by omega) (by omega) (by omega), h5 j hj']; rfl
  · rw [hf 7 j (by omega) (by omega) (by omega) (by omega), h6 j hj]; rfl
  · rw [hf 8 j (by omega) (by omega) (by omega) (by omega), h7 j hj]; rfl
theorem repC_addH {M M1 : Mem} {S : Sv} {x y s e : Nat} (h : RepC M 4 S) (e0 : M1 4 5 = nI (S 0 1 + 1)) (e1 : M1 6 (4 * S 0 1) = nI x) (e2 : M1 6 (4 * S 0 1 + 1) = nI y) (e3 : M1 6 (4 * S 0 1 + 2) = nI s) (e4 : M1 6 (4 * S 0 1 + 3) = nI e) (hf : ∀ c j, 4 ≤ c → c ≤ 8 → ¬ (c = 4 ∧ j = 5) → ¬ (c = 6 ∧ 4 * S 0 1 ≤ j) → M1 c j = M c j) : RepC M1 4 (addH S x y s e) := by
  obtain ⟨h1, h2, h3, h4, h5, h6, h7⟩ := h
  refine ⟨?_, e0, ?_, fun j hj => ?_, fun j hj => ?_, fun j hj => ?_, fun j hj => ?_⟩
  · rw [hf 4 4 (by omega) (by omega) (by omega) (by omega), h1]; rfl
  · rw [hf 4 6 (by omega) (by omega) (by omega) (by omega), h3]; rfl
  · have hj' : j < 5 * S 0 0 := hj
    rw [hf 5 j (by omega) (by omega) (by omega) (by omega), h4 j hj']; rfl
  · have hj' : j < 4 * (S 0 1 + 1) := hj
    by_cases q : j < 4 * S 0 1
    · rw [hf 6 j (by omega) (by omega) (by omega) (by omega), h5 j q]
      grind [addH]
    · have : j = 4 * S 0 1 ∨ j = 4 * S 0 1 + 1 ∨ j = 4 * S 0 1 + 2 ∨ j = 4 * S 0 1 + 3 := by omega
      rcases this with rfl | rfl | rfl | rfl <;> grind [addH]
  · rw [hf 7 j (by omega) (by omega) (by omega) (by omega), h6 j hj]; rfl
  · rw [hf 8 j (by omega) (by omega) (by omega) (by omega), h7 j hj]; rfl
theorem repP_addK {M M1 : Mem} {S : Sv} {k x y s e : Nat} (h : RepP M S) (hn : S 0 0 < 4) (hn1 : S 0 1 ≤ 4) (e0 : M1 57 20 = nI (S 0 0 + 1)) (e1 : M1 57 (S 0 0) = nI k) (e2 : M1 57 (4 + S 0 0) = nI x) (e3 : M1 57 (8 + S 0 0) = nI y) (e4 : M1 57 (12 + S 0 0) = nI s) (e5 : M1 57 (16 + S 0 0) = nI e) (hh : M1 54 4 = M 54 4) (hf : ∀ j, j ≠ 20 → j ≠ S 0 0 → j ≠ 4 + S 0 0 → j ≠ 8 + S 0 0 → j ≠ 12 + S 0 0 → j ≠ 16 + S 0 0 → M1 57 j = M 57 j) : RepP M1 (addK S k x y s e) := by
  obtain ⟨h1, h2, h3, h4, h5, h6, h7⟩ := h
  refine ⟨e0, ?_, ?_, fun t w ht hw => ?_, fun j hj => ?_, fun j hj => ?_, fun j hj => ?_⟩
  · rw [hh, h2]; rfl
  · rw [hf 71 (by omega) (by omega) (by omega) (by omega) (by omega) (by omega), h3]; rfl
  · have ht' : t < S 0 0 + 1 := ht
    by_cases q : t = S 0 0
    · have : w = 0 ∨ w = 1 ∨ w = 2 ∨ w = 3 ∨ w = 4 := by omega
      subst q
      rcases this with rfl | rfl | rfl | rfl | rfl <;> grind [addK]
    · rw [hf _ (by omega) (by omega) (by omega) (by omega) (by omega) (by omega), h4 t w (by omega) hw]
      grind [addK]
  · have hj' : j < 4 * S 0 1 := hj
    rw [hf _ (by omega) (by omega) (by omega) (by omega) (by omega) (by omega), h5 j hj']; rfl
  · rw [hf _ (by omega) (by omega) (by omega) (by omega) (by omega) (by omega), h6 j hj]; rfl
  · rw [hf _ (by omega) (by omega) (by omega) (by omega) (by omega) (by omega), h7 j hj]; rfl
theorem repP_addH {M M1 : Mem} {S : Sv} {x y s e : Nat} (h : RepP M S) (hn : S 0 0 ≤ 4) (hn1 : S 0 1 < 4) (e0 : M1 54 4 = nI (S 0 1 + 1)) (e1 : M1 57 (21 + 4 * S 0 1) = nI x) (e2 : M1 57 (21 + 4 * S 0 1 + 1) = nI y) (e3 : M1 57 (21 + 4 * S 0 1 + 2) = nI s) (e4 : M1 57 (21 + 4 * S 0 1 + 3) = nI e) (hf : ∀ j, (j < 21 + 4 * S 0 1 ∨ 21 + 4 * S 0 1 + 3 < j) → M1 57 j = M 57 j) : RepP M1 (addH S x y s e) := by
  obtain ⟨h1, h2, h3, h4, h5, h6, h7⟩ := h
  refine ⟨?_, e0, ?_, fun t w ht hw => ?_, fun j hj => ?_, fun j hj => ?_, fun j hj => ?_⟩
  · rw [hf 20 (by omega), h1]; rfl
  · rw [hf 71 (by omega), h3]; rfl
  · have ht' : t < S 0 0 := ht
    rw [hf _ (by omega), h4 t w ht' hw]; rfl
  · have hj' : j < 4 * (S 0 1 + 1) := hj
    by_cases q : j < 4 * S 0 1
    · rw [hf _ (by omega), h5 j q]
      grind [addH]
    · have : j = 4 * S 0 1 ∨ j = 4 * S 0 1 + 1 ∨ j = 4 * S 0 1 + 2 ∨ j = 4 * S 0 1 + 3 := by omega
      rcases this with rfl | rfl | rfl | rfl <;> grind [addH]
  · rw [hf _ (by omega), h6 j hj]; rfl
  · rw [hf _ (by omega), h7 j hj]; rfl
/-! what else is told, and the frames of a line -/
abbrev PI : Type := Sv × Nat × Nat × Nat
def PW (I : PI) : Prop := WF I.1 ∧ I.2.1 < 2 ^ 10 ∧ I.2.2.1 < 2 ^ 24 ∧ I.2.2.2 ≤ 1
def PCi (M : Mem) (I : PI) : Prop := RepC M 4 I.1 ∧ M 1 4 = nI I.2.1 ∧ M 1 5 = nI I.2.2.1 ∧ M 1 6 = nI I.2.2.2
def PMi (M : Mem) (I : PI) : Prop := RepP M I.1 ∧ M 54 5 = nI I.2.1 ∧ M 54 6 = nI I.2.2.1 ∧ M 54 7 = nI I.2.2.2
def LnC (c j : Nat) : Prop := (c = 2 ∧ 2 ≤ j ∧ j ≤ 5) ∨ (c = 1 ∧ 2 ≤ j) ∨ (4 ≤ c ∧ c ≤ 8)
def LnM (c j : Nat) : Prop := c = 57 ∨ (c = 54 ∧ (4 ≤ j ∧ j ≤ 7 ∨ 11 ≤ j ∧ j ≤ 16))
theorem RnF_LnC {c j : Nat} (h : RnF c j) : LnC c j := by unfold RnF at h; unfold LnC; omega
theorem StF_LnM {c j : Nat} (h : StF c j) : LnM c j := by unfold StF at h; unfold LnM; omega
theorem TpC.ln {M M1 : Mem} {b : Nat → Nat} {n : Nat} (h : TpC M b n) (hf : Fr LnC M M1) : TpC M1 b n := h.fr hf (by unfold LnC; omega) (fun j => by unfold LnC; omega)
theorem TpM.ln {M M1 : Mem} {b : Nat → Nat} {n : Nat} (h : TpM M b n) (hf : Fr LnM M M1) : TpM M1 b n := h.fr hf (by unfold LnM; omega) (fun j => by unfold LnM; omega)
theorem CS.ln {M M1 : Mem} {st : PSt} {X : Nat → Nat → Prop} (h : CS M st) (hf : Fr X M M1) (h1 : ¬ X 1 2) (h2 : ¬ X 1 3) (h3 : ¬ X 2 2) : CS M1 st := by
  cases st with
  | inl p => exact ⟨by rw [hf _ _ h1, h.1], by rw [hf _ _ h3, h.2]⟩
  | inr e => exact ⟨by rw [hf _ _ h1, h.1], by rw [hf _ _ h2, h.2]⟩
theorem MP.ln {M M1 : Mem} {b : Nat → Nat} {n : Nat} {st : PSt} {X : Nat → Nat → Prop} (h : MP M b n st) (hf : Fr X M M1) (hx : ∀ j, 11 ≤ j → j ≤ 16 → ¬ X 54 j) : MP M1 b n st := by
  cases st with
  | inl p =>
    obtain ⟨a, c⟩ := h
    refine ⟨fun z => ?_, fun z => ?_⟩
    · obtain ⟨a1, a2⟩ := a z
      exact ⟨by rw [hf _ _ (hx _ (by omega) (by omega)), a1], by rw [hf _ _ (hx _ (by omega) (by omega)), a2]⟩
    · obtain ⟨c1, c2, c3, c4, c5⟩ := c z
      exact ⟨by rw [hf _ _ (hx _ (by omega) (by omega)), c1], by rw [hf _ _ (hx _ (by omega) (by omega)), c2], by rw [hf _ _ (hx _ (by omega) (by omega)), c3], by rw [hf _ _ (hx _ (by omega) (by omega)), c4], fun y => by rw [hf _ _ (hx _ (by omega) (by omega)), c5 y]⟩
  | inr e => exact ⟨by rw [hf _ _ (hx _ (by omega) (by omega)), h.1], by rw [hf _ _ (hx _ (by omega) (by omega)), h.2]⟩
/-! the class reads a tub -/
theorem tb0_is {w : Nat} (h : w < 5) : tbV 0 w = nI (tlo w) ∧ tbV 1 w = nI (thi w) := by
  have k : ∀ x : Fin 5, tbV 0 x.val = nI (tlo x.val) ∧ tbV 1 x.val = nI (thi x.val) := by decide
  exact k ⟨w, h⟩
theorem tb2_is {w : Nat} (h : w < 4) : tbV 2 w = nI (hhi w) := by
  have k : ∀ x : Fin 4, tbV 2 x.val = nI (hhi x.val) := by decide
  exact k ⟨w, h⟩
theorem tub44_s {k : Int32} {g t i : Nat} {M : Mem} (h1 : 1 ≤ i) (h4 : i ≤ 4) : f_X1_readTub_44 k (g + 1) (nI t) (nI i) M = (f_X1_readNumber (nI (tlo i)) (nI (thi i)) M).bind fun r6 => (f_X2_putTub 4 (nI t) (nI i) r6.1 r6.2).bind fun r7 => f_X1_readTub_44 k g (nI t) (nI (i + 1)) r7 := by
  conv => lhs; unfold f_X1_readTub_44
  rw [if_neg (fun z => absurd ((lit_lt 4 (by omega) (by omega)).mp z) (by omega)), rd_ok (by omega) (by omega), rd_ok (by omega) (by omega), (tb0_is (by omega)).1, (tb0_is (by omega)).2, show nI i + (1 : Int32) = nI (i + 1) by rw [show (1 : Int32) = nI 1 from rfl, nI_add]]
theorem tub44_e {k : Int32} {g t : Nat} {M : Mem} : f_X1_readTub_44 k (g + 1) (nI t) (nI 5) M = some M := by
  unfold f_X1_readTub_44
  rw [if_pos (by decide)]
theorem tubC {M : Mem} {b : Nat → Nat} {n w : Nat} {T : Sv} {rm hm ph : Nat} {st : PSt} (hB : TpB b n) (hT : TpC M b n) (hst : StOK n st) (hS : CS M st) (hI : PCi M (T, rm, hm, ph)) (ht : T 0 0 < 4) : ∃ M1, f_X1_readTub (nI w) M = some M1 ∧ Fr LnC M M1 ∧ CS M1 (numS b n 1 99 0 (numS b n 0 23 0 (numS b n 1 9 0 (numS b n 0 9 0 st).1).1).1).1 ∧ PCi M1 (addK T w (numS b n 0 9 0 st).2 (numS b n 1 9 0 (numS b n 0 9 0 st).1).2 (numS b n 0 23 0 (numS b n 1 9 0 (numS b n 0 9 0 st).1).1).2 (numS b n 1 99 0 (numS b n 0 23 0 (numS b n 1 9 0 (numS b n 0 9 0 st).1).1).1).2, rm, hm, ph) := by
  obtain ⟨hC, i1, i2, i3⟩ := hI
  simp only at hC i1 i2 i3
  obtain ⟨m, hm'⟩ : ∃ m, FU = m + 1 + 1 + 1 + 1 + 1 := ⟨FU - 5, by have := FU_gt (show 5 < 4096 by omega); omega⟩
  have o1 := (numS_s (b := b) (lo := 0) (hi := 9) (m := 0) (q := 0) hst (by cases st <;> simp [posGe])).1
  have o2 := (numS_s (b := b) (lo := 1) (hi := 9) (m := 0) (q := 0) o1 (by cases (numS b n 0 9 0 st).1 <;> simp [posGe])).1
  have o3 := (numS_s (b := b) (lo := 0) (hi := 23) (m := 0) (q := 0) o2 (by cases (numS b n 1 9 0 (numS b n 0 9 0 st).1).1 <;> simp [posGe])).1
  unfold f_X1_readTub
  simp only [li]
  rw [hC.1, if_pos ((lt_lit 4 (by omega) (by omega)).mpr ht)]
  simp only [lm]
  rw [show nI (T 0 0) + (1 : Int32) = nI (T 0 0 + 1) by rw [show (1 : Int32) = nI 1 from rfl, nI_add], putTubC0 ht]
  simp only [Option.bind_some]
  have g0 : Fr (fun c j => (c = 4 ∧ j = 4) ∨ (c = 5 ∧ 5 * T 0 0 ≤ j)) M (up (up M 4 4 (nI (T 0 0 + 1))) (4 + 1) (5 * T 0 0) (nI w)) := (Fr.rfl'.up (by omega)).up (by omega)
  have v0 : (up (up M 4 4 (nI (T 0 0 + 1))) (4 + 1) (5 * T 0 0) (nI w)) 4 4 = nI (T 0 0 + 1) := by rw [up_cell (by omega), up_same]
  have v1 : (up (up M 4 4 (nI (T 0 0 + 1))) (4 + 1) (5 * T 0 0) (nI w)) 5 (5 * T 0 0) = nI w := up_same _ _ _ _
  generalize up (up M 4 4 (nI (T 0 0 + 1))) (4 + 1) (5 * T 0 0) (nI w) = M0 at *
  have hT0 : TpC M0 b n := hT.fr g0 (by omega) (fun j => by omega)
  have hS0 : CS M0 st := hS.ln g0 (by omega) (by omega) (by omega)
  rw [hm', show (1 : Int32) = nI 1 from rfl, tub44_s (by omega) (by omega)]
  -- x
  obtain ⟨M1, a1, a2, a3, -⟩ := readNumberC (lo := 0) (hi := 9) hB hT0 hst hS0 (by omega) (by omega)
  rw [show tlo 1 = 0 from rfl, show thi 1 = 9 from rfl, a1]
  simp only [Option.bind_some]
  rw [putTubC ht (by omega)]
  simp only [Option.bind_some]
  rw [tub44_s (by omega) (by omega)]
  have p1 : Fr (fun c j => c = 5 ∧ j = 5 * T 0 0 + 1) M1 (up M1 (4 + 1) (5 * T 0 0 + 1) (nI (numS b n 0 9 0 st).2)) := Fr.rfl'.up (by omega)
  have w1 : (up M1 (4 + 1) (5 * T 0 0 + 1) (nI (numS b n 0 9 0 st).2)) 5 (5 * T 0 0 + 1) = nI (numS b n 0 9 0 st).2 := up_same _ _ _ _
  generalize up M1 (4 + 1) (5 * T 0 0 + 1) (nI (numS b n 0 9 0 st).2) = N1 at *
  -- y
  obtain ⟨M2, b1, b2, b3, -⟩ := readNumberC (M := N1) (lo := 1) (hi := 9) hB ((hT0.fr a2 (by unfold RnF; omega) (fun j => by unfold RnF; omega)).fr p1 (by omega) (fun j => by omega)) o1 (a3.ln p1 (by omega) (by omega) (by omega)) (by omega) (by omega)
  rw [show tlo (1 + 1) = 1 from rfl, show thi (1 + 1) = 9 from rfl, b1]
  simp only [Option.bind_some]
  rw [putTubC ht (by omega)]
  simp only [Option.bind_some]
  rw [tub44_s (by omega) (by omega)]
  have p2 : Fr (fun c j => c = 5 ∧ j = 5 * T 0 0 + 2) M2 (up M2 (4 + 1) (5 * T 0 0 + (1 + 1)) (nI (numS b n 1 9 0 (numS b n 0 9 0 st).1).2)) := Fr.rfl'.up (by omega)
  have w2 : (up M2 (4 + 1) (5 * T 0 0 + (1 + 1)) (nI (numS b n 1 9 0 (numS b n 0 9 0 st).1).2)) 5 (5 * T 0 0 + 2) = nI (numS b n 1 9 0 (numS b n 0 9 0 st).1).2 := up_same _ _ _ _
  generalize up M2 (4 + 1) (5 * T 0 0 + (1 + 1)) (nI (numS b n 1 9 0 (numS b n 0 9 0 st).1).2) = N2 at *
  have t1 : TpC N1 b n := (hT0.fr a2 (by unfold RnF; omega) (fun j => by unfold RnF; omega)).fr p1 (by omega) (fun j => by omega)
  -- hour
  obtain ⟨M3, c1, c2, c3, -⟩ := readNumberC (M := N2) (lo := 0) (hi := 23) hB ((t1.fr b2 (by unfold RnF; omega) (fun j => by unfold RnF; omega)).fr p2 (by omega) (fun j => by omega)) o2 (b3.ln p2 (by omega) (by omega) (by omega)) (by omega) (by omega)
  rw [show tlo (1 + 1 + 1) = 0 from rfl, show thi (1 + 1 + 1) = 23 from rfl, c1]
  simp only [Option.bind_some]
  rw [putTubC ht (by omega)]
  simp only [Option.bind_some]
  rw [tub44_s (by omega) (by omega)]
  have p3 : Fr (fun c j => c = 5 ∧ j = 5 * T 0 0 + 3) M3 (up M3 (4 + 1) (5 * T 0 0 + (1 + 1 + 1)) (nI (numS b n 0 23 0 (numS b n 1 9 0 (numS b n 0 9 0 st).1).1).2)) := Fr.rfl'.up (by omega)
  have w3 : (up M3 (4 + 1) (5 * T 0 0 + (1 + 1 + 1)) (nI (numS b n 0 23 0 (numS b n 1 9 0 (numS b n 0 9 0 st).1).1).2)) 5 (5 * T 0 0 + 3) = nI (numS b n 0 23 0 (numS b n 1 9 0 (numS b n 0 9 0 st).1).1).2 := up_same _ _ _ _
  generalize up M3 (4 + 1) (5 * T 0 0 + (1 + 1 + 1)) (nI (numS b n 0 23 0 (numS b n 1 9 0 (numS b n 0 9 0 st).1).1).2) = N3 at *
  have t2 : TpC N2 b n := (t1.fr b2 (by unfold RnF; omega) (fun j => by unfold RnF; omega)).fr p2 (by omega) (fun j => by omega)
  -- estate
  obtain ⟨M4, d1, d2, d3, -⟩ := readNumberC (M := N3) (lo := 1) (hi := 99) hB ((t2.fr c2 (by unfold RnF; omega) (fun j => by unfold RnF; omega)).fr p3 (by omega) (fun j => by omega)) o3 (c3.ln p3 (by omega) (by omega) (by omega)) (by omega) (by omega)
  rw [show tlo (1 + 1 + 1 + 1) = 1 from rfl, show thi (1 + 1 + 1 + 1) = 99 from rfl, d1]
  simp only [Option.bind_some]
  rw [putTubC ht (by omega)]
  simp only [Option.bind_some]
  rw [show 1 + 1 + 1 + 1 + 1 = 5 from rfl, tub44_e]
  have p4 : Fr (fun c j => c = 5 ∧ j = 5 * T 0 0 + 4) M4 (up M4 (4 + 1) (5 * T 0 0 + (1 + 1 + 1 + 1)) (nI (numS b n 1 99 0 (numS b n 0 23 0 (numS b n 1 9 0 (numS b n 0 9 0 st).1).1).1).2)) := Fr.rfl'.up (by omega)
  have w4 : (up M4 (4 + 1) (5 * T 0 0 + (1 + 1 + 1 + 1)) (nI (numS b n 1 99 0 (numS b n 0 23 0 (numS b n 1 9 0 (numS b n 0 9 0 st).1).1).1).2)) 5 (5 * T 0 0 + 4) = nI (numS b n 1 99 0 (numS b n 0 23 0 (numS b n 1 9 0 (numS b n 0 9 0 st).1).1).1).2 := up_same _ _ _ _
  generalize up M4 (4 + 1) (5 * T 0 0 + (1 + 1 + 1 + 1)) (nI (numS b n 1 99 0 (numS b n 0 23 0 (numS b n 1 9 0 (numS b n 0 9 0 st).1).1).1).2) = N4 at *
  -- all that stays
  have big : ∀ c j, ¬ (c = 2 ∧ 2 ≤ j ∧ j ≤ 5) → ¬ (c = 1 ∧ 2 ≤ j ∧ j ≤ 3) → ¬ (c = 4 ∧ j = 4) → ¬ (c = 5 ∧ 5 * T 0 0 ≤ j) → N4 c j = M c j := by
    intro c j h1 h2 h3 h4
    rw [p4 c j (by omega), d2 c j (by unfold RnF; omega), p3 c j (by omega), c2 c j (by unfold RnF; omega), p2 c j (by omega), b2 c j (by unfold RnF; omega), p1 c j (by omega), a2 c j (by unfold RnF; omega), g0 c j (by omega)]
  refine ⟨N4, rfl, fun c j hc => ?_, d3.ln p4 (by omega) (by omega) (by omega), ?_, ?_, ?_, ?_⟩
  · unfold LnC at hc
    exact big c j (by omega) (by omega) (by omega) (by omega)
  · refine repC_addK hC ?_ ?_ ?_ ?_ ?_ w4 (fun c j h1 h2 h3 h4 => big c j (by omega) (by omega) h3 h4)
    · rw [p4 4 4 (by omega), d2 4 4 (by unfold RnF; omega), p3 4 4 (by omega), c2 4 4 (by unfold RnF; omega), p2 4 4 (by omega), b2 4 4 (by unfold RnF; omega), p1 4 4 (by omega), a2 4 4 (by unfold RnF; omega), v0]
    · rw [p4 5 _ (by omega), d2 5 _ (by unfold RnF; omega), p3 5 _ (by omega), c2 5 _ (by unfold RnF; omega), p2 5 _ (by omega), b2 5 _ (by unfold RnF; omega), p1 5 _ (by omega), a2 5 _ (by unfold RnF; omega), v1]
    · rw [p4 5 _ (by omega), d2 5 _ (by unfold RnF; omega), p3 5 _ (by omega), c2 5 _ (by unfold RnF; omega), p2 5 _ (by omega), b2 5 _ (by unfold RnF; omega), w1]
    · rw [p4 5 _ (by omega), d2 5 _ (by unfold RnF; omega), p3 5 _ (by omega), c2 5 _ (by unfold RnF; omega), w2]
    · rw [p4 5 _ (by omega), d2 5 _ (by unfold RnF; omega), w3]
  · rw [big 1 4 (by omega) (by omega) (by omega) (by omega), i1]
  · rw [big 1 5 (by omega) (by omega) (by omega) (by omega), i2]
  · rw [big 1 6 (by omega) (by omega) (by omega) (by omega), i3]
