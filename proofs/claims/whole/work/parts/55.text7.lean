theorem RepP.curU {M : Mem} {S : Sv} (h : RepP M S) (w0 : S 0 0 ≤ 4) (w1 : S 0 1 ≤ 4) {j : Nat} (hj : j < 10) (v : Nat) : RepP (up M 57 (37 + j) (iI ((v : Int) - 2))) (setS S 3 j v) := by
  obtain ⟨h1, h2, h3, h4, h5, h6, h7⟩ := h
  refine ⟨?_, ?_, ?_, fun i i2 hi hi2 => ?_, fun i hi => ?_, fun i hi => ?_, fun i hi => ?_⟩ <;> grind [up_at, setS]
theorem RepP.windU {M : Mem} {S : Sv} (h : RepP M S) (w0 : S 0 0 ≤ 4) (w1 : S 0 1 ≤ 4) {j : Nat} (hj : j < 24) (v : Nat) : RepP (up M 57 (47 + j) (nI v)) (setS S 4 j v) := by
  obtain ⟨h1, h2, h3, h4, h5, h6, h7⟩ := h
  refine ⟨?_, ?_, ?_, fun i i2 hi hi2 => ?_, fun i hi => ?_, fun i hi => ?_, fun i hi => ?_⟩ <;> grind [up_at, setS]
theorem RepP.phaseU {M : Mem} {S : Sv} (h : RepP M S) (w0 : S 0 0 ≤ 4) (w1 : S 0 1 ≤ 4) (v : Nat) : RepP (up M 57 71 (nI v)) (setS S 0 2 v) := by
  obtain ⟨h1, h2, h3, h4, h5, h6, h7⟩ := h
  refine ⟨?_, ?_, ?_, fun i i2 hi hi2 => ?_, fun i hi => ?_, fun i hi => ?_, fun i hi => ?_⟩ <;> grind [up_at, setS]
theorem RepP.fr {X : Nat → Nat → Prop} {M M1 : Mem} {S : Sv} (h : RepP M S) (hf : Fr X M M1) (hx : ∀ j, ¬ X 57 j) (hx2 : ¬ X 54 4) : RepP M1 S := by
  obtain ⟨h1, h2, h3, h4, h5, h6, h7⟩ := h
  refine ⟨?_, ?_, ?_, fun t w ht hw => ?_, fun j hj => ?_, fun j hj => ?_, fun j hj => ?_⟩
  · rw [hf _ _ (hx _), h1]
  · rw [hf _ _ hx2, h2]
  · rw [hf _ _ (hx _), h3]
  · rw [hf _ _ (hx _), h4 t w ht hw]
  · rw [hf _ _ (hx _), h5 j hj]
  · rw [hf _ _ (hx _), h6 j hj]
  · rw [hf _ _ (hx _), h7 j hj]
theorem RepP.st {M M1 : Mem} {S : Sv} (h : RepP M S) (hf : Fr StF M M1) : RepP M1 S := h.fr hf (fun j => by unfold StF; omega) (by unfold StF; omega)
theorem TpM.st {M M1 : Mem} {b : Nat → Nat} {n : Nat} (h : TpM M b n) (hf : Fr StF M M1) : TpM M1 b n := h.fr hf (by unfold StF; omega) (fun j => by unfold StF; omega)
def c57 (c _j : Nat) : Prop := c = 57
theorem TpM.pg {M M1 : Mem} {b : Nat → Nat} {n : Nat} (h : TpM M b n) (hf : Fr c57 M M1) : TpM M1 b n := h.fr hf (by unfold c57; omega) (fun j => by unfold c57; omega)
theorem MP.pg {M M1 : Mem} {b : Nat → Nat} {n : Nat} {st : PSt} (h : MP M b n st) (hf : Fr c57 M M1) : MP M1 b n st := h.ln hf (fun j _ _ => by unfold c57; omega)
theorem fr57 {M : Mem} {j : Nat} {v : Int32} : Fr c57 M (up M 57 j v) := Fr.rfl'.up rfl
/-! the model reads a tub, an heir, a current, a wind, the phase -/
theorem tubM {M : Mem} {b : Nat → Nat} {n w : Nat} {T : Sv} {rm hm ph : Nat} {st : PSt} (hB : TpB b n) (hT : TpM M b n) (hst : StOK n st) (hS : MP M b n st) (hI : PMi M (T, rm, hm, ph)) (ht : T 0 0 < 4) (ht1 : T 0 1 ≤ 4) : ∃ M1, f_X6_readTub (nI w) M = some M1 ∧ Fr LnM M M1 ∧ MP M1 b n (numS b n 1 99 0 (numS b n 0 23 0 (numS b n 1 9 0 (numS b n 0 9 0 st).1).1).1).1 ∧ PMi M1 (addK T w (numS b n 0 9 0 st).2 (numS b n 1 9 0 (numS b n 0 9 0 st).1).2 (numS b n 0 23 0 (numS b n 1 9 0 (numS b n 0 9 0 st).1).1).2 (numS b n 1 99 0 (numS b n 0 23 0 (numS b n 1 9 0 (numS b n 0 9 0 st).1).1).1).2, rm, hm, ph) := by
  obtain ⟨hP, i1, i2, i3⟩ := hI
  simp only at hP i1 i2 i3
  have o1 := (numS_s (b := b) (lo := 0) (hi := 9) (m := 0) (q := 0) hst (pos0 _)).1
  have o2 := (numS_s (b := b) (lo := 1) (hi := 9) (m := 0) (q := 0) o1 (pos0 _)).1
  have o3 := (numS_s (b := b) (lo := 0) (hi := 23) (m := 0) (q := 0) o2 (pos0 _)).1
  unfold f_X6_readTub
  rw [rd_lit 20 (by omega) (by omega), hP.1, inb_ok (by omega) (by omega), nI_clamp (by omega)]
  simp only [lm]
  rw [show (4 : Int32) = nI 4 from rfl, show (8 : Int32) = nI 8 from rfl, show (12 : Int32) = nI 12 from rfl, show (16 : Int32) = nI 16 from rfl, nI_add, nI_add, nI_add, nI_add, nI_clamp (show 4 + T 0 0 < 2 ^ 31 by omega), nI_clamp (show 8 + T 0 0 < 2 ^ 31 by omega), nI_clamp (show 12 + T 0 0 < 2 ^ 31 by omega), nI_clamp (show 16 + T 0 0 < 2 ^ 31 by omega), show (20 : Int32) = nI 20 from rfl, nI_clamp (show 20 < 2 ^ 31 by omega), show (0 : Int32) = nI 0 from rfl, show (1 : Int32) = nI 1 from rfl, show (9 : Int32) = nI 9 from rfl, show (23 : Int32) = nI 23 from rfl, show (99 : Int32) = nI 99 from rfl]
  have p0 : Fr c57 M (up M 57 (T 0 0) (nI w)) := fr57
  have q0 : ∀ j, j ≠ T 0 0 → (up M 57 (T 0 0) (nI w)) 57 j = M 57 j := fun j hj => up_slot hj
  have w0 : (up M 57 (T 0 0) (nI w)) 57 (T 0 0) = nI w := up_same _ _ _ _
  generalize up M 57 (T 0 0) (nI w) = L0 at *
  have t0 : TpM L0 b n := hT.pg p0
  have s0 : MP L0 b n st := hS.pg p0
  obtain ⟨M1, a1, f1, e1⟩ := otherM (M := L0) (lo := 0) (hi := 9) (m := 0) hB t0 hst s0 (by omega) (by omega) (Or.inl rfl)
  rw [a1]
  simp only [Option.bind_some]
  rw [inb_ok (show 4 + T 0 0 < 72 by omega) (by omega)]
  have p1 : Fr c57 M1 (up M1 57 (4 + T 0 0) (nI (numS b n 0 9 0 st).2)) := fr57
  have q1 : ∀ j, j ≠ 4 + T 0 0 → (up M1 57 (4 + T 0 0) (nI (numS b n 0 9 0 st).2)) 57 j = M1 57 j := fun j hj => up_slot hj
  have w1 : (up M1 57 (4 + T 0 0) (nI (numS b n 0 9 0 st).2)) 57 (4 + T 0 0) = nI (numS b n 0 9 0 st).2 := up_same _ _ _ _
  generalize up M1 57 (4 + T 0 0) (nI (numS b n 0 9 0 st).2) = L1 at *
  have t1 : TpM L1 b n := (t0.st f1).pg p1
  have s1 : MP L1 b n (numS b n 0 9 0 st).1 := e1.pg p1
  obtain ⟨M2, a2, f2, e2⟩ := otherM (M := L1) (lo := 1) (hi := 9) (m := 0) hB t1 o1 s1 (by omega) (by omega) (Or.inl rfl)
  rw [a2]
  simp only [Option.bind_some]
  rw [inb_ok (show 8 + T 0 0 < 72 by omega) (by omega)]
  have p2 : Fr c57 M2 (up M2 57 (8 + T 0 0) (nI (numS b n 1 9 0 (numS b n 0 9 0 st).1).2)) := fr57
  have q2 : ∀ j, j ≠ 8 + T 0 0 → (up M2 57 (8 + T 0 0) (nI (numS b n 1 9 0 (numS b n 0 9 0 st).1).2)) 57 j = M2 57 j := fun j hj => up_slot hj
  have w2 : (up M2 57 (8 + T 0 0) (nI (numS b n 1 9 0 (numS b n 0 9 0 st).1).2)) 57 (8 + T 0 0) = nI (numS b n 1 9 0 (numS b n 0 9 0 st).1).2 := up_same _ _ _ _
  generalize up M2 57 (8 + T 0 0) (nI (numS b n 1 9 0 (numS b n 0 9 0 st).1).2) = L2 at *
  have t2 : TpM L2 b n := (t1.st f2).pg p2
  have s2 : MP L2 b n (numS b n 1 9 0 (numS b n 0 9 0 st).1).1 := e2.pg p2
  obtain ⟨M3, a3, f3, e3⟩ := otherM (M := L2) (lo := 0) (hi := 23) (m := 0) hB t2 o2 s2 (by omega) (by omega) (Or.inl rfl)
  rw [a3]
  simp only [Option.bind_some]
  rw [inb_ok (show 12 + T 0 0 < 72 by omega) (by omega)]
  have p3 : Fr c57 M3 (up M3 57 (12 + T 0 0) (nI (numS b n 0 23 0 (numS b n 1 9 0 (numS b n 0 9 0 st).1).1).2)) := fr57
  have q3 : ∀ j, j ≠ 12 + T 0 0 → (up M3 57 (12 + T 0 0) (nI (numS b n 0 23 0 (numS b n 1 9 0 (numS b n 0 9 0 st).1).1).2)) 57 j = M3 57 j := fun j hj => up_slot hj
  have w3 : (up M3 57 (12 + T 0 0) (nI (numS b n 0 23 0 (numS b n 1 9 0 (numS b n 0 9 0 st).1).1).2)) 57 (12 + T 0 0) = nI (numS b n 0 23 0 (numS b n 1 9 0 (numS b n 0 9 0 st).1).1).2 := up_same _ _ _ _
  generalize up M3 57 (12 + T 0 0) (nI (numS b n 0 23 0 (numS b n 1 9 0 (numS b n 0 9 0 st).1).1).2) = L3 at *
  have t3 : TpM L3 b n := (t2.st f3).pg p3
  have s3 : MP L3 b n (numS b n 0 23 0 (numS b n 1 9 0 (numS b n 0 9 0 st).1).1).1 := e3.pg p3
  obtain ⟨M4, a4, f4, e4⟩ := otherM (M := L3) (lo := 1) (hi := 99) (m := 0) hB t3 o3 s3 (by omega) (by omega) (Or.inl rfl)
  rw [a4]
  simp only [Option.bind_some]
  rw [inb_ok (show 16 + T 0 0 < 72 by omega) (by omega)]
  have p4 : Fr c57 M4 (up M4 57 (16 + T 0 0) (nI (numS b n 1 99 0 (numS b n 0 23 0 (numS b n 1 9 0 (numS b n 0 9 0 st).1).1).1).2)) := fr57
  have q4 : ∀ j, j ≠ 16 + T 0 0 → (up M4 57 (16 + T 0 0) (nI (numS b n 1 99 0 (numS b n 0 23 0 (numS b n 1 9 0 (numS b n 0 9 0 st).1).1).1).2)) 57 j = M4 57 j := fun j hj => up_slot hj
  have w4 : (up M4 57 (16 + T 0 0) (nI (numS b n 1 99 0 (numS b n 0 23 0 (numS b n 1 9 0 (numS b n 0 9 0 st).1).1).1).2)) 57 (16 + T 0 0) = nI (numS b n 1 99 0 (numS b n 0 23 0 (numS b n 1 9 0 (numS b n 0 9 0 st).1).1).1).2 := up_same _ _ _ _
  generalize up M4 57 (16 + T 0 0) (nI (numS b n 1 99 0 (numS b n 0 23 0 (numS b n 1 9 0 (numS b n 0 9 0 st).1).1).1).2) = L4 at *
  have t4 : TpM L4 b n := (t3.st f4).pg p4
  have s4 : MP L4 b n (numS b n 1 99 0 (numS b n 0 23 0 (numS b n 1 9 0 (numS b n 0 9 0 st).1).1).1).1 := e4.pg p4
  have x1 : ∀ j, M1 57 j = L0 57 j := fun j => f1 57 j (by unfold StF; omega)
  have x2 : ∀ j, M2 57 j = L1 57 j := fun j => f2 57 j (by unfold StF; omega)
  have x3 : ∀ j, M3 57 j = L2 57 j := fun j => f3 57 j (by unfold StF; omega)
  have x4 : ∀ j, M4 57 j = L3 57 j := fun j => f4 57 j (by unfold StF; omega)
  have big : ∀ c j, c ≠ 57 → ¬ StF c j → L4 c j = M c j := by
    intro c j h1 h2
    rw [p4 c j h1, f4 c j h2, p3 c j h1, f3 c j h2, p2 c j h1, f2 c j h2, p1 c j h1, f1 c j h2, p0 c j h1]
  have old : ∀ j, j ≠ T 0 0 → j ≠ 4 + T 0 0 → j ≠ 8 + T 0 0 → j ≠ 12 + T 0 0 → j ≠ 16 + T 0 0 → L4 57 j = M 57 j := by
    intro j h0 h1 h2 h3 h4
    rw [q4 j h4, x4, q3 j h3, x3, q2 j h2, x2, q1 j h1, x1, q0 j h0]
  rw [rd_ok (show 20 < 72 by omega) (by omega), old 20 (by omega) (by omega) (by omega) (by omega) (by omega), hP.1, inb_ok (show 20 < 72 by omega) (by omega), nI_add]
  have p5 : Fr c57 L4 (up L4 57 20 (nI (T 0 0 + 1))) := fr57
  have big5 : ∀ c j, c ≠ 57 → ¬ StF c j → (up L4 57 20 (nI (T 0 0 + 1))) c j = M c j := fun c j h1 h2 => by rw [p5 c j h1, big c j h1 h2]
  refine ⟨_, rfl, fun c j hc => ?_, s4.pg p5, repP_addK hP ht ht1 (up_same _ _ _ _) ?_ ?_ ?_ ?_ ?_ (big5 54 4 (by omega) (by unfold StF; omega)) (fun j h20 h0 h1 h2 h3 h4 => by rw [up_slot h20, old j h0 h1 h2 h3 h4]), ?_, ?_, ?_⟩
  · unfold LnM at hc
    exact big5 c j (by omega) (by unfold StF; omega)
  · rw [up_slot (by omega), q4 _ (by omega), x4, q3 _ (by omega), x3, q2 _ (by omega), x2, q1 _ (by omega), x1, w0]
  · rw [up_slot (by omega), q4 _ (by omega), x4, q3 _ (by omega), x3, q2 _ (by omega), x2, w1]
  · rw [up_slot (by omega), q4 _ (by omega), x4, q3 _ (by omega), x3, w2]
  · rw [up_slot (by omega), q4 _ (by omega), x4, w3]
  · rw [up_slot (by omega), w4]
  · rw [big5 54 5 (by omega) (by unfold StF; omega), i1]
  · rw [big5 54 6 (by omega) (by unfold StF; omega), i2]
  · rw [big5 54 7 (by omega) (by unfold StF; omega), i3]
theorem heirM {M : Mem} {b : Nat → Nat} {n : Nat} {T : Sv} {rm hm ph : Nat} {st : PSt} (hB : TpB b n) (hT : TpM M b n) (hst : StOK n st) (hS : MP M b n st) (hI : PMi M (T, rm, hm, ph)) (ht : T 0 1 < 4) (ht0 : T 0 0 ≤ 4) : ∃ M1, f_X6_readHeir M = some M1 ∧ Fr LnM M M1 ∧ MP M1 b n (numS b n 0 9 0 (numS b n (numS b n 0 23 0 (numS b n 0 9 0 st).1).2 23 0 (numS b n 0 23 0 (numS b n 0 9 0 st).1).1).1).1 ∧ PMi M1 (addH T (numS b n 0 9 0 st).2 (numS b n 0 23 0 (numS b n 0 9 0 st).1).2 (numS b n (numS b n 0 23 0 (numS b n 0 9 0 st).1).2 23 0 (numS b n 0 23 0 (numS b n 0 9 0 st).1).1).2 (numS b n 0 9 0 (numS b n (numS b n 0 23 0 (numS b n 0 9 0 st).1).2 23 0 (numS b n 0 23 0 (numS b n 0 9 0 st).1).1).1).2, rm, hm, ph) := by
  obtain ⟨hP, i1, i2, i3⟩ := hI
  simp only at hP i1 i2 i3
  have o1 := (numS_s (b := b) (lo := 0) (hi := 9) (m := 0) (q := 0) hst (pos0 _)).1
  have o2 := (numS_s (b := b) (lo := 0) (hi := 23) (m := 0) (q := 0) o1 (pos0 _)).1
  have v2 := numS_v (b := b) (n := n) (lo := 0) (hi := 23) (m := 0) (by omega) (numS b n 0 9 0 st).1
  have o3 := (numS_s (b := b) (lo := (numS b n 0 23 0 (numS b n 0 9 0 st).1).2) (hi := 23) (m := 0) (q := 0) o2 (pos0 _)).1
  unfold f_X6_readHeir
  simp only [li, lm]
  have hv : 21 + 4 * T 0 1 < 34 := by omega
  rw [hP.2.1, show (21 : Int32) = nI 21 from rfl, show (4 : Int32) = nI 4 from rfl, nI_mulN, nI_add, show (1 : Int32) = nI 1 from rfl, show (2 : Int32) = nI 2 from rfl, show (3 : Int32) = nI 3 from rfl, nI_add, nI_add, nI_add]
  generalize hy : 21 + 4 * T 0 1 = y at *
  rw [nI_clamp (show y < 2 ^ 31 by omega), nI_clamp (show y + 1 < 2 ^ 31 by omega), nI_clamp (show y + 2 < 2 ^ 31 by omega), nI_clamp (show y + 3 < 2 ^ 31 by omega), show (0 : Int32) = nI 0 from rfl, show (9 : Int32) = nI 9 from rfl, show (23 : Int32) = nI 23 from rfl]
  obtain ⟨M1, a1, f1, e1⟩ := otherM (M := M) (lo := 0) (hi := 9) (m := 0) hB hT hst hS (by omega) (by omega) (Or.inl rfl)
  rw [a1]
  simp only [Option.bind_some]
  rw [inb_ok (show y < 72 by omega) (by omega)]
  have p1 : Fr c57 M1 (up M1 57 (y) (nI (numS b n 0 9 0 st).2)) := fr57
  have q1 : ∀ j, j ≠ y → (up M1 57 (y) (nI (numS b n 0 9 0 st).2)) 57 j = M1 57 j := fun j hj => up_slot hj
  have w1 : (up M1 57 (y) (nI (numS b n 0 9 0 st).2)) 57 (y) = nI (numS b n 0 9 0 st).2 := up_same _ _ _ _
  generalize up M1 57 (y) (nI (numS b n 0 9 0 st).2) = L1 at *
  have t1 : TpM L1 b n := (hT.st f1).pg p1
  have s1 : MP L1 b n (numS b n 0 9 0 st).1 := e1.pg p1
  obtain ⟨M2, a2, f2, e2⟩ := otherM (M := L1) (lo := 0) (hi := 23) (m := 0) hB t1 o1 s1 (by omega) (by omega) (Or.inl rfl)
  rw [a2]
  simp only [Option.bind_some]
  rw [inb_ok (show y + 1 < 72 by omega) (by omega)]
  have p2 : Fr c57 M2 (up M2 57 (y + 1) (nI (numS b n 0 23 0 (numS b n 0 9 0 st).1).2)) := fr57
  have q2 : ∀ j, j ≠ y + 1 → (up M2 57 (y + 1) (nI (numS b n 0 23 0 (numS b n 0 9 0 st).1).2)) 57 j = M2 57 j := fun j hj => up_slot hj
  have w2 : (up M2 57 (y + 1) (nI (numS b n 0 23 0 (numS b n 0 9 0 st).1).2)) 57 (y + 1) = nI (numS b n 0 23 0 (numS b n 0 9 0 st).1).2 := up_same _ _ _ _
  generalize up M2 57 (y + 1) (nI (numS b n 0 23 0 (numS b n 0 9 0 st).1).2) = L2 at *
  have t2 : TpM L2 b n := (t1.st f2).pg p2
  have s2 : MP L2 b n (numS b n 0 23 0 (numS b n 0 9 0 st).1).1 := e2.pg p2
  rw [rd_ok (show y + 1 < 72 by omega) (by omega), w2]
  obtain ⟨M3, a3, f3, e3⟩ := otherM (M := L2) (lo := (numS b n 0 23 0 (numS b n 0 9 0 st).1).2) (hi := 23) (m := 0) hB t2 o2 s2 (by omega) (by omega) (Or.inl rfl)
  rw [a3]
  simp only [Option.bind_some]
  rw [inb_ok (show y + 2 < 72 by omega) (by omega)]
  have p3 : Fr c57 M3 (up M3 57 (y + 2) (nI (numS b n (numS b n 0 23 0 (numS b n 0 9 0 st).1).2 23 0 (numS b n 0 23 0 (numS b n 0 9 0 st).1).1).2)) := fr57
  have q3 : ∀ j, j ≠ y + 2 → (up M3 57 (y + 2) (nI (numS b n (numS b n 0 23 0 (numS b n 0 9 0 st).1).2 23 0 (numS b n 0 23 0 (numS b n 0 9 0 st).1).1).2)) 57 j = M3 57 j := fun j hj => up_slot hj
  have w3 : (up M3 57 (y + 2) (nI (numS b n (numS b n 0 23 0 (numS b n 0 9 0 st).1).2 23 0 (numS b n 0 23 0 (numS b n 0 9 0 st).1).1).2)) 57 (y + 2) = nI (numS b n (numS b n 0 23 0 (numS b n 0 9 0 st).1).2 23 0 (numS b n 0 23 0 (numS b n 0 9 0 st).1).1).2 := up_same _ _ _ _
  generalize up M3 57 (y + 2) (nI (numS b n (numS b n 0 23 0 (numS b n 0 9 0 st).1).2 23 0 (numS b n 0 23 0 (numS b n 0 9 0 st).1).1).2) = L3 at *
  have t3 : TpM L3 b n := (t2.st f3).pg p3
  have s3 : MP L3 b n (numS b n (numS b n 0 23 0 (numS b n 0 9 0 st).1).2 23 0 (numS b n 0 23 0 (numS b n 0 9 0 st).1).1).1 := e3.pg p3
  obtain ⟨M4, a4, f4, e4⟩ := otherM (M := L3) (lo := 0) (hi := 9) (m := 0) hB t3 o3 s3 (by omega) (by omega) (Or.inl rfl)
  rw [a4]
  simp only [Option.bind_some]
  rw [inb_ok (show y + 3 < 72 by omega) (by omega)]
  have p4 : Fr c57 M4 (up M4 57 (y + 3) (nI (numS b n 0 9 0 (numS b n (numS b n 0 23 0 (numS b n 0 9 0 st).1).2 23 0 (numS b n 0 23 0 (numS b n 0 9 0 st).1).1).1).2)) := fr57
  have q4 : ∀ j, j ≠ y + 3 → (up M4 57 (y + 3) (nI (numS b n 0 9 0 (numS b n (numS b n 0 23 0 (numS b n 0 9 0 st).1).2 23 0 (numS b n 0 23 0 (numS b n 0 9 0 st).1).1).1).2)) 57 j = M4 57 j := fun j hj => up_slot hj
  have w4 : (up M4 57 (y + 3) (nI (numS b n 0 9 0 (numS b n (numS b n 0 23 0 (numS b n 0 9 0 st).1).2 23 0 (numS b n 0 23 0 (numS b n 0 9 0 st).1).1).1).2)) 57 (y + 3) = nI (numS b n 0 9 0 (numS b n (numS b n 0 23 0 (numS b n 0 9 0 st).1).2 23 0 (numS b n 0 23 0 (numS b n 0 9 0 st).1).1).1).2 := up_same _ _ _ _
  generalize up M4 57 (y + 3) (nI (numS b n 0 9 0 (numS b n (numS b n 0 23 0 (numS b n 0 9 0 st).1).2 23 0 (numS b n 0 23 0 (numS b n 0 9 0 st).1).1).1).2) = L4 at *
  have t4 : TpM L4 b n := (t3.st f4).pg p4
  have s4 : MP L4 b n (numS b n 0 9 0 (numS b n (numS b n 0 23 0 (numS b n 0 9 0 st).1).2 23 0 (numS b n 0 23 0 (numS b n 0 9 0 st).1).1).1).1 := e4.pg p4
  have x1 : ∀ j, M1 57 j = M 57 j := fun j => f1 57 j (by unfold StF; omega)
  have x2 : ∀ j, M2 57 j = L1 57 j := fun j => f2 57 j (by unfold StF; omega)
  have x3 : ∀ j, M3 57 j = L2 57 j := fun j => f3 57 j (by unfold StF; omega)
  have x4 : ∀ j, M4 57 j = L3 57 j := fun j => f4 57 j (by unfold StF; omega)
  have big : ∀ c j, c ≠ 57 → ¬ StF c j → L4 c j = M c j := by
    intro c j h1 h2
    rw [p4 c j h1, f4 c j h2, p3 c j h1, f3 c j h2, p2 c j h1, f2 c j h2, p1 c j h1, f1 c j h2]
  have p5 : Fr (fun c j => c = 54 ∧ j = 4) L4 (up L4 54 4 (nI (T 0 1 + 1))) := Fr.rfl'.up (by omega)
  rw [big 54 4 (by omega) (by unfold StF; omega), hP.2.1, nI_add]
  refine ⟨_, rfl, fun c j hc => ?_, s4.ln p5 (fun j h1 h2 => by omega), repP_addH hP ht0 ht (up_same _ _ _ _) ?_ ?_ ?_ ?_ (fun j hj => ?_), ?_, ?_, ?_⟩
  · unfold LnM at hc
    rw [p5 c j (by omega)]
    exact big c j (by omega) (by unfold StF; omega)
  · rw [hy, p5 57 _ (by omega), q4 _ (by omega), x4, q3 _ (by omega), x3, q2 _ (by omega), x2, w1]
  · rw [hy, p5 57 _ (by omega), q4 _ (by omega), x4, q3 _ (by omega), x3, w2]
  · rw [hy, p5 57 _ (by omega), q4 _ (by omega), x4, w3]
  · rw [hy, p5 57 _ (by omega), w4]
  · rw [p5 57 _ (by omega), q4 _ (by omega), x4, q3 _ (by omega), x3, q2 _ (by omega), x2, q1 _ (by omega), x1]
  · rw [p5 54 5 (by omega), big 54 5 (by omega) (by unfold StF; omega), i1]
  · rw [p5 54 6 (by omega), big 54 6 (by omega) (by unfold StF; omega), i2]
  · rw [p5 54 7 (by omega), big 54 7 (by omega) (by unfold StF; omega), i3]
theorem currentM {M : Mem} {b : Nat → Nat} {n q : Nat} {T : Sv} {rm hm ph : Nat} (hB : TpB b n) (hT : TpM M b n) (hq : q ≤ n) (hS : MP M b n (.inl q)) (hI : PMi M (T, rm, hm, ph)) (hW : WF T) (hm1 : rm < 2 ^ 10) (hm2 : hm < 2 ^ 24) : ∃ M1, ((f_X6_other 0 9 (M 54 5) M).bind fun r5 => lm (up r5.2 54 5 ((r5.2 54 5) ||| (1 <<< (r5.1 &&& 31)))) fun M6 => (f_X6_other 0 4 0 M6).bind fun r7 => inb (37 + r5.1) 72 <| lm (up r7.2 57 (37 + r5.1).toNatClampNeg (r7.1 - 2)) fun M9 => some M9) = some M1 ∧ Fr LnM M M1 ∧ MP M1 b n (numS b n 0 4 0 (numS b n 0 9 rm (.inl q)).1).1 ∧ PMi M1 (setS T 3 (numS b n 0 9 rm (.inl q)).2 (numS b n 0 4 0 (numS b n 0 9 rm (.inl q)).1).2, rm ||| 2 ^ (numS b n 0 9 rm (.inl q)).2, hm, ph) := by
  obtain ⟨hP, i1, i2, i3⟩ := hI
  simp only at hP i1 i2 i3
  have v1 := numS_v (b := b) (n := n) (lo := 0) (hi := 9) (m := rm) (by omega) (.inl q)
  have o1 := (numS_s (b := b) (lo := 0) (hi := 9) (m := rm) (q := 0) (st := .inl q) hq (pos0 _)).1
  obtain ⟨M1, a1, f1, e1⟩ := otherM (M := M) (lo := 0) (hi := 9) (m := rm) (st := .inl q) hB hT hq hS (by omega) (by omega) (Or.inr ⟨by omega, by omega⟩)
  rw [show f_X6_other 0 9 (M 54 5) M = f_X6_other (nI 0) (nI 9) (nI rm) M by rw [i1]; rfl, a1]
  simp only [Option.bind_some, lm]
  rw [f1 54 5 (by unfold StF; omega), i1, one_shl (by omega), nI_or]
  generalize hr : numS b n 0 9 rm (.inl q) = r at *
  have p1 : Fr (fun c j => c = 54 ∧ j = 5) M1 (up M1 54 5 (nI (rm ||| 2 ^ r.2))) := Fr.rfl'.up (by omega)
  have w1 : (up M1 54 5 (nI (rm ||| 2 ^ r.2))) 54 5 = nI (rm ||| 2 ^ r.2) := up_same _ _ _ _
  generalize up M1 54 5 (nI (rm ||| 2 ^ r.2)) = L1 at *
  obtain ⟨M2, a2, f2, e2⟩ := otherM (M := L1) (lo := 0) (hi := 4) (m := 0) hB ((hT.st f1).fr p1 (by omega) (fun j => by omega)) o1 (e1.ln p1 (fun j h1 h2 => by omega)) (by omega) (by omega) (Or.inl rfl)
  rw [show f_X6_other 0 4 0 L1 = f_X6_other (nI 0) (nI 4) (nI 0) L1 from rfl, a2]
  simp only [Option.bind_some]
  rw [show (37 : Int32) = nI 37 from rfl, nI_add, inb_ok (by omega) (by omega), nI_clamp (by omega), nI_m2]
  have hP2 : RepP M2 T := ((hP.st f1).fr p1 (fun j => by omega) (by omega)).st f2
  have p2 : Fr c57 M2 (up M2 57 (37 + r.2) (iI (((numS b n 0 4 0 r.1).2 : Int) - 2))) := fr57
  refine ⟨_, rfl, ((f1.mono (fun _ _ => StF_LnM)).trans (p1.mono (fun c j x => by unfold LnM; omega))).trans ((f2.mono (fun _ _ => StF_LnM)).trans (p2.mono (fun c j x => by unfold c57 at x; unfold LnM; omega))), e2.pg p2, hP2.curU hW.1 hW.2.1 (by omega) _, ?_, ?_, ?_⟩
  · rw [p2 54 5 (by unfold c57; omega), f2 54 5 (by unfold StF; omega), w1]
  · rw [p2 54 6 (by unfold c57; omega), f2 54 6 (by unfold StF; omega), p1 54 6 (by omega), f1 54 6 (by unfold StF; omega), i2]
  · rw [p2 54 7 (by unfold c57; omega), f2 54 7 (by unfold StF; omega), p1 54 7 (by omega), f1 54 7 (by unfold StF; omega), i3]
theorem windM {M : Mem} {b : Nat → Nat} {n q : Nat} {T : Sv} {rm hm ph : Nat} (hB : TpB b n) (hT : TpM M b n) (hq : q ≤ n) (hS : MP M b n (.inl q)) (hI : PMi M (T, rm, hm, ph)) (hW : WF T) (hm1 : rm < 2 ^ 10) (hm2 : hm < 2 ^ 24) : ∃ M1, ((f_X6_other 0 23 (M 54 6) M).bind fun r5 => lm (up r5.2 54 6 ((r5.2 54 6) ||| (1 <<< (r5.1 &&& 31)))) fun M6 => (f_X6_other 0 4 0 M6).bind fun r7 => inb (47 + r5.1) 72 <| lm (up r7.2 57 (47 + r5.1).toNatClampNeg r7.1) fun M9 => some M9) = some M1 ∧ Fr LnM M M1 ∧ MP M1 b n (numS b n 0 4 0 (numS b n 0 23 hm (.inl q)).1).1 ∧ PMi M1 (setS T 4 (numS b n 0 23 hm (.inl q)).2 (numS b n 0 4 0 (numS b n 0 23 hm (.inl q)).1).2, rm, hm ||| 2 ^ (numS b n 0 23 hm (.inl q)).2, ph) := by
  obtain ⟨hP, i1, i2, i3⟩ := hI
  simp only at hP i1 i2 i3
  have v1 := numS_v (b := b) (n := n) (lo := 0) (hi := 23) (m := hm) (by omega) (.inl q)
  have o1 := (numS_s (b := b) (lo := 0) (hi := 23) (m := hm) (q := 0) (st := .inl q) hq (pos0 _)).1
  obtain ⟨M1, a1, f1, e1⟩ := otherM (M := M) (lo := 0) (hi := 23) (m := hm) (st := .inl q) hB hT hq hS (by omega) (by omega) (Or.inr ⟨by omega, by omega⟩)
  rw [show f_X6_other 0 23 (M 54 6) M = f_X6_other (nI 0) (nI 23) (nI hm) M by rw [i2]; rfl, a1]
  simp only [Option.bind_some, lm]
  rw [f1 54 6 (by unfold StF; omega), i2, one_shl (by omega), nI_or]
  generalize hr : numS b n 0 23 hm (.inl q) = r at *
  have p1 : Fr (fun c j => c = 54 ∧ j = 6) M1 (up M1 54 6 (nI (hm ||| 2 ^ r.2))) := Fr.rfl'.up (by omega)
  have w1 : (up M1 54 6 (nI (hm ||| 2 ^ r.2))) 54 6 = nI (hm ||| 2 ^ r.2) := up_same _ _ _ _
  generalize up M1 54 6 (nI (hm ||| 2 ^ r.2)) = L1 at *
  obtain ⟨M2, a2, f2, e2⟩ := otherM (M := L1) (lo := 0) (hi := 4) (m := 0) hB ((hT.st f1).fr p1 (by omega) (fun j => by omega)) o1 (e1.ln p1 (fun j h1 h2 => by omega)) (by omega) (by omega) (Or.inl rfl)
  rw [show f_X6_other 0 4 0 L1 = f_X6_other (nI 0) (nI 4) (nI 0) L1 from rfl, a2]
  simp only [Option.bind_some]
  rw [show (47 : Int32) = nI 47 from rfl, nI_add, inb_ok (by omega) (by omega), nI_clamp (by omega)]
  have hP2 : RepP M2 T := ((hP.st f1).fr p1 (fun j => by omega) (by omega)).st f2
  have p2 : Fr c57 M2 (up M2 57 (47 + r.2) (nI (numS b n 0 4 0 r.1).2)) := fr57
  refine ⟨_, rfl, ((f1.mono (fun _ _ => StF_LnM)).trans (p1.mono (fun c j x => by unfold LnM; omega))).trans ((f2.mono (fun _ _ => StF_LnM)).trans (p2.mono (fun c j x => by unfold c57 at x; unfold LnM; omega))), e2.pg p2, hP2.windU hW.1 hW.2.1 (by omega) _, ?_, ?_, ?_⟩
  · rw [p2 54 5 (by unfold c57; omega), f2 54 5 (by unfold StF; omega), p1 54 5 (by omega), f1 54 5 (by unfold StF; omega), i1]
  · rw [p2 54 6 (by unfold c57; omega), f2 54 6 (by unfold StF; omega), w1]
  · rw [p2 54 7 (by unfold c57; omega), f2 54 7 (by unfold StF; omega), p1 54 7 (by omega), f1 54 7 (by unfold StF; omega), i3]
theorem phaseM {M : Mem} {b : Nat → Nat} {n : Nat} {st : PSt} {T : Sv} {rm hm ph : Nat} (hB : TpB b n) (hT : TpM M b n) (hst : StOK n st) (hS : MP M b n st) (hI : PMi M (T, rm, hm, ph)) (hW : WF T) : ∃ M1, ((f_X6_other 0 5 0 M).bind fun r16 => inb 71 72 <| lm (up r16.2 57 (71 : Int32).toNatClampNeg r16.1) fun M18 => some M18) = some M1 ∧ Fr LnM M M1 ∧ MP M1 b n (numS b n 0 5 0 st).1 ∧ PMi M1 (setS T 0 2 (numS b n 0 5 0 st).2, rm, hm, ph) := by
  obtain ⟨hP, i1, i2, i3⟩ := hI
  simp only at hP i1 i2 i3
  obtain ⟨M1, a1, f1, e1⟩ := otherM (M := M) (lo := 0) (hi := 5) (m := 0) hB hT hst hS (by omega) (by omega) (Or.inl rfl)
  rw [show f_X6_other 0 5 0 M = f_X6_other (nI 0) (nI 5) (nI 0) M from rfl, a1]
  simp only [Option.bind_some, lm]
  rw [inb_lit 71 (by omega) (by omega), show (71 : Int32) = nI 71 from rfl, nI_clamp (by omega)]
  have p2 : Fr c57 M1 (up M1 57 71 (nI (numS b n 0 5 0 st).2)) := fr57
  refine ⟨_, rfl, (f1.mono (fun _ _ => StF_LnM)).trans (p2.mono (fun c j x => by unfold c57 at x; unfold LnM; omega)), e1.pg p2, (hP.st f1).phaseU hW.1 hW.2.1 _, ?_, ?_, ?_⟩
  · rw [p2 54 5 (by unfold c57; omega), f1 54 5 (by unfold StF; omega), i1]
  · rw [p2 54 6 (by unfold c57; omega), f1 54 6 (by unfold StF; omega), i2]
  · rw [p2 54 7 (by unfold c57; omega), f1 54 7 (by unfold StF; omega), i3]
