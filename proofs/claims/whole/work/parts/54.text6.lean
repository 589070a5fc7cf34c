theorem numS_mi {b : Nat → Nat} {n lo hi m q q' : Nat} (h : (numS b n lo hi 0 (.inl q)).1 = .inl q') : numS b n lo hi m (.inl q) = if m / 2 ^ (numS b n lo hi 0 (.inl q)).2 % 2 = 1 then (.inr (4, tS b n q), lo) else (.inl q', (numS b n lo hi 0 (.inl q)).2) := by
  unfold numS at *
  by_cases h1 : tK b n q = 4
  · simp only [if_pos h1] at h; cases h
  · simp only [if_neg h1] at h ⊢
    by_cases h2 : tK b n q ≠ 2
    · simp only [if_pos h2] at h; cases h
    · simp only [if_neg h2] at h ⊢
      by_cases h3 : ¬ (lo ≤ tV b n q ∧ tV b n q ≤ hi)
      · simp only [if_pos h3] at h; cases h
      · have z : ¬ (0 / 2 ^ tV b n q % 2 = 1) := by rw [Nat.zero_div]; omega
        simp only [if_neg h3, if_neg z] at h ⊢
        cases h
        rfl
theorem numS_me {b : Nat → Nat} {n lo hi m q : Nat} {e : Nat × Nat} (h : (numS b n lo hi 0 (.inl q)).1 = .inr e) : numS b n lo hi m (.inl q) = numS b n lo hi 0 (.inl q) := by
  unfold numS at *
  by_cases h1 : tK b n q = 4
  · simp only [if_pos h1]
  · simp only [if_neg h1] at h ⊢
    by_cases h2 : tK b n q ≠ 2
    · simp only [if_pos h2]
    · simp only [if_neg h2] at h ⊢
      by_cases h3 : ¬ (lo ≤ tV b n q ∧ tV b n q ≤ hi)
      · simp only [if_pos h3]
      · have z : ¬ (0 / 2 ^ tV b n q % 2 = 1) := by rw [Nat.zero_div]; omega
        simp only [if_neg h3, if_neg z] at h
        cases h
def sgS (b : Nat → Nat) (n : Nat) : PSt → PSt
  | .inr e => .inr e
  | .inl q => if tK b n q = 3 then .inl (tE b n q) else .inr (if tK b n q = 4 then 1 else 2, tS b n q)
theorem semiC {M : Mem} {b : Nat → Nat} {n : Nat} {st : PSt} (hB : TpB b n) (hT : TpC M b n) (hst : StOK n st) (hS : CS M st) : ∃ M1, f_X1_readLine_160 M = some M1 ∧ Fr RnF M M1 ∧ CS M1 (sgS b n st) := by
  have n160 := hB.1
  unfold f_X1_readLine_160
  cases st with
  | inr e =>
    obtain ⟨c1, c5, cs⟩ := hst
    rw [hS.1, if_neg (fun z => absurd ((nI_lit 0 (by omega) (by omega)).mp z) (by omega))]
    exact ⟨M, rfl, Fr.rfl', hS⟩
  | inl q =>
    have hq : q ≤ n := hst
    obtain ⟨s1, s2⟩ := hS
    have kl := tK_le (b := b) (n := n) (p := q)
    obtain ⟨M1, a1, a2, a3, a4, a5, -⟩ := takeC hB hT hq s2
    have g0 : Fr RnF M M1 := a2.mono (fun c j x => by unfold TkF at x; unfold RnF; omega)
    rw [s1, if_pos (show nI 0 = (0 : Int32) from rfl), a1]
    simp only [Option.bind_some]
    rw [a4]
    unfold sgS
    by_cases h3 : tK b n q = 3
    · rw [if_pos ((nI_lit 3 (by omega) (by omega)).mpr h3)]
      simp only [if_pos h3]
      exact ⟨M1, rfl, g0, by rw [a2 1 2 (by unfold TkF; omega), s1], a3⟩
    · rw [if_neg (fun z => h3 ((nI_lit 3 (by omega) (by omega)).mp z)), failTokenC a4 kl a5]
      simp only [if_neg h3, Option.bind_some]
      refine ⟨_, rfl, (g0.up (by unfold RnF; omega)).up (by unfold RnF; omega), by rw [up_slot (by omega), up_same], up_same _ _ _ _⟩
/-! the class reads an heir, a current, a wind, the phase -/
theorem heir34_a {g i x : Nat} {M : Mem} (hx : x < 4) (h2 : x ≠ 2) : f_X1_readHeir_34 (g + 1) (nI i) (nI x) M = (f_X1_readNumber (nI 0) (nI (hhi x)) M).bind fun r3 => (f_X2_putHeir 4 (nI i) (nI x) r3.1 r3.2).bind fun r4 => f_X1_readHeir_34 g (nI i) (nI (x + 1)) r4 := by
  conv => lhs; unfold f_X1_readHeir_34
  unfold f_X1_readHeir_57
  rw [if_neg (fun z => absurd ((lit_lt 3 (by omega) (by omega)).mp z) (by omega)), if_neg (fun z => h2 ((nI_lit 2 (by omega) (by omega)).mp z)), rd_ok hx (by omega), tb2_is hx, show nI x + (1 : Int32) = nI (x + 1) by rw [show (1 : Int32) = nI 1 from rfl, nI_add]]
  rfl
theorem heir34_2 {g i f : Nat} {M : Mem} (hi : i < 4) (hv : M 6 (4 * i + 1) = nI f) : f_X1_readHeir_34 (g + 1) (nI i) (nI 2) M = (f_X1_readNumber (nI f) (nI 23) M).bind fun r3 => (f_X2_putHeir 4 (nI i) (nI 2) r3.1 r3.2).bind fun r4 => f_X1_readHeir_34 g (nI i) (nI 3) r4 := by
  conv => lhs; unfold f_X1_readHeir_34
  unfold f_X1_readHeir_57
  rw [if_neg (show ¬ ((3 : Int32) < nI 2) by decide), if_pos (show nI 2 = (2 : Int32) from rfl)]
  have e : f_X2_ofHeir 4 (nI i) 1 M = some (nI f) := by
    unfold f_X2_ofHeir
    rw [show (4 : Int32) = nI 4 from rfl, show (1 : Int32) = nI 1 from rfl, nI_mulN, nI_add, rd_ok (by omega) (by omega)]
    exact congrArg some hv
  rw [e]
  simp only [Option.bind_some]
  rw [rd_ok (show 2 < 4 by omega) (by omega), tb2_is (by omega)]
  rfl
theorem heir34_e {g : Nat} {i : Int32} {M : Mem} : f_X1_readHeir_34 (g + 1) i (nI 4) M = some M := by
  unfold f_X1_readHeir_34
  rw [if_pos (by decide)]
theorem pos0 (st : PSt) : posGe 0 st := by
  cases st with
  | inl p => exact Nat.zero_le p
  | inr e => trivial
theorem heirC {M : Mem} {b : Nat → Nat} {n : Nat} {T : Sv} {rm hm ph : Nat} {st : PSt} (hB : TpB b n) (hT : TpC M b n) (hst : StOK n st) (hS : CS M st) (hI : PCi M (T, rm, hm, ph)) (ht : T 0 1 < 4) : ∃ M1, f_X1_readHeir M = some M1 ∧ Fr LnC M M1 ∧ CS M1 (numS b n 0 9 0 (numS b n (numS b n 0 23 0 (numS b n 0 9 0 st).1).2 23 0 (numS b n 0 23 0 (numS b n 0 9 0 st).1).1).1).1 ∧ PCi M1 (addH T (numS b n 0 9 0 st).2 (numS b n 0 23 0 (numS b n 0 9 0 st).1).2 (numS b n (numS b n 0 23 0 (numS b n 0 9 0 st).1).2 23 0 (numS b n 0 23 0 (numS b n 0 9 0 st).1).1).2 (numS b n 0 9 0 (numS b n (numS b n 0 23 0 (numS b n 0 9 0 st).1).2 23 0 (numS b n 0 23 0 (numS b n 0 9 0 st).1).1).1).2, rm, hm, ph) := by
  obtain ⟨hC, i1, i2, i3⟩ := hI
  simp only at hC i1 i2 i3
  obtain ⟨m, hm'⟩ : ∃ m, FU = m + 1 + 1 + 1 + 1 + 1 := ⟨FU - 5, by have := FU_gt (show 5 < 4096 by omega); omega⟩
  have o1 := (numS_s (b := b) (lo := 0) (hi := 9) (m := 0) (q := 0) hst (pos0 _)).1
  have o2 := (numS_s (b := b) (lo := 0) (hi := 23) (m := 0) (q := 0) o1 (pos0 _)).1
  have v2 := numS_v (b := b) (n := n) (lo := 0) (hi := 23) (m := 0) (by omega) (numS b n 0 9 0 st).1
  have o3 := (numS_s (b := b) (lo := (numS b n 0 23 0 (numS b n 0 9 0 st).1).2) (hi := 23) (m := 0) (q := 0) o2 (pos0 _)).1
  unfold f_X1_readHeir
  simp only [li]
  rw [hC.2.1, if_pos ((lt_lit 4 (by omega) (by omega)).mpr ht)]
  simp only [lm]
  rw [show nI (T 0 1) + (1 : Int32) = nI (T 0 1 + 1) by rw [show (1 : Int32) = nI 1 from rfl, nI_add]]
  have g0 : Fr (fun c j => c = 4 ∧ j = 5) M (up M 4 5 (nI (T 0 1 + 1))) := Fr.rfl'.up (by omega)
  have v0 : (up M 4 5 (nI (T 0 1 + 1))) 4 5 = nI (T 0 1 + 1) := up_same _ _ _ _
  generalize up M 4 5 (nI (T 0 1 + 1)) = M0 at *
  have hT0 : TpC M0 b n := hT.fr g0 (by omega) (fun j => by omega)
  have hS0 : CS M0 st := hS.ln g0 (by omega) (by omega) (by omega)
  rw [hm', show (0 : Int32) = nI 0 from rfl, heir34_a (by omega) (by omega)]
  -- place
  obtain ⟨M1, a1, a2, a3, -⟩ := readNumberC (lo := 0) (hi := 9) hB hT0 hst hS0 (by omega) (by omega)
  rw [show hhi 0 = 9 from rfl, a1]
  simp only [Option.bind_some]
  rw [putHeirC ht (by omega)]
  simp only [Option.bind_some]
  rw [heir34_a (by omega) (by omega)]
  have p1 : Fr (fun c j => c = 6 ∧ j = 4 * T 0 1) M1 (up M1 (4 + 2) (4 * T 0 1 + 0) (nI (numS b n 0 9 0 st).2)) := Fr.rfl'.up (by omega)
  have w1 : (up M1 (4 + 2) (4 * T 0 1 + 0) (nI (numS b n 0 9 0 st).2)) 6 (4 * T 0 1) = nI (numS b n 0 9 0 st).2 := up_same _ _ _ _
  generalize up M1 (4 + 2) (4 * T 0 1 + 0) (nI (numS b n 0 9 0 st).2) = N1 at *
  have t1 : TpC N1 b n := (hT0.fr a2 (by unfold RnF; omega) (fun j => by unfold RnF; omega)).fr p1 (by omega) (fun j => by omega)
  -- from
  obtain ⟨M2, b1, b2, b3, -⟩ := readNumberC (M := N1) (lo := 0) (hi := 23) hB t1 o1 (a3.ln p1 (by omega) (by omega) (by omega)) (by omega) (by omega)
  rw [show hhi (0 + 1) = 23 from rfl, b1]
  simp only [Option.bind_some]
  rw [putHeirC ht (by omega)]
  simp only [Option.bind_some]
  have p2 : Fr (fun c j => c = 6 ∧ j = 4 * T 0 1 + 1) M2 (up M2 (4 + 2) (4 * T 0 1 + (0 + 1)) (nI (numS b n 0 23 0 (numS b n 0 9 0 st).1).2)) := Fr.rfl'.up (by omega)
  have w2 : (up M2 (4 + 2) (4 * T 0 1 + (0 + 1)) (nI (numS b n 0 23 0 (numS b n 0 9 0 st).1).2)) 6 (4 * T 0 1 + 1) = nI (numS b n 0 23 0 (numS b n 0 9 0 st).1).2 := up_same _ _ _ _
  generalize up M2 (4 + 2) (4 * T 0 1 + (0 + 1)) (nI (numS b n 0 23 0 (numS b n 0 9 0 st).1).2) = N2 at *
  have t2 : TpC N2 b n := (t1.fr b2 (by unfold RnF; omega) (fun j => by unfold RnF; omega)).fr p2 (by omega) (fun j => by omega)
  rw [show 0 + 1 + 1 = 2 from rfl, heir34_2 ht w2]
  -- until
  obtain ⟨M3, c1, c2, c3, -⟩ := readNumberC (M := N2) (lo := (numS b n 0 23 0 (numS b n 0 9 0 st).1).2) (hi := 23) hB t2 o2 (b3.ln p2 (by omega) (by omega) (by omega)) v2.2 (by omega)
  rw [c1]
  simp only [Option.bind_some]
  rw [putHeirC ht (by omega)]
  simp only [Option.bind_some]
  rw [heir34_a (by omega) (by omega)]
  have p3 : Fr (fun c j => c = 6 ∧ j = 4 * T 0 1 + 2) M3 (up M3 (4 + 2) (4 * T 0 1 + 2) (nI (numS b n (numS b n 0 23 0 (numS b n 0 9 0 st).1).2 23 0 (numS b n 0 23 0 (numS b n 0 9 0 st).1).1).2)) := Fr.rfl'.up (by omega)
  have w3 : (up M3 (4 + 2) (4 * T 0 1 + 2) (nI (numS b n (numS b n 0 23 0 (numS b n 0 9 0 st).1).2 23 0 (numS b n 0 23 0 (numS b n 0 9 0 st).1).1).2)) 6 (4 * T 0 1 + 2) = nI (numS b n (numS b n 0 23 0 (numS b n 0 9 0 st).1).2 23 0 (numS b n 0 23 0 (numS b n 0 9 0 st).1).1).2 := up_same _ _ _ _
  generalize up M3 (4 + 2) (4 * T 0 1 + 2) (nI (numS b n (numS b n 0 23 0 (numS b n 0 9 0 st).1).2 23 0 (numS b n 0 23 0 (numS b n 0 9 0 st).1).1).2) = N3 at *
  have t3 : TpC N3 b n := (t2.fr c2 (by unfold RnF; omega) (fun j => by unfold RnF; omega)).fr p3 (by omega) (fun j => by omega)
  -- hook
  obtain ⟨M4, d1, d2, d3, -⟩ := readNumberC (M := N3) (lo := 0) (hi := 9) hB t3 o3 (c3.ln p3 (by omega) (by omega) (by omega)) (by omega) (by omega)
  rw [show hhi 3 = 9 from rfl, d1]
  simp only [Option.bind_some]
  rw [putHeirC ht (by omega)]
  simp only [Option.bind_some]
  rw [show 3 + 1 = 4 from rfl, heir34_e]
  have p4 : Fr (fun c j => c = 6 ∧ j = 4 * T 0 1 + 3) M4 (up M4 (4 + 2) (4 * T 0 1 + 3) (nI (numS b n 0 9 0 (numS b n (numS b n 0 23 0 (numS b n 0 9 0 st).1).2 23 0 (numS b n 0 23 0 (numS b n 0 9 0 st).1).1).1).2)) := Fr.rfl'.up (by omega)
  have w4 : (up M4 (4 + 2) (4 * T 0 1 + 3) (nI (numS b n 0 9 0 (numS b n (numS b n 0 23 0 (numS b n 0 9 0 st).1).2 23 0 (numS b n 0 23 0 (numS b n 0 9 0 st).1).1).1).2)) 6 (4 * T 0 1 + 3) = nI (numS b n 0 9 0 (numS b n (numS b n 0 23 0 (numS b n 0 9 0 st).1).2 23 0 (numS b n 0 23 0 (numS b n 0 9 0 st).1).1).1).2 := up_same _ _ _ _
  generalize up M4 (4 + 2) (4 * T 0 1 + 3) (nI (numS b n 0 9 0 (numS b n (numS b n 0 23 0 (numS b n 0 9 0 st).1).2 23 0 (numS b n 0 23 0 (numS b n 0 9 0 st).1).1).1).2) = N4 at *
  have big : ∀ c j, ¬ (c = 2 ∧ 2 ≤ j ∧ j ≤ 5) → ¬ (c = 1 ∧ 2 ≤ j ∧ j ≤ 3) → ¬ (c = 4 ∧ j = 5) → ¬ (c = 6 ∧ 4 * T 0 1 ≤ j) → N4 c j = M c j := by
    intro c j h1 h2 h3 h4
    rw [p4 c j (by omega), d2 c j (by unfold RnF; omega), p3 c j (by omega), c2 c j (by unfold RnF; omega), p2 c j (by omega), b2 c j (by unfold RnF; omega), p1 c j (by omega), a2 c j (by unfold RnF; omega), g0 c j (by omega)]
  refine ⟨N4, rfl, fun c j hc => ?_, d3.ln p4 (by omega) (by omega) (by omega), ?_, ?_, ?_, ?_⟩
  · unfold LnC at hc
    exact big c j (by omega) (by omega) (by omega) (by omega)
  · refine repC_addH hC ?_ ?_ ?_ ?_ w4 (fun c j h1 h2 h3 h4 => big c j (by omega) (by omega) h3 h4)
    · rw [p4 4 5 (by omega), d2 4 5 (by unfold RnF; omega), p3 4 5 (by omega), c2 4 5 (by unfold RnF; omega), p2 4 5 (by omega), b2 4 5 (by unfold RnF; omega), p1 4 5 (by omega), a2 4 5 (by unfold RnF; omega), v0]
    · rw [p4 6 _ (by omega), d2 6 _ (by unfold RnF; omega), p3 6 _ (by omega), c2 6 _ (by unfold RnF; omega), p2 6 _ (by omega), b2 6 _ (by unfold RnF; omega), w1]
    · rw [p4 6 _ (by omega), d2 6 _ (by unfold RnF; omega), p3 6 _ (by omega), c2 6 _ (by unfold RnF; omega), w2]
    · rw [p4 6 _ (by omega), d2 6 _ (by unfold RnF; omega), w3]
  · rw [big 1 4 (by omega) (by omega) (by omega) (by omega), i1]
  · rw [big 1 5 (by omega) (by omega) (by omega) (by omega), i2]
  · rw [big 1 6 (by omega) (by omega) (by omega) (by omega), i3]
theorem currentC {M : Mem} {b : Nat → Nat} {n q : Nat} {T : Sv} {rm hm ph : Nat} (hB : TpB b n) (hT : TpC M b n) (hq : q ≤ n) (hS : CS M (.inl q)) (hI : PCi M (T, rm, hm, ph)) (hm1 : rm < 2 ^ 10) (hm2 : hm < 2 ^ 24) : ∃ M1, f_X1_readCurrent M = some M1 ∧ Fr LnC M M1 ∧ CS M1 (numS b n 0 4 0 (numS b n 0 9 rm (.inl q)).1).1 ∧ ∀ z, (numS b n 0 4 0 (numS b n 0 9 rm (.inl q)).1).1 = .inl z → PCi M1 (setS T 3 (numS b n 0 9 rm (.inl q)).2 (numS b n 0 4 0 (numS b n 0 9 rm (.inl q)).1).2, rm ||| 2 ^ (numS b n 0 9 rm (.inl q)).2, hm, ph) := by
  have n160 := hB.1
  obtain ⟨hC, i1, i2, i3⟩ := hI
  simp only at hC i1 i2 i3
  obtain ⟨M1, a1, a2, a3, a4⟩ := readNumberC (lo := 0) (hi := 9) hB hT (st := .inl q) hq hS (by omega) (by omega)
  have v1 := numS_v (b := b) (n := n) (lo := 0) (hi := 9) (m := 0) (by omega) (.inl q)
  have o1 := (numS_s (b := b) (lo := 0) (hi := 9) (m := 0) (q := 0) (st := .inl q) hq (pos0 _)).1
  have a14 := a4 q rfl
  have t1 : TpC M1 b n := hT.fr a2 (by unfold RnF; omega) (fun j => by unfold RnF; omega)
  have g1 : Fr LnC M M1 := a2.mono (fun _ _ => RnF_LnC)
  -- behind a fault
  have dead : ∀ (M2 : Mem) (e : Nat × Nat) (v : Int32), 1 ≤ e.1 → e.1 ≤ 5 → e.2 ≤ n → CS M2 (.inr e) → TpC M2 b n → f_X1_readCurrent_32 v M2 = some M2 := by
    intro M2 e v e1 e5 e2 hS2 hT2
    unfold f_X1_readCurrent_32 f_X1_readNumber
    have ne : ¬ (M2 1 2 = (0 : Int32)) := by
      rw [hS2.1]
      exact fun z => absurd ((nI_lit 0 (by omega) (by omega)).mp z) (by omega)
    rw [if_neg ne]
    simp only [Option.bind_some]
    rw [if_neg ne]
  unfold f_X1_readCurrent
  rw [show f_X1_readNumber 0 9 M = f_X1_readNumber (nI 0) (nI 9) M from rfl, a1]
  simp only [Option.bind_some]
  cases hst : (numS b n 0 9 0 (.inl q)).1 with
  | inr e =>
    rw [hst] at a3 o1
    obtain ⟨c1, c5, cs⟩ := o1
    have ne : ¬ (M1 1 2 = (0 : Int32)) := by
      rw [a3.1]
      exact fun z => absurd ((nI_lit 0 (by omega) (by omega)).mp z) (by omega)
    rw [if_neg ne, dead M1 e _ c1 c5 cs a3 t1, numS_me (m := rm) hst, hst]
    exact ⟨M1, rfl, g1, a3, fun z hz => by cases hz⟩
  | inl q' =>
    rw [hst] at a3 o1
    have s32 : M1 1 2 = (0 : Int32) := a3.1
    have e34 : M1 1 4 = nI rm := by rw [a2 1 4 (by unfold RnF; omega), i1]
    rw [if_pos s32, e34, nI_shr (by omega) (by omega), nI_and1, numS_mi (m := rm) hst]
    generalize hv : (numS b n 0 9 0 (.inl q)).2 = v at *
    have l2 := Nat.mod_lt (rm / 2 ^ v) (show 0 < 2 by omega)
    by_cases h5 : rm / 2 ^ v % 2 = 1
    · rw [if_pos ((nI_lit 1 (by omega) (by omega)).mpr h5), failC a14]
      simp only [Option.bind_some, if_pos h5]
      have g2 : Fr LnC M (up (up M1 1 2 4) 1 3 (nI (tS b n q))) := (g1.up (by unfold LnC; omega)).up (by unfold LnC; omega)
      have c2 : CS (up (up M1 1 2 4) 1 3 (nI (tS b n q))) (.inr (4, tS b n q)) := ⟨by rw [up_slot (by omega), up_same]; rfl, up_same _ _ _ _⟩
      rw [dead _ (4, tS b n q) _ (by simp only; omega) (by simp only; omega) (tS_b hq).2 c2 (hT.ln g2)]
      exact ⟨_, rfl, g2, c2, fun z hz => by cases hz⟩
    · rw [if_neg (fun z => h5 ((nI_lit 1 (by omega) (by omega)).mp z))]
      simp only [if_neg h5]
      obtain ⟨M2, b1, b2, b3, -⟩ := readNumberC (M := M1) (lo := 0) (hi := 4) (st := .inl q') hB t1 o1 a3 (by omega) (by omega)
      have o2 := (numS_s (b := b) (lo := 0) (hi := 4) (m := 0) (q := 0) (st := .inl q') o1 (pos0 _)).1
      have g2 : Fr LnC M M2 := g1.trans (b2.mono (fun _ _ => RnF_LnC))
      unfold f_X1_readCurrent_32
      rw [show f_X1_readNumber 0 4 M1 = f_X1_readNumber (nI 0) (nI 4) M1 from rfl, b1]
      simp only [Option.bind_some]
      cases hs2 : (numS b n 0 4 0 (.inl q')).1 with
      | inr e =>
        rw [hs2] at b3 o2
        obtain ⟨c1, c5, cs⟩ := o2
        have ne : ¬ (M2 1 2 = (0 : Int32)) := by
          rw [b3.1]
          exact fun z => absurd ((nI_lit 0 (by omega) (by omega)).mp z) (by omega)
        rw [if_neg ne]
        exact ⟨M2, rfl, g2, b3, fun z hz => by cases hz⟩
      | inl q2 =>
        rw [hs2] at b3
        have s33 : M2 1 2 = (0 : Int32) := b3.1
        have e35 : M2 1 4 = nI rm := by rw [b2 1 4 (by unfold RnF; omega), e34]
        rw [if_pos s33]
        simp only [lm]
        rw [e35, one_shl (by omega), nI_or, inb_ok (by omega) (by omega), nI_clamp (by omega)]
        have hC2 : RepC M2 4 T := (hC.fr a2 (fun c j x y => by unfold RnF; omega)).fr b2 (fun c j x y => by unfold RnF; omega)
        have hC3 : RepC (up M2 1 4 (nI (rm ||| 2 ^ v))) 4 T := hC2.upM (by omega)
        refine ⟨_, rfl, (g2.up (by unfold LnC; omega)).up (by unfold LnC; omega), ⟨by rw [up_cell (by omega), up_slot (by omega)]; exact b3.1, by rw [up_cell (by omega), up_cell (by omega)]; exact b3.2⟩, fun z hz => ⟨hC3.curU v _, ?_, ?_, ?_⟩⟩
        · rw [up_cell (by omega), up_same]
        · rw [up_cell (by omega), up_slot (by omega), b2 1 5 (by unfold RnF; omega), a2 1 5 (by unfold RnF; omega), i2]
        · rw [up_cell (by omega), up_slot (by omega), b2 1 6 (by unfold RnF; omega), a2 1 6 (by unfold RnF; omega), i3]
theorem windC {M : Mem} {b : Nat → Nat} {n q : Nat} {T : Sv} {rm hm ph : Nat} (hB : TpB b n) (hT : TpC M b n) (hq : q ≤ n) (hS : CS M (.inl q)) (hI : PCi M (T, rm, hm, ph)) (hm1 : rm < 2 ^ 10) (hm2 : hm < 2 ^ 24) : ∃ M1, f_X1_readWind M = some M1 ∧ Fr LnC M M1 ∧ CS M1 (numS b n 0 4 0 (numS b n 0 23 hm (.inl q)).1).1 ∧ ∀ z, (numS b n 0 4 0 (numS b n 0 23 hm (.inl q)).1).1 = .inl z → PCi M1 (setS T 4 (numS b n 0 23 hm (.inl q)).2 (numS b n 0 4 0 (numS b n 0 23 hm (.inl q)).1).2, rm, hm ||| 2 ^ (numS b n 0 23 hm (.inl q)).2, ph) := by
  have n160 := hB.1
  obtain ⟨hC, i1, i2, i3⟩ := hI
  simp only at hC i1 i2 i3
  obtain ⟨M1, a1, a2, a3, a4⟩ := readNumberC (lo := 0) (hi := 23) hB hT (st := .inl q) hq hS (by omega) (by omega)
  have v1 := numS_v (b := b) (n := n) (lo := 0) (hi := 23) (m := 0) (by omega) (.inl q)
  have o1 := (numS_s (b := b) (lo := 0) (hi := 23) (m := 0) (q := 0) (st := .inl q) hq (pos0 _)).1
  have a14 := a4 q rfl
  have t1 : TpC M1 b n := hT.fr a2 (by unfold RnF; omega) (fun j => by unfold RnF; omega)
  have g1 : Fr LnC M M1 := a2.mono (fun _ _ => RnF_LnC)
  -- behind a fault
  have dead : ∀ (M2 : Mem) (e : Nat × Nat) (v : Int32), 1 ≤ e.1 → e.1 ≤ 5 → e.2 ≤ n → CS M2 (.inr e) → TpC M2 b n → f_X1_readWind_32 v M2 = some M2 := by
    intro M2 e v e1 e5 e2 hS2 hT2
    unfold f_X1_readWind_32 f_X1_readNumber
    have ne : ¬ (M2 1 2 = (0 : Int32)) := by
      rw [hS2.1]
      exact fun z => absurd ((nI_lit 0 (by omega) (by omega)).mp z) (by omega)
    rw [if_neg ne]
    simp only [Option.bind_some]
    rw [if_neg ne]
  unfold f_X1_readWind
  rw [show f_X1_readNumber 0 23 M = f_X1_readNumber (nI 0) (nI 23) M from rfl, a1]
  simp only [Option.bind_some]
  cases hst : (numS b n 0 23 0 (.inl q)).1 with
  | inr e =>
    rw [hst] at a3 o1
    obtain ⟨c1, c5, cs⟩ := o1
    have ne : ¬ (M1 1 2 = (0 : Int32)) := by
      rw [a3.1]
      exact fun z => absurd ((nI_lit 0 (by omega) (by omega)).mp z) (by omega)
    rw [if_neg ne, dead M1 e _ c1 c5 cs a3 t1, numS_me (m := hm) hst, hst]
    exact ⟨M1, rfl, g1, a3, fun z hz => by cases hz⟩
  | inl q' =>
    rw [hst] at a3 o1
    have s32 : M1 1 2 = (0 : Int32) := a3.1
    have e34 : M1 1 5 = nI hm := by rw [a2 1 5 (by unfold RnF; omega), i2]
    rw [if_pos s32, e34, nI_shr (by omega) (by omega), nI_and1, numS_mi (m := hm) hst]
    generalize hv : (numS b n 0 23 0 (.inl q)).2 = v at *
    have l2 := Nat.mod_lt (hm / 2 ^ v) (show 0 < 2 by omega)
    by_cases h5 : hm / 2 ^ v % 2 = 1
    · rw [if_pos ((nI_lit 1 (by omega) (by omega)).mpr h5), failC a14]
      simp only [Option.bind_some, if_pos h5]
      have g2 : Fr LnC M (up (up M1 1 2 4) 1 3 (nI (tS b n q))) := (g1.up (by unfold LnC; omega)).up (by unfold LnC; omega)
      have c2 : CS (up (up M1 1 2 4) 1 3 (nI (tS b n q))) (.inr (4, tS b n q)) := ⟨by rw [up_slot (by omega), up_same]; rfl, up_same _ _ _ _⟩
      rw [dead _ (4, tS b n q) _ (by simp only; omega) (by simp only; omega) (tS_b hq).2 c2 (hT.ln g2)]
      exact ⟨_, rfl, g2, c2, fun z hz => by cases hz⟩
    · rw [if_neg (fun z => h5 ((nI_lit 1 (by omega) (by omega)).mp z))]
      simp only [if_neg h5]
      obtain ⟨M2, b1, b2, b3, -⟩ := readNumberC (M := M1) (lo := 0) (hi := 4) (st := .inl q') hB t1 o1 a3 (by omega) (by omega)
      have o2 := (numS_s (b := b) (lo := 0) (hi := 4) (m := 0) (q := 0) (st := .inl q') o1 (pos0 _)).1
      have g2 : Fr LnC M M2 := g1.trans (b2.mono (fun _ _ => RnF_LnC))
      unfold f_X1_readWind_32
      rw [show f_X1_readNumber 0 4 M1 = f_X1_readNumber (nI 0) (nI 4) M1 from rfl, b1]
      simp only [Option.bind_some]
      cases hs2 : (numS b n 0 4 0 (.inl q')).1 with
      | inr e =>
        rw [hs2] at b3 o2
        obtain ⟨c1, c5, cs⟩ := o2
        have ne : ¬ (M2 1 2 = (0 : Int32)) := by
          rw [b3.1]
          exact fun z => absurd ((nI_lit 0 (by omega) (by omega)).mp z) (by omega)
        rw [if_neg ne]
        exact ⟨M2, rfl, g2, b3, fun z hz => by cases hz⟩
      | inl q2 =>
        rw [hs2] at b3
        have s33 : M2 1 2 = (0 : Int32) := b3.1
        have e35 : M2 1 5 = nI hm := by rw [b2 1 5 (by unfold RnF; omega), e34]
        rw [if_pos s33]
        simp only [lm]
        rw [e35, one_shl (by omega), nI_or, inb_ok (by omega) (by omega), nI_clamp (by omega)]
        have hC2 : RepC M2 4 T := (hC.fr a2 (fun c j x y => by unfold RnF; omega)).fr b2 (fun c j x y => by unfold RnF; omega)
        have hC3 : RepC (up M2 1 5 (nI (hm ||| 2 ^ v))) 4 T := hC2.upM (by omega)
        refine ⟨_, rfl, (g2.up (by unfold LnC; omega)).up (by unfold LnC; omega), ⟨by rw [up_cell (by omega), up_slot (by omega)]; exact b3.1, by rw [up_cell (by omega), up_cell (by omega)]; exact b3.2⟩, fun z hz => ⟨hC3.windU v _, ?_, ?_, ?_⟩⟩
        · rw [up_cell (by omega), up_slot (by omega), b2 1 4 (by unfold RnF; omega), a2 1 4 (by unfold RnF; omega), i1]
        · rw [up_cell (by omega), up_same]
        · rw [up_cell (by omega), up_slot (by omega), b2 1 6 (by unfold RnF; omega), a2 1 6 (by unfold RnF; omega), i3]
theorem phaseC {M : Mem} {b : Nat → Nat} {n q : Nat} {T : Sv} {rm hm : Nat} (hB : TpB b n) (hT : TpC M b n) (hq : q ≤ n) (hS : CS M (.inl q)) (hI : PCi M (T, rm, hm, 0)) : ∃ M1, f_X1_readPhase M = some M1 ∧ Fr LnC M M1 ∧ CS M1 (numS b n 0 5 0 (.inl q)).1 ∧ PCi M1 (setS T 0 2 (numS b n 0 5 0 (.inl q)).2, rm, hm, 1) := by
  obtain ⟨hC, i1, i2, i3⟩ := hI
  simp only at hC i1 i2 i3
  unfold f_X1_readPhase
  rw [i3, if_pos (show nI 0 = (0 : Int32) from rfl)]
  simp only [lm]
  have g0 : Fr (fun c j => c = 1 ∧ j = 6) M (up M 1 6 1) := Fr.rfl'.up (by omega)
  have w0 : (up M 1 6 1) 1 6 = nI 1 := up_same _ _ _ _
  generalize up M 1 6 1 = M0 at *
  obtain ⟨M1, a1, a2, a3, -⟩ := readNumberC (M := M0) (lo := 0) (hi := 5) (st := .inl q) hB (hT.fr g0 (by omega) (fun j => by omega)) hq (hS.ln g0 (by omega) (by omega) (by omega)) (by omega) (by omega)
  rw [show f_X1_readNumber 0 5 M0 = f_X1_readNumber (nI 0) (nI 5) M0 from rfl, a1]
  simp only [Option.bind_some]
  have p1 : Fr (fun c j => c = 4 ∧ j = 6) M1 (up M1 4 6 (nI (numS b n 0 5 0 (.inl q)).2)) := Fr.rfl'.up (by omega)
  have hC1 : RepC M1 4 T := (hC.fr g0 (fun c j x y => by omega)).fr a2 (fun c j x y => by unfold RnF; omega)
  refine ⟨_, rfl, ((g0.mono (fun c j x => by unfold LnC; omega)).trans (a2.mono (fun _ _ => RnF_LnC))).trans (p1.mono (fun c j x => by unfold LnC; omega)), a3.ln p1 (by omega) (by omega) (by omega), hC1.phaseU _, ?_, ?_, ?_⟩
  · rw [p1 1 4 (by omega), a2 1 4 (by unfold RnF; omega), g0 1 4 (by omega), i1]
  · rw [p1 1 5 (by omega), a2 1 5 (by unfold RnF; omega), g0 1 5 (by omega), i2]
  · rw [p1 1 6 (by omega), a2 1 6 (by unfold RnF; omega), w0]
