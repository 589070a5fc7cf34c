/-! NUMBERS: at a place, or fallen by (which, where) -/
abbrev PSt : Type := Nat ⊕ (Nat × Nat)
def numS (b : Nat → Nat) (n lo hi m : Nat) : PSt → PSt × Nat
  | .inr e => (.inr e, lo)
  | .inl p => if tK b n p = 4 then (.inr (1, tS b n p), lo) else if tK b n p ≠ 2 then (.inr (2, tS b n p), lo) else if ¬ (lo ≤ tV b n p ∧ tV b n p ≤ hi) then (.inr (3, tS b n p), lo) else if m / 2 ^ tV b n p % 2 = 1 then (.inr (4, tS b n p), lo) else (.inl (tE b n p), tV b n p)
def StOK (n : Nat) : PSt → Prop
  | .inl p => p ≤ n
  | .inr e => 1 ≤ e.1 ∧ e.1 ≤ 5 ∧ e.2 ≤ n
def CS (M : Mem) : PSt → Prop
  | .inl p => M 1 2 = nI 0 ∧ M 2 2 = nI p
  | .inr e => M 1 2 = nI e.1 ∧ M 1 3 = nI e.2
def MP (M : Mem) (b : Nat → Nat) (n : Nat) : PSt → Prop
  | .inl p => MS M b n p
  | .inr e => MF M e.1 e.2
def posGe (q : Nat) : PSt → Prop
  | .inl p => q ≤ p
  | .inr _ => True
theorem numS_v {b : Nat → Nat} {n lo hi m : Nat} (h : lo ≤ hi) (st : PSt) : lo ≤ (numS b n lo hi m st).2 ∧ (numS b n lo hi m st).2 ≤ hi := by
  cases st with
  | inr e => exact ⟨Nat.le_refl _, h⟩
  | inl p =>
    unfold numS
    by_cases h1 : tK b n p = 4
    · simp only [if_pos h1]; omega
    · simp only [if_neg h1]
      by_cases h2 : tK b n p ≠ 2
      · simp only [if_pos h2]; omega
      · simp only [if_neg h2]
        by_cases h3 : ¬ (lo ≤ tV b n p ∧ tV b n p ≤ hi)
        · simp only [if_pos h3]; omega
        · simp only [if_neg h3]
          by_cases h4 : m / 2 ^ tV b n p % 2 = 1
          · simp only [if_pos h4]; omega
          · simp only [if_neg h4]; omega
theorem numS_s {b : Nat → Nat} {n lo hi m q : Nat} {st : PSt} (h : StOK n st) (hq : posGe q st) : StOK n (numS b n lo hi m st).1 ∧ posGe q (numS b n lo hi m st).1 := by
  cases st with
  | inr e => exact ⟨h, trivial⟩
  | inl p =>
    have hp : p ≤ n := h
    have hq' : q ≤ p := hq
    have sb := tS_b (b := b) hp
    have eb := tE_b (b := b) hp
    unfold numS
    by_cases h1 : tK b n p = 4
    · simp only [if_pos h1]; exact ⟨⟨by simp only; omega, by simp only; omega, by simp only; omega⟩, trivial⟩
    · simp only [if_neg h1]
      by_cases h2 : tK b n p ≠ 2
      · simp only [if_pos h2]; exact ⟨⟨by simp only; omega, by simp only; omega, by simp only; omega⟩, trivial⟩
      · simp only [if_neg h2]
        by_cases h3 : ¬ (lo ≤ tV b n p ∧ tV b n p ≤ hi)
        · simp only [if_pos h3]; exact ⟨⟨by simp only; omega, by simp only; omega, by simp only; omega⟩, trivial⟩
        · simp only [if_neg h3]
          by_cases h4 : m / 2 ^ tV b n p % 2 = 1
          · simp only [if_pos h4]; exact ⟨⟨by simp only; omega, by simp only; omega, by simp only; omega⟩, trivial⟩
          · simp only [if_neg h4]; exact ⟨eb.2.1, show q ≤ tE b n p by omega⟩
def RnF (c j : Nat) : Prop := (c = 2 ∧ 2 ≤ j ∧ j ≤ 5) ∨ (c = 1 ∧ 2 ≤ j ∧ j ≤ 3)
theorem failC {M : Mem} {c : Int32} {s : Nat} (h4 : M 2 4 = nI s) : f_X1_fail c M = some (up (up M 1 2 c) 1 3 (nI s)) := by
  unfold f_X1_fail
  simp only [lm]
  rw [up_cell (show (2 : Nat) ≠ 1 by omega), h4]
theorem failTokenC {M : Mem} {k s : Nat} (h3 : M 2 3 = nI k) (hk : k ≤ 4) (h4 : M 2 4 = nI s) : f_X1_failToken M = some (up (up M 1 2 (nI (if k = 4 then 1 else 2))) 1 3 (nI s)) := by
  unfold f_X1_failToken f_X1_failToken_17
  rw [h3]
  by_cases q : k = 4
  · rw [if_pos ((nI_lit 4 (by omega) (by omega)).mpr q), failC h4, if_pos q]
    rfl
  · rw [if_neg (fun z => q ((nI_lit 4 (by omega) (by omega)).mp z)), failC h4, if_neg q]
    rfl
theorem readNumberC {M : Mem} {b : Nat → Nat} {n lo hi : Nat} {st : PSt} (hB : TpB b n) (hT : TpC M b n) (hst : StOK n st) (hS : CS M st) (hl : lo ≤ hi) (hh : hi ≤ 99) : ∃ M1, f_X1_readNumber (nI lo) (nI hi) M = some (nI (numS b n lo hi 0 st).2, M1) ∧ Fr RnF M M1 ∧ CS M1 (numS b n lo hi 0 st).1 ∧ ∀ p, st = .inl p → M1 2 4 = nI (tS b n p) := by
  have n160 := hB.1
  cases st with
  | inr e =>
    obtain ⟨c1, c5, cs⟩ := hst
    obtain ⟨s1, s2⟩ := hS
    unfold f_X1_readNumber
    rw [s1, if_neg (fun z => absurd ((nI_lit 0 (by omega) (by omega)).mp z) (by omega))]
    exact ⟨M, rfl, Fr.rfl', ⟨s1, s2⟩, fun p hp => by cases hp⟩
  | inl p =>
    obtain ⟨s1, s2⟩ := hS
    have hp : p ≤ n := hst
    have sb := tS_b (b := b) hp
    have eb := tE_b (b := b) hp
    have kl := tK_le (b := b) (n := n) (p := p)
    obtain ⟨M1, a1, a2, a3, a4, a5, a6⟩ := takeC hB hT hp s2
    have g0 : Fr RnF M M1 := a2.mono (fun c j x => by unfold TkF at x; unfold RnF; omega)
    have b32 : M1 1 2 = nI 0 := by rw [a2 1 2 (by unfold TkF; omega), s1]
    unfold f_X1_readNumber f_X1_readNumber_54
    rw [s1, if_pos (show nI 0 = (0 : Int32) from rfl), a1]
    simp only [Option.bind_some]
    rw [a4]
    unfold numS
    by_cases h2 : tK b n p = 2
    · have a7 := a6 h2
      rw [if_pos ((nI_lit 2 (by omega) (by omega)).mpr h2), a7, within_eq]
      simp only [Option.bind_some, ite_b2]
      have tl : tV b n p ≤ 99 := by
        have hs : tS b n p < n := by
          apply Classical.byContradiction
          intro z
          have := tK_0.mpr (show n ≤ tS b n p by omega)
          omega
        have hkn : kn (b (tS b n p)) = 2 := by
          unfold tK at h2
          rw [if_neg (by omega)] at h2
          split at h2
          · omega
          · exact h2
        have hL : tE b n p - tS b n p ≤ 2 := by
          apply Classical.byContradiction
          intro z
          have : tK b n p = 4 := by unfold tK; rw [if_neg (by omega), if_pos ⟨hkn, by omega⟩]
          omega
        have := (vlB_le (b := b) (s := tS b n p) (tE b n p - tS b n p) hL (fun j hj => (tok_num hp hs hkn _ (by omega) (by omega)).2)).1
        exact this
      rw [nI_toInt (by omega), nI_toInt (by omega), nI_toInt (by omega)]
      simp only [if_neg (show ¬ tK b n p = 4 by omega), if_neg (show ¬ (tK b n p ≠ 2) by omega)]
      by_cases h3 : lo ≤ tV b n p ∧ tV b n p ≤ hi
      · rw [if_pos (by omega), if_neg (show ¬ ¬ (lo ≤ tV b n p ∧ tV b n p ≤ hi) from fun z => z h3), if_neg (show ¬ (0 / 2 ^ tV b n p % 2 = 1) by rw [Nat.zero_div]; omega), b32, if_pos (show nI 0 = (0 : Int32) from rfl)]
        exact ⟨M1, rfl, g0, ⟨b32, a3⟩, fun p' hp' => by cases hp'; exact a5⟩
      · rw [if_neg (by omega), if_pos h3, failC a5]
        simp only [Option.bind_some]
        rw [up_slot (show (2 : Nat) ≠ 3 by omega), up_same, if_neg (show ¬ ((3 : Int32) = 0) by decide)]
        refine ⟨_, rfl, (g0.up (by unfold RnF; omega)).up (by unfold RnF; omega), ⟨by rw [up_slot (by omega), up_same]; rfl, up_same _ _ _ _⟩, fun p' hp' => by cases hp'; rw [up_cell (by omega), up_cell (by omega), a5]⟩
    · rw [if_neg (fun z => h2 ((nI_lit 2 (by omega) (by omega)).mp z)), failTokenC a4 kl a5]
      simp only [Option.bind_some]
      have key : (up (up M1 1 2 (nI (if tK b n p = 4 then 1 else 2))) 1 3 (nI (tS b n p))) 1 2 = nI (if tK b n p = 4 then 1 else 2) := by rw [up_slot (by omega), up_same]
      rw [key]
      have ne : ¬ (nI (if tK b n p = 4 then 1 else 2) = (0 : Int32)) := by
        split
        · decide
        · decide
      rw [if_neg ne]
      have gg : Fr RnF M (up (up M1 1 2 (nI (if tK b n p = 4 then 1 else 2))) 1 3 (nI (tS b n p))) := (g0.up (by unfold RnF; omega)).up (by unfold RnF; omega)
      have g4 : (up (up M1 1 2 (nI (if tK b n p = 4 then 1 else 2))) 1 3 (nI (tS b n p))) 2 4 = nI (tS b n p) := by rw [up_cell (by omega), up_cell (by omega), a5]
      have g3 : (up (up M1 1 2 (nI (if tK b n p = 4 then 1 else 2))) 1 3 (nI (tS b n p))) 1 3 = nI (tS b n p) := up_same _ _ _ _
      generalize up (up M1 1 2 (nI (if tK b n p = 4 then 1 else 2))) 1 3 (nI (tS b n p)) = M2 at *
      by_cases h4 : tK b n p = 4
      · simp only [if_pos h4] at key ⊢
        exact ⟨M2, rfl, gg, ⟨key, g3⟩, fun p' hp' => by cases hp'; exact g4⟩
      · simp only [if_neg h4] at key ⊢
        simp only [if_pos (show tK b n p ≠ 2 from h2)]
        exact ⟨M2, rfl, gg, ⟨key, g3⟩, fun p' hp' => by cases hp'; exact g4⟩
theorem otherM {M : Mem} {b : Nat → Nat} {n lo hi m : Nat} {st : PSt} (hB : TpB b n) (hT : TpM M b n) (hst : StOK n st) (hS : MP M b n st) (hl : lo ≤ hi) (hh : hi ≤ 99) (hm : m = 0 ∨ (hi < 31 ∧ m < 2147483648)) : ∃ M1, f_X6_other (nI lo) (nI hi) (nI m) M = some (nI (numS b n lo hi m st).2, M1) ∧ Fr StF M M1 ∧ MP M1 b n (numS b n lo hi m st).1 := by
  have n160 := hB.1
  -- behind a fault nothing is read
  have dead : ∀ (M2 : Mem) (k s : Nat), 1 ≤ k → k < 6 → M2 54 11 = nI k → M2 54 12 = nI s → Fr StF M M2 → (f_X6_other_75 (nI lo) (nI hi) (nI m) M2 = some (nI lo, M2) ∧ f_X6_other_47 (nI lo) (nI hi) (nI m) M2 = some (nI lo, M2) ∧ f_X6_other_20 (nI lo) (nI hi) (nI m) M2 = some (nI lo, M2) ∧ f_X6_other (nI lo) (nI hi) (nI m) M2 = some (nI lo, M2)) ∧ MF M2 k s := by
    intro M2 k s h1 h6 e1 e2 hf
    have ne : ¬ (M2 54 11 = (0 : Int32)) := by
      rw [e1]
      exact fun z => absurd ((nI_lit 0 (by omega) (by omega)).mp z) (by omega)
    have e75 : f_X6_other_75 (nI lo) (nI hi) (nI m) M2 = some (nI lo, M2) := by
      unfold f_X6_other_75 f_X6_other_90
      rw [if_neg ne, stepM_no e1 h1 h6]
      rfl
    have e47 : f_X6_other_47 (nI lo) (nI hi) (nI m) M2 = some (nI lo, M2) := by
      unfold f_X6_other_47
      rw [if_neg ne, e75]
    have e20 : f_X6_other_20 (nI lo) (nI hi) (nI m) M2 = some (nI lo, M2) := by
      unfold f_X6_other_20
      rw [if_neg ne, e47]
    refine ⟨⟨e75, e47, e20, ?_⟩, e1, e2⟩
    unfold f_X6_other
    rw [if_neg ne, e20]
  cases st with
  | inr e =>
    obtain ⟨c1, c5, cs⟩ := hst
    obtain ⟨⟨-, -, -, d⟩, d2⟩ := dead M e.1 e.2 c1 (by omega) hS.1 hS.2 Fr.rfl'
    exact ⟨M, d, Fr.rfl', d2⟩
  | inl p =>
    have hp : p ≤ n := hst
    have sb := tS_b (b := b) hp
    have eb := tE_b (b := b) hp
    have kl := tK_le (b := b) (n := n) (p := p)
    obtain ⟨m1, m2⟩ := hS
    unfold numS
    by_cases h4 : tK b n p = 4
    · obtain ⟨f1, f2⟩ := m1 h4
      obtain ⟨⟨-, -, -, d⟩, d2⟩ := dead M 1 (tS b n p) (by omega) (by omega) f1 f2 Fr.rfl'
      simp only [if_pos h4]
      exact ⟨M, d, Fr.rfl', d2⟩
    · obtain ⟨e11, e13, e14, e15, e16⟩ := m2 h4
      simp only [if_neg h4]
      have z11 : M 54 11 = (0 : Int32) := e11
      -- what fails
      have bad : ∀ k, 1 ≤ k → k < 6 → ∃ M1, f_X6_fails (nI k) M = some M1 ∧ (f_X6_other_75 (nI lo) (nI hi) (nI m) M1 = some (nI lo, M1) ∧ f_X6_other_47 (nI lo) (nI hi) (nI m) M1 = some (nI lo, M1) ∧ f_X6_other_20 (nI lo) (nI hi) (nI m) M1 = some (nI lo, M1)) ∧ Fr StF M M1 ∧ MF M1 k (tS b n p) := by
        intro k h1 h6
        have g : Fr StF M (up (up M 54 11 (nI k)) 54 12 (nI (tS b n p))) := (Fr.rfl'.up (by unfold StF; omega)).up (by unfold StF; omega)
        obtain ⟨⟨d1, d2, d3, -⟩, d4⟩ := dead (up (up M 54 11 (nI k)) 54 12 (nI (tS b n p))) k (tS b n p) h1 h6 (by rw [up_slot (by omega), up_same]) (up_same _ _ _ _) g
        exact ⟨_, by rw [fails_ok e11, e14], ⟨d1, d2, d3⟩, g, d4⟩
      unfold f_X6_other
      rw [if_pos z11, e15]
      by_cases h2 : tK b n p = 2
      · have e17 := e16 h2
        have tl : tV b n p ≤ 99 := by
          have hs : tS b n p < n := by
            apply Classical.byContradiction
            intro z
            have := tK_0.mpr (show n ≤ tS b n p by omega)
            omega
          have hkn : kn (b (tS b n p)) = 2 := by
            unfold tK at h2
            rw [if_neg (by omega)] at h2
            split at h2
            · omega
            · exact h2
          have hL : tE b n p - tS b n p ≤ 2 := by
            apply Classical.byContradiction
            intro z
            have : tK b n p = 4 := by unfold tK; rw [if_neg (by omega), if_pos ⟨hkn, by omega⟩]
            omega
          exact (vlB_le (b := b) (s := tS b n p) (tE b n p - tS b n p) hL (fun j hj => (tok_num hp hs hkn _ (by omega) (by omega)).2)).1
        rw [if_pos ((nI_lit 2 (by omega) (by omega)).mpr h2)]
        simp only [if_neg (show ¬ (tK b n p ≠ 2) by omega)]
        unfold f_X6_other_20
        rw [if_pos z11, e17, in_int, nI_toInt (by omega), nI_toInt (by omega), nI_toInt (by omega)]
        simp only [Option.bind_some, ite_b2]
        by_cases h3 : lo ≤ tV b n p ∧ tV b n p ≤ hi
        · rw [if_pos (by omega)]
          simp only [if_neg (show ¬ ¬ (lo ≤ tV b n p ∧ tV b n p ≤ hi) from fun z => z h3)]
          have good : ∃ M1, f_X6_other_75 (nI lo) (nI hi) (nI m) M = some (nI (tV b n p), M1) ∧ Fr StF M M1 ∧ MS M1 b n (tE b n p) := by
            unfold f_X6_other_75 f_X6_other_90
            obtain ⟨M1, a1, a2, a3⟩ := stepM (p := tE b n p) hB hT eb.2.1 e11 e13
            rw [if_pos z11, a1, e17]
            exact ⟨M1, rfl, a2, a3⟩
          unfold f_X6_other_47
          rw [if_pos z11, e17]
          by_cases hm0 : m = 0
          · subst hm0
            rw [if_pos (show nI 0 = (0 : Int32) from rfl)]
            simp only [if_neg (show ¬ (0 / 2 ^ tV b n p % 2 = 1) by rw [Nat.zero_div]; omega)]
            exact good
          · rw [if_neg (fun z => hm0 ((nI_lit 0 (by omega) (by omega)).mp z)), nI_shr (by omega) (by omega), nI_and1]
            have l2 := Nat.mod_lt (m / 2 ^ tV b n p) (show 0 < 2 by omega)
            by_cases h5 : m / 2 ^ tV b n p % 2 = 1
            · rw [if_pos ((nI_lit 1 (by omega) (by omega)).mpr h5)]
              simp only [if_pos h5]
              obtain ⟨M1, a1, ⟨a2, -, -⟩, a3, a4⟩ := bad 4 (by omega) (by omega)
              rw [show (4 : Int32) = nI 4 from rfl, a1]
              simp only [Option.bind_some]
              rw [a2]
              exact ⟨M1, rfl, a3, a4⟩
            · rw [if_neg (fun z => h5 ((nI_lit 1 (by omega) (by omega)).mp z))]
              simp only [if_neg h5]
              exact good
        · rw [if_neg (by omega)]
          simp only [if_pos h3]
          obtain ⟨M1, a1, ⟨-, a2, -⟩, a3, a4⟩ := bad 3 (by omega) (by omega)
          rw [show (3 : Int32) = nI 3 from rfl, a1]
          simp only [Option.bind_some]
          rw [a2]
          exact ⟨M1, rfl, a3, a4⟩
      · rw [if_neg (fun z => h2 ((nI_lit 2 (by omega) (by omega)).mp z))]
        simp only [if_pos (show tK b n p ≠ 2 from h2)]
        obtain ⟨M1, a1, ⟨-, -, a2⟩, a3, a4⟩ := bad 2 (by omega) (by omega)
        rw [show (2 : Int32) = nI 2 from rfl, a1]
        simp only [Option.bind_some]
        rw [a2]
        exact ⟨M1, rfl, a3, a4⟩
