theorem toI0 : (0 : Int32).toInt = 0 := by decide
theorem lit_toInt (k : Nat) (h : k < 2147483648) : (@OfNat.ofNat Int32 k Int32.instOfNat).toInt = (k : Int) := nI_toInt h
/-- a check of the class and of the model alike: the bad road -/
theorem ite_b2 {α : Type} {p : Prop} [Decidable p] (A B : α) : (if b2 p = 0 then A else B) = (if p then B else A) := by
  by_cases h : p
  · rw [b2_t h, if_pos h, if_neg (by decide)]
  · rw [b2_f h, if_neg h, if_pos rfl]
theorem nI_lit {a : Nat} (k : Nat) (ha : a < 2 ^ 31) (hk : k < 2 ^ 31) : nI a = (@OfNat.ofNat Int32 k Int32.instOfNat) ↔ a = k := nI_eq (b := k) ha hk
theorem st_fault : St_fault Rel := fun M h => ⟨M 1 2, rfl, by show some (M 54 10) = _; rw [h.2.2.1], h⟩
theorem st_torn : St_torn Rel := fun M h => ⟨M 0 16, rfl, by show some (M 54 35) = _; rw [h.2.2.2.2.2.2.1], h⟩
theorem st_current : St_current Rel := by
  intro M a h
  obtain ⟨⟨S, hW, hC, hM⟩, -⟩ := id h
  unfold f_X5_current f_X6_current
  rw [within_eq, in_eq, lit_toInt 0 (by omega), lit_toInt 9 (by omega), lit64T 0 (by omega), lit64T 9 (by omega)]
  simp only [Option.bind_some]
  by_cases hr : ((0 : Nat) : Int) ≤ a.toInt ∧ a.toInt ≤ ((9 : Nat) : Int)
  · obtain ⟨k, -, hk, rfl⟩ := nI_rng hr
    rw [b2_t hr, if_neg (by decide), rd_ok (by omega) (by omega), show (37 : Int32) = nI 37 from rfl, nI_add, rd_ok (by omega) (by omega)]
    refine ⟨_, rfl, ?_, h⟩
    have h1 := hC.2.2.2.2.2.1 k (by omega)
    have h2 := hM.2.2.2.2.2.1 k (by omega)
    rw [show (0 + 37 + k) = 37 + k by omega] at h2
    rw [if_neg (by decide)]
    show some (M 55 (37 + k) + 2) = some (M 12 k)
    rw [show M 12 k = nI (S 3 k) from h1, h2, show (2 : Int32) = iI 2 from rfl, iI_add, ← iI_nI]
    congr 2
    omega
  · rw [b2_f hr, if_pos rfl]
    exact ⟨_, rfl, rfl, h⟩
theorem st_wind : St_wind Rel := by
  intro M a h
  obtain ⟨⟨S, hW, hC, hM⟩, -⟩ := id h
  unfold f_X5_wind f_X6_wind
  rw [within_eq, isHourM, lit_toInt 0 (by omega), lit_toInt 23 (by omega)]
  simp only [Option.bind_some]
  by_cases hr : ((0 : Nat) : Int) ≤ a.toInt ∧ a.toInt ≤ ((23 : Nat) : Int)
  · obtain ⟨k, -, hk, rfl⟩ := nI_rng hr
    rw [b2_t hr, if_neg (by decide), rd_ok (by omega) (by omega), show (47 : Int32) = nI 47 from rfl, nI_add, rd_ok (by omega) (by omega)]
    refine ⟨_, rfl, ?_, h⟩
    have h1 := hC.2.2.2.2.2.2 k (by omega)
    have h2 := hM.2.2.2.2.2.2 k (by omega)
    rw [show (0 + 47 + k) = 47 + k by omega] at h2
    rw [if_neg (by rw [b2_0]; simpa using hr), h2]
    exact congrArg some h1.symm
  · rw [b2_f hr, if_pos rfl, if_pos (by rw [b2_0]; simpa using hr)]
    exact ⟨_, rfl, rfl, h⟩
theorem st_tub : St_tub Rel := by
  intro M a b h
  obtain ⟨⟨S, hW, hC, hM⟩, -, -, -, -, -, -, hK⟩ := id h
  have hS0 := hW.1
  unfold f_X5_tub f_X6_tub f_X6_tub_20
  rw [isTubC hC hS0, isTubM hM hS0, within_eq, in_eq, lit_toInt 0 (by omega), lit_toInt 5 (by omega), lit64T 0 (by omega), lit64T 5 (by omega)]
  simp only [Option.bind_some, ite_b2]
  by_cases ht : 0 ≤ a.toInt ∧ a.toInt < S 0 0
  · simp only [if_pos ht]
    by_cases hr : ((0 : Nat) : Int) ≤ b.toInt ∧ b.toInt ≤ ((5 : Nat) : Int)
    · simp only [if_pos hr]
      obtain ⟨t, -, ht2, rfl⟩ := nI_rng (lo := 0) (hi := S 0 0 - 1) (x := a) (by omega)
      obtain ⟨w, -, hw, rfl⟩ := nI_rng hr
      rw [nI_toInt (by omega)] at ht
      simp only [nI_lit 5 (show w < 2 ^ 31 by omega) (by omega)]
      by_cases h5 : w = 5
      · subst h5
        simp only [if_true]
        rw [show (0 : Int32) = nI 0 from rfl, ofTubC hC hS0 (by omega) (by omega)]
        have hk := (hW.2.2.2.1 t (by omega)).1
        have h0 := hM.2.2.2.1 t 0 (by omega) (by omega)
        rw [rd_ok (by omega) (by omega), show M 55 t = nI (S 1 (5 * t)) by simpa using h0]
        simp only [Option.bind_some, Nat.add_zero]
        rw [rd_ok hk (by omega), rd_ok hk (by omega)]
        refine ⟨_, rfl, ?_, h⟩
        congr 1
        obtain ⟨⟨c0, c1, c2, c3⟩, -⟩ := hK
        generalize S 1 (5 * t) = q at hk
        match q, hk with
        | 0, _ => rw [c0]; rfl
        | 1, _ => rw [c1]; rfl
        | 2, _ => rw [c2]; rfl
        | 3, _ => rw [c3]; rfl
        | q + 4, hk => omega
      · simp only [if_neg h5]
        rw [ofTubC hC hS0 (by omega) (by omega), show (4 : Int32) = nI 4 from rfl, nI_mulN, nI_add, rd_ok (by omega) (by omega)]
        refine ⟨_, rfl, ?_, h⟩
        have h0 := hM.2.2.2.1 t w (by omega) (by omega)
        rw [show 0 + 4 * w + t = 4 * w + t by omega] at h0
        rw [h0]
    · simp only [if_neg hr]
      exact ⟨_, rfl, rfl, h⟩
  · simp only [if_neg ht]
    exact ⟨_, rfl, rfl, h⟩
theorem st_heir : St_heir Rel := by
  intro M a b h
  obtain ⟨⟨S, hW, hC, hM⟩, -, -, -, -, -, -, hK⟩ := id h
  unfold f_X5_heir f_X6_heir
  have hS0 := hW.2.1
  rw [isHeirC hC hS0, isHeirM hM hS0, within_eq, in_eq, lit_toInt 0 (by omega), lit_toInt 3 (by omega), lit64T 0 (by omega), lit64T 3 (by omega)]
  simp only [Option.bind_some, ite_b2]
  by_cases ht : 0 ≤ a.toInt ∧ a.toInt < S 0 1
  · simp only [if_pos ht]
    by_cases hr : ((0 : Nat) : Int) ≤ b.toInt ∧ b.toInt ≤ ((3 : Nat) : Int)
    · simp only [if_pos hr]
      obtain ⟨t, -, ht2, rfl⟩ := nI_rng (lo := 0) (hi := S 0 1 - 1) (x := a) (by omega)
      obtain ⟨w, -, hw, rfl⟩ := nI_rng hr
      rw [nI_toInt (by omega)] at ht
      rw [ofHeirC hC hS0 (by omega) (by omega), show (21 : Int32) = nI 21 from rfl, show (4 : Int32) = nI 4 from rfl, nI_mulN, nI_add, nI_add, rd_ok (by omega) (by omega)]
      refine ⟨_, rfl, ?_, h⟩
      have h0 := hM.2.2.2.2.1 (4 * t + w) (by omega)
      rw [show 0 + 21 + (4 * t + w) = 21 + 4 * t + w by omega] at h0
      rw [h0]
    · simp only [if_neg hr]
      exact ⟨_, rfl, rfl, h⟩
  · simp only [if_neg ht]
    exact ⟨_, rfl, rfl, h⟩
