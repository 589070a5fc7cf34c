theorem sgn8 (x : Int32) : (x <<< ((24 : Int32) &&& 31)) >>> ((24 : Int32) &&& 31) = x.toInt8.toInt32 := by
  have e : ((24 : Int32) &&& 31) = 24 := by decide
  rw [e]
  apply Int32.toBitVec_inj.mp
  simp only [Int32.toBitVec_shiftRight, Int32.toBitVec_shiftLeft, Int8.toBitVec_toInt32, Int32.toBitVec_toInt8]
  have e2 : ((24 : Int32).toBitVec.smod 32) = 24#32 := by decide
  rw [e2]
  apply BitVec.eq_of_getLsbD_eq
  intro i hi
  simp only [BitVec.sshiftRight', BitVec.shiftLeft_eq', BitVec.getLsbD_sshiftRight, BitVec.getLsbD_signExtend, BitVec.getLsbD_shiftLeft, BitVec.msb_shiftLeft, BitVec.msb_setWidth, BitVec.getLsbD_setWidth, BitVec.toNat_ofNat]
  simp
  grind
theorem sgn16 (x : Int32) : (x <<< ((16 : Int32) &&& 31)) >>> ((16 : Int32) &&& 31) = x.toInt16.toInt32 := by
  have e : ((16 : Int32) &&& 31) = 16 := by decide
  rw [e]
  apply Int32.toBitVec_inj.mp
  simp only [Int32.toBitVec_shiftRight, Int32.toBitVec_shiftLeft, Int16.toBitVec_toInt32, Int32.toBitVec_toInt16]
  have e2 : ((16 : Int32).toBitVec.smod 32) = 16#32 := by decide
  rw [e2]
  apply BitVec.eq_of_getLsbD_eq
  intro i hi
  simp only [BitVec.sshiftRight', BitVec.shiftLeft_eq', BitVec.getLsbD_sshiftRight, BitVec.getLsbD_signExtend, BitVec.getLsbD_shiftLeft, BitVec.msb_shiftLeft, BitVec.msb_setWidth, BitVec.getLsbD_setWidth, BitVec.toNat_ofNat]
  simp
  grind
def lanV (l : Nat) (v : Int32) : Int32 := if l = 0 then v.toInt8.toInt32 else if l = 1 then v.toInt16.toInt32 else v
theorem put_ok {M : Mem} {k l j : Nat} {v : Int32} (hl : M k 1 = nI l) (l3 : l < 3) (hj : j < 40) : f_X3_put k (nI j) v M = some (up M (k + 1) j (lanV l v)) := by
  unfold f_X3_put lanV
  rw [hl, inb_ok (by omega) (by omega), inb_ok (by omega) (by omega), inb_ok (by omega) (by omega)]
  simp only [lm, nI_lit 0 (show l < 2 ^ 31 by omega) (by omega), nI_lit 1 (show l < 2 ^ 31 by omega) (by omega), nI_clamp (show j < 2147483648 by omega)]
  by_cases h0 : l = 0
  · simp only [if_pos h0]
  · simp only [if_neg h0]
    by_cases h1 : l = 1
    · simp only [if_pos h1]
    · simp only [if_neg h1]
theorem nI_m1 (n : Nat) : nI n - 1 = iI ((n : Int) - 1) := by
  rw [show (1 : Int32) = iI 1 from rfl, ← iI_nI, iI_sub]
theorem st_lay : St_lay Rel := by
  intro M a b v h
  obtain ⟨-, -, -, -, -, hS, -⟩ := id h
  unfold f_X5_lay f_X6_lay
  simp only [within_lit _ 0 3 (by omega) (by omega), in_lit _ 0 3 (by omega) (by omega), Option.bind_some, ite_b2]
  by_cases h1 : ((0 : Nat) : Int) ≤ a.toInt ∧ a.toInt ≤ ((3 : Nat) : Int)
  · simp only [if_pos h1]
    obtain ⟨k, -, hk, rfl⟩ := nI_rng h1
    rw [inb_ok (by omega) (by omega), nI_clamp (by omega), rf31 (by omega)]
    obtain ⟨e1, e2, n, e3, e4, e5, e6⟩ := hS k (by omega)
    unfold f_X3_faultOf f_X3_faultOf_35
    rw [e1]
    rcases e2 with e2 | ⟨l, l3, e2⟩
    · rw [e2, if_pos rfl]
      simp only [Option.bind_some]
      rw [if_neg (by decide)]
      refine ⟨_, _, _, rfl, ?_, h⟩
      rw [rd_ok (by omega) (by omega), e2, if_pos rfl, show (-10 : Int32) - 1 = -11 from by decide]
    · have hne : ¬ nI l = -4 := fun q => ((nI_neN (a := l) (k := 4) (by omega) (by omega) (by omega)).mp q)
      rw [e2, if_neg hne, if_pos rfl, e4, nI_m1]
      by_cases hr : 0 ≤ b.toInt ∧ b.toInt < n
      · obtain ⟨j, -, hj, rfl⟩ := nI_rng (lo := 0) (hi := n - 1) (x := b) (by omega)
        rw [nI_toInt (by omega)] at hr
        rw [if_neg (fun z => by have := (lt_lit 0 (show j < 2147483648 by omega) (by omega)).mp z; omega), if_pos (by rw [← iI_nI]; exact (iI_le (by omega) (by omega)).mpr (by omega))]
        simp only [Option.bind_some, if_true]
        rw [put_ok (l := l) (by rw [e1, e2]) l3 (by omega)]
        simp only [Option.bind_some]
        refine ⟨_, _, up (up M (32 + 2 * k + 1) j (lanV l v)) 74 (40 * k + j) (lanV l v), rfl, ?_, ?_⟩
        · rw [rd_ok (by omega) (by omega), up_cell (show 72 ≠ 32 + 2 * k + 1 by omega), e2, if_neg hne, rd_ok (by omega) (by omega), up_cell (show 73 ≠ 32 + 2 * k + 1 by omega), e5, in_eq, pred_toInt (by omega), nI_toInt (show j < _ by omega), lit64T 0 (by omega)]
          simp only [Option.bind_some, ite_b2]
          rw [if_pos (by omega), rd_ok (by omega) (by omega), rd_ok (by omega) (by omega), up_cell (show 72 ≠ 32 + 2 * k + 1 by omega), e2, show (40 : Int32) = nI 40 from rfl, nI_mulN, nI_add, inb_ok (by omega) (by omega), inb_ok (by omega) (by omega), inb_ok (by omega) (by omega), nI_clamp (by omega)]
          simp only [lm, sgn8, sgn16, nI_lit 0 (show l < 2 ^ 31 by omega) (by omega), nI_lit 1 (show l < 2 ^ 31 by omega) (by omega)]
          unfold lanV
          by_cases h0 : l = 0
          · simp only [if_pos h0]
          · simp only [if_neg h0]
            by_cases h1 : l = 1
            · simp only [if_pos h1]
            · simp only [if_neg h1]
        · refine h.sheet0 ((Fr.rfl'.up (by unfold Loc_sheet0; omega)).up (by unfold Loc_sheet0; omega)) (fun i hi => ?_)
          obtain ⟨f1, f2, n', f3, f4, f5, f6⟩ := hS i hi
          have off : ∀ c j', c < 74 → c ≠ 33 + 2 * k → up (up M (32 + 2 * k + 1) j (lanV l v)) 74 (40 * k + j) (lanV l v) c j' = M c j' := by
            intro c j' q1 q2
            rw [up_cell (by omega), up_cell (by omega)]
          refine ⟨?_, ?_, n', f3, ?_, ?_, fun j' hj' => ?_⟩
          · rw [off _ _ (by omega) (by omega), off _ _ (by omega) (by omega), f1]
          · rw [off _ _ (by omega) (by omega)]; exact f2
          · rw [off _ _ (by omega) (by omega), f4]
          · rw [off _ _ (by omega) (by omega), f5]
          · have := f6 j' hj'
            by_cases q : i = k ∧ j' = j
            · obtain ⟨rfl, rfl⟩ := q
              rw [up_same, up_cell (by omega), show 33 + 2 * i = 32 + 2 * i + 1 by omega, up_same]
            · rw [up_cell (by omega), up_slot (by omega)]
              by_cases q2 : i = k
              · subst q2
                rw [show 33 + 2 * i = 32 + 2 * i + 1 by omega, up_slot (by omega), up_cell (by omega)]
                rw [show 33 + 2 * i = 32 + 2 * i + 1 by omega] at this
                exact this
              · rw [up_cell (by omega), up_cell (by omega)]
                exact this
      · refine ⟨-12, M, M, ?_, ?_, h⟩
        · by_cases q : b < 0
          · rw [if_pos q]
            rfl
          · rw [if_neg q]
            rw [Int32.lt_iff_toInt_lt, toI0] at q
            rw [if_neg (fun z => by
              rw [Int32.le_iff_toInt_le, iI_toInt (by omega) (by omega)] at z
              omega)]
            rfl
        · rw [rd_ok (by omega) (by omega), e2, if_neg hne, rd_ok (by omega) (by omega), e5, in_eq, pred_toInt (by omega), lit64T 0 (by omega)]
          simp only [Option.bind_some, ite_b2]
          rw [if_neg (by omega)]
  · simp only [if_neg h1]
    exact ⟨_, _, _, rfl, rfl, h⟩
