theorem RepM.upC {M : Mem} {p : Nat} {S : Sv} (h : RepM M p S) {c j : Nat} {v : Int32} (hc : c < 54 ∨ 55 < c) : RepM (up M c j v) p S := by
  obtain ⟨h1, h2, h3, h4, h5, h6, h7⟩ := h
  refine ⟨?_, ?_, ?_, fun t w ht hw => ?_, fun j hj => ?_, fun j hj => ?_, fun j hj => ?_⟩
  · rw [up_cell (by omega), h1]
  · rw [up_cell (by omega), h2]
  · rw [up_cell (by omega), h3]
  · rw [up_cell (by omega), h4 t w ht hw]
  · rw [up_cell (by omega), h5 _ hj]
  · rw [up_cell (by omega), h6 _ hj]
  · rw [up_cell (by omega), h7 _ hj]
theorem RepC.upM {M : Mem} {k : Nat} {S : Sv} (h : RepC M k S) {c j : Nat} {v : Int32} (hc : c < k ∨ k + 4 < c) : RepC (up M c j v) k S := by
  obtain ⟨h1, h2, h3, h4, h5, h6, h7⟩ := h
  refine ⟨?_, ?_, ?_, fun j hj => ?_, fun j hj => ?_, fun j hj => ?_, fun j hj => ?_⟩
  · rw [up_cell (by omega), h1]
  · rw [up_cell (by omega), h2]
  · rw [up_cell (by omega), h3]
  · rw [up_cell (by omega), h4 _ hj]
  · rw [up_cell (by omega), h5 _ hj]
  · rw [up_cell (by omega), h6 _ hj]
  · rw [up_cell (by omega), h7 _ hj]
theorem in_lit (a : Int32) (lo hi : Nat) (h1 : lo < 2147483648) (h2 : hi < 2147483648) (M : Mem) : f_X6_in a.toInt64 (@OfNat.ofNat Int64 lo Int64.instOfNat) (@OfNat.ofNat Int64 hi Int64.instOfNat) M = some (b2 ((lo : Int) ≤ a.toInt ∧ a.toInt ≤ (hi : Int))) := by
  rw [in_eq, lit64T lo h1, lit64T hi h2]
theorem in_int (a lo hi : Int32) (M : Mem) : f_X6_in a.toInt64 lo.toInt64 hi.toInt64 M = some (b2 (lo.toInt ≤ a.toInt ∧ a.toInt ≤ hi.toInt)) := by
  rw [in_eq, Int32.toInt_toInt64, Int32.toInt_toInt64]
theorem within_lit (a : Int32) (lo hi : Nat) (h1 : lo < 2147483648) (h2 : hi < 2147483648) (M : Mem) : f_X5_within a (@OfNat.ofNat Int32 lo Int32.instOfNat) (@OfNat.ofNat Int32 hi Int32.instOfNat) M = some (b2 ((lo : Int) ≤ a.toInt ∧ a.toInt ≤ (hi : Int))) := by
  rw [within_eq, lit_toInt lo h1, lit_toInt hi h2]
theorem puts_bad (a v d : Int32) (M : Mem) : f_X6_puts 0 a v d M = some (-1, M) := rfl
theorem puts_ok {M : Mem} {j : Nat} {v d : Int32} (hj : j < 360) : f_X6_puts 1 (nI j) v d M = some (M 55 j + d, up M 55 j (v - d)) := by
  unfold f_X6_puts
  rw [if_neg (by decide), rd_ok hj (by omega)]
  simp only [li, lm]
  rw [inb_ok hj (by omega), nI_clamp (by omega)]
theorem iI_m2 (n : Nat) : iI ((n : Int) - 2) + 2 = nI n := by
  rw [show (2 : Int32) = iI 2 from rfl, iI_add, ← iI_nI]
  congr 1
  omega
theorem nI_m2 (n : Nat) : nI n - 2 = iI ((n : Int) - 2) := by
  rw [show (2 : Int32) = iI 2 from rfl, ← iI_nI, iI_sub]
theorem nI_leN {a b : Nat} (ha : a < 2147483648) (hb : b < 2147483648) : nI a ≤ nI b ↔ a ≤ b := by
  rw [Int32.le_iff_toInt_le, nI_toInt ha, nI_toInt hb]
  omega
theorem nI_ltN {a b : Nat} (ha : a < 2147483648) (hb : b < 2147483648) : nI a < nI b ↔ a < b := by
  rw [Int32.lt_iff_toInt_lt, nI_toInt ha, nI_toInt hb]
  omega
theorem nI_sub0 (a : Nat) : nI a - 0 = nI a := by rw [show (0 : Int32) = nI 0 from rfl, nI_subN (by omega), Nat.sub_zero]
theorem nI_add0 (a : Nat) : nI a + 0 = nI a := by rw [show (0 : Int32) = nI 0 from rfl, nI_add, Nat.add_zero]
theorem seaFr2 {M : Mem} {c j : Nat} {v : Int32} {j2 : Nat} {v2 : Int32} (hc : 9 ≤ c ∧ c ≤ 13) (hj : j2 < 72) : Fr Loc_sea0 M (up (up M c j v) 55 j2 v2) :=
  (Fr.rfl'.up (by unfold Loc_sea0; omega)).up (by unfold Loc_sea0; omega)
theorem st_set : St_set Rel := by
  intro M a b h
  obtain ⟨⟨S, hW, hC, hM⟩, -⟩ := id h
  unfold f_X5_set f_X6_set
  simp only [within_lit _ 0 9 (by omega) (by omega), within_lit _ 0 4 (by omega) (by omega), in_lit _ 0 9 (by omega) (by omega), in_lit _ 0 4 (by omega) (by omega), Option.bind_some, ite_b2]
  by_cases h1 : ((0 : Nat) : Int) ≤ a.toInt ∧ a.toInt ≤ ((9 : Nat) : Int)
  · by_cases h2 : ((0 : Nat) : Int) ≤ b.toInt ∧ b.toInt ≤ ((4 : Nat) : Int)
    · simp only [if_pos h1, if_pos h2]
      obtain ⟨r, -, hr, rfl⟩ := nI_rng h1
      obtain ⟨v, -, hv, rfl⟩ := nI_rng h2
      rw [rd_ok (by omega) (by omega), inb_ok (by omega) (by omega)]
      simp only [lm]
      rw [nI_clamp (by omega)]
      have e1 := hC.2.2.2.2.2.1 r (by omega)
      have e2 := hM.2.2.2.2.2.1 r (by omega)
      rw [show 0 + 37 + r = 37 + r by omega] at e2
      rw [show (9 : Nat) + 3 = 12 from rfl] at e1
      refine ⟨_, _, up (up M 12 r (nI v)) 55 (37 + r) (nI v - 2), rfl, ?_, ?_⟩
      · unfold f_X6_set_30
        rw [show (37 : Int32) = nI 37 from rfl, nI_add, puts_ok (by omega)]
        simp only [Option.bind_some]
        rw [up_cell (by omega), e2, e1, iI_m2]
      · refine h.sea0 (seaFr2 (by omega) (by omega)) ⟨_, hW.cur (r := r) (v := v) (by omega), (hC.curU r v).upM (by omega), ?_⟩
        have := (hM.upC (c := 12) (j := r) (v := nI v) (by omega)).curU hW.1 hW.2.1 (j := r) (by omega) v
        rw [show 0 + 37 + r = 37 + r by omega] at this
        rw [nI_m2]
        exact this
    · simp only [if_pos h1, if_neg h2]
      exact ⟨_, _, _, rfl, rfl, h⟩
  · simp only [if_neg h1]
    exact ⟨_, _, _, rfl, rfl, h⟩
theorem st_blow : St_blow Rel := by
  intro M a b h
  obtain ⟨⟨S, hW, hC, hM⟩, -⟩ := id h
  unfold f_X5_blow f_X6_blow
  simp only [within_lit _ 0 23 (by omega) (by omega), within_lit _ 0 4 (by omega) (by omega), isHourM, in_lit _ 0 4 (by omega) (by omega), Option.bind_some, ite_b2]
  by_cases h1 : ((0 : Nat) : Int) ≤ a.toInt ∧ a.toInt ≤ ((23 : Nat) : Int)
  · have h1' : (0 : Int) ≤ a.toInt ∧ a.toInt ≤ 23 := by omega
    by_cases h2 : ((0 : Nat) : Int) ≤ b.toInt ∧ b.toInt ≤ ((4 : Nat) : Int)
    · simp only [if_pos h1, if_pos h1', if_pos h2]
      obtain ⟨r, -, hr, rfl⟩ := nI_rng h1
      obtain ⟨v, -, hv, rfl⟩ := nI_rng h2
      rw [rd_ok (by omega) (by omega), inb_ok (by omega) (by omega)]
      simp only [lm]
      rw [nI_clamp (by omega)]
      have e1 := hC.2.2.2.2.2.2 r (by omega)
      have e2 := hM.2.2.2.2.2.2 r (by omega)
      rw [show 0 + 47 + r = 47 + r by omega] at e2
      rw [show (9 : Nat) + 4 = 13 from rfl] at e1
      refine ⟨_, _, up (up M 13 r (nI v)) 55 (47 + r) (nI v), rfl, ?_, ?_⟩
      · unfold f_X6_blow_25
        rw [show (47 : Int32) = nI 47 from rfl, nI_add, puts_ok (by omega)]
        simp only [Option.bind_some]
        rw [up_cell (by omega), e2, e1, nI_add0, nI_sub0]
      · refine h.sea0 (seaFr2 (by omega) (by omega)) ⟨_, hW.wind (r := r) (v := v) (by omega), (hC.windU r v).upM (by omega), ?_⟩
        have := (hM.upC (c := 13) (j := r) (v := nI v) (by omega)).windU hW.1 hW.2.1 (j := r) (by omega) v
        rw [show 0 + 47 + r = 47 + r by omega] at this
        exact this
    · simp only [if_pos h1, if_pos h1', if_neg h2]
      exact ⟨_, _, _, rfl, rfl, h⟩
  · have h1' : ¬ ((0 : Int) ≤ a.toInt ∧ a.toInt ≤ 23) := by omega
    simp only [if_neg h1, if_neg h1']
    exact ⟨_, _, _, rfl, rfl, h⟩
theorem st_phase : St_phase Rel := by
  intro M a h
  obtain ⟨⟨S, hW, hC, hM⟩, -⟩ := id h
  unfold f_X5_phase f_X6_phase
  simp only [within_lit _ 0 5 (by omega) (by omega), in_lit _ 0 5 (by omega) (by omega), Option.bind_some, ite_b2]
  by_cases h1 : ((0 : Nat) : Int) ≤ a.toInt ∧ a.toInt ≤ ((5 : Nat) : Int)
  · simp only [if_pos h1, b2_t h1]
    obtain ⟨v, -, hv, rfl⟩ := nI_rng h1
    simp only [lm, li]
    have e1 := hC.2.2.1
    have e2 := hM.2.2.1
    refine ⟨_, _, up (up M 9 6 (nI v)) 55 71 (nI v), rfl, ?_, ?_⟩
    · rw [show (71 : Int32) = nI 71 from rfl, puts_ok (by omega)]
      simp only [Option.bind_some]
      rw [up_cell (by omega), show M 55 71 = nI (S 0 2) from e2, e1, nI_add0, nI_sub0]
    · refine h.sea0 (seaFr2 (by omega) (by omega)) ⟨_, hW.phase (v := v) (by omega), (hC.phaseU v).upM (by omega), ?_⟩
      exact (hM.upC (c := 9) (j := 6) (v := nI v) (by omega)).phaseU hW.1 hW.2.1 v
  · simp only [if_neg h1, b2_f h1, puts_bad, Option.bind_some]
    exact ⟨_, _, _, rfl, rfl, h⟩
theorem st_sink : St_sink Rel := by
  intro M a h
  obtain ⟨⟨S, hW, hC, hM⟩, -⟩ := id h
  have hS0 := hW.1
  unfold f_X5_sink f_X6_sink
  have e1 := hC.1
  have e2 : M 55 20 = nI (S 0 0) := hM.1
  simp only [within_eq, e1, Option.bind_some, ite_b2, nI_toInt (show S 0 0 < 2147483648 by omega), toI0]
  by_cases h1 : (0 : Int) ≤ a.toInt ∧ a.toInt ≤ (S 0 0 : Int)
  · simp only [if_pos h1, lm, li]
    obtain ⟨v, -, hv, rfl⟩ := nI_rng (lo := 0) (hi := S 0 0) (x := a) (by omega)
    refine ⟨_, _, up (up M 9 4 (nI v)) 55 20 (nI v), rfl, ?_, ?_⟩
    · rw [rd_lit 20 (by omega) (by omega), up_cell (by omega), e2, in_eq, Int32.toInt_toInt64, nI_toInt (show S 0 0 < 2147483648 by omega), lit64T 0 (by omega)]
      simp only [Option.bind_some]
      rw [b2_t (by omega), show (20 : Int32) = nI 20 from rfl, puts_ok (by omega)]
      simp only [Option.bind_some]
      rw [up_cell (by omega), e2, nI_add0, nI_sub0]
    · refine h.sea0 (seaFr2 (by omega) (by omega)) ⟨_, hW.cnt (v := v) hv, (hC.cntU v hv).upM (by omega), ?_⟩
      exact (hM.upC (c := 9) (j := 4) (v := nI v) (by omega)).cntU hW.1 hW.2.1 v hv
  · simp only [if_neg h1]
    refine ⟨_, _, _, rfl, ?_, h⟩
    rw [rd_lit 20 (by omega) (by omega), e2, in_eq, Int32.toInt_toInt64, nI_toInt (show S 0 0 < 2147483648 by omega), lit64T 0 (by omega)]
    simp only [Option.bind_some]
    rw [b2_f (by omega), puts_bad]
    rfl
theorem alterM (a w b : Int32) (M : Mem) : ∃ lo hi : Int32, f_X6_alter a w b M = f_X6_alter_47 a w b lo hi M ∧ ∀ k, k < 5 → w = nI k → lo = nI (tlo k) ∧ hi = nI (thi k) := by
  unfold f_X6_alter f_X6_alter_10 f_X6_alter_15
  by_cases h2 : w = 2
  · subst h2
    refine ⟨1, 9, by rw [if_pos rfl, if_neg (by decide), if_neg (by decide)], fun k hk e => ?_⟩
    rw [show (2 : Int32) = nI 2 from rfl, nI_eq (by omega) (by omega)] at e
    subst e
    exact ⟨rfl, rfl⟩
  · rw [if_neg h2]
    by_cases h4 : w = 4
    · subst h4
      refine ⟨1, 99, by rw [if_pos rfl, if_neg (by decide), if_pos (by decide), if_neg (by decide)], fun k hk e => ?_⟩
      rw [show (4 : Int32) = nI 4 from rfl, nI_eq (by omega) (by omega)] at e
      subst e
      exact ⟨rfl, rfl⟩
    · rw [if_neg h4]
      by_cases h0 : w = 0
      · subst h0
        refine ⟨0, 3, by rw [if_pos rfl], fun k hk e => ?_⟩
        rw [show (0 : Int32) = nI 0 from rfl, nI_eq (by omega) (by omega)] at e
        subst e
        exact ⟨rfl, rfl⟩
      · rw [if_neg h0]
        by_cases h3 : w = 3
        · subst h3
          refine ⟨0, 23, by rw [if_pos (by decide), if_pos rfl], fun k hk e => ?_⟩
          rw [show (3 : Int32) = nI 3 from rfl, nI_eq (by omega) (by omega)] at e
          subst e
          exact ⟨rfl, rfl⟩
        · rw [if_neg h3]
          by_cases h5 : 3 ≤ w
          · refine ⟨0, 99, by rw [if_pos h5], fun k hk e => ?_⟩
            subst e
            rw [show (3 : Int32) = nI 3 from rfl, nI_leN (by omega) (by omega)] at h5
            exact absurd (show nI k = 4 from (show k = 4 by
              have : k ≠ 3 := fun q => h3 (by rw [q]; rfl)
              omega) ▸ rfl) h4
          · refine ⟨0, 9, by rw [if_neg h5], fun k hk e => ?_⟩
            subst e
            rw [show (3 : Int32) = nI 3 from rfl, nI_leN (by omega) (by omega)] at h5
            have q0 : k ≠ 0 := fun q => h0 (by rw [q]; rfl)
            have q2 : k ≠ 2 := fun q => h2 (by rw [q]; rfl)
            have : k = 1 := by omega
            subst this
            exact ⟨rfl, rfl⟩
theorem st_alter : St_alter Rel := by
  intro M a w b h
  obtain ⟨⟨S, hW, hC, hM⟩, -⟩ := id h
  have hS0 := hW.1
  unfold f_X5_alter
  rw [isTubC hC hS0]
  simp only [Option.bind_some, ite_b2]
  by_cases ht : 0 ≤ a.toInt ∧ a.toInt < S 0 0
  · simp only [if_pos ht]
    by_cases hw : 0 ≤ w.toInt ∧ w.toInt ≤ 4
    · obtain ⟨t, -, ht2, rfl⟩ := nI_rng (lo := 0) (hi := S 0 0 - 1) (x := a) (by omega)
      obtain ⟨k, -, hk, rfl⟩ := nI_rng (lo := 0) (hi := 4) (x := w) (by omega)
      rw [nI_toInt (by omega)] at ht
      rw [fitsTubC (by omega)]
      simp only [Option.bind_some, ite_b2]
      by_cases hb : (tlo k : Int) ≤ b.toInt ∧ b.toInt ≤ (thi k : Int)
      · simp only [if_pos hb]
        obtain ⟨v, hv1, hv2, rfl⟩ := nI_rng hb
        rw [ofTubC hC hS0 (by omega) (by omega), putTubC (by omega) (by omega)]
        simp only [Option.bind_some]
        have hM1 := hM.upC (c := 9 + 1) (j := 5 * t + k) (v := nI v) (by omega)
        refine ⟨_, _, up (up M (9 + 1) (5 * t + k) (nI v)) 55 (4 * k + t) (nI v), rfl, ?_, ?_⟩
        · obtain ⟨lo, hi, e, q⟩ := alterM (nI t) (nI k) (nI v) (up M (9 + 1) (5 * t + k) (nI v))
          obtain ⟨rfl, rfl⟩ := q k (by omega) rfl
          rw [e]
          unfold f_X6_alter_47
          rw [isTubM hM1 hS0, in_lit _ 0 4 (by omega) (by omega), in_int]
          simp only [Option.bind_some, ite_b2]
          have l1 : tlo k < 2147483648 := by unfold tlo; split <;> omega
          have l2 : thi k < 2147483648 := by unfold thi; split; omega; split; omega; split <;> omega
          rw [nI_toInt (show t < _ by omega), nI_toInt (show k < _ by omega), nI_toInt l1, nI_toInt l2, if_pos (by omega), if_pos (by omega), if_pos hb]
          unfold f_X6_alter_89
          rw [show (4 : Int32) = nI 4 from rfl, nI_mulN, nI_add, puts_ok (by omega)]
          simp only [Option.bind_some]
          have e2 := hM.2.2.2.1 t k (by omega) (by omega)
          rw [show 0 + 4 * k + t = 4 * k + t by omega] at e2
          rw [up_cell (by omega), e2, nI_add0, nI_sub0]
        · refine h.sea0 (seaFr2 (by omega) (by omega)) ⟨_, hW.tub (t := t) (w := k) (v := v) (by omega) ?_, (hC.tub _ v).upM (by omega), ?_⟩
          · unfold tlo at hv1
            unfold thi at hv2
            refine ⟨?_, ?_, ?_, ?_, ?_⟩ <;> intro q <;> subst q <;> simp at hv1 hv2 <;> omega
          · have := hM1.tub (t := t) (w := k) (by omega) hS0 (by omega) hW.2.1 v
            rw [show 0 + 4 * k + t = 4 * k + t by omega] at this
            exact this
      · simp only [if_neg hb]
        refine ⟨_, _, _, rfl, ?_, h⟩
        obtain ⟨lo, hi, e, q⟩ := alterM (nI t) (nI k) b M
        obtain ⟨rfl, rfl⟩ := q k (by omega) rfl
        rw [e]
        unfold f_X6_alter_47
        rw [isTubM hM hS0, in_lit _ 0 4 (by omega) (by omega), in_int]
        simp only [Option.bind_some, ite_b2]
        have l1 : tlo k < 2147483648 := by unfold tlo; split <;> omega
        have l2 : thi k < 2147483648 := by unfold thi; split; omega; split; omega; split <;> omega
        rw [nI_toInt (show t < _ by omega), nI_toInt (show k < _ by omega), nI_toInt l1, nI_toInt l2, if_pos (by omega), if_pos (by omega), if_neg hb]
        rfl
    · rw [fitsTub_out hw]
      refine ⟨_, _, _, rfl, ?_, h⟩
      obtain ⟨lo, hi, e, -⟩ := alterM a w b M
      rw [e]
      unfold f_X6_alter_47
      rw [isTubM hM hS0, in_lit _ 0 4 (by omega) (by omega)]
      simp only [Option.bind_some, ite_b2]
      rw [if_pos ht, if_neg (by omega)]
      rfl
  · simp only [if_neg ht]
    refine ⟨_, _, _, rfl, ?_, h⟩
    obtain ⟨lo, hi, e, -⟩ := alterM a w b M
    rw [e]
    unfold f_X6_alter_47
    rw [isTubM hM hS0]
    simp only [Option.bind_some, ite_b2]
    rw [if_neg ht]
    rfl
