theorem WF.heir {S : Sv} (h : WF S) {i k v : Nat} (hk : k < 4) (h0 : k = 0 → v < 10) (h1 : k = 1 → v ≤ S 2 (4 * i + 2)) (h2 : k = 2 → S 2 (4 * i + 1) ≤ v ∧ v < 24) (h3 : k = 3 → v < 10) : WF (setS S 2 (4 * i + k) v) := by
  obtain ⟨a1, a2, a3, a4, a5, a6, a7⟩ := h
  refine ⟨?_, ?_, ?_, fun t ht => ?_, fun t ht => ?_, fun t ht => ?_, fun t ht => ?_⟩
  · grind [setS]
  · grind [setS]
  · grind [setS]
  · have ht' : t < S 0 0 := by simpa [setS] using ht
    have := a4 t ht'
    simpa [setS] using this
  · have ht' : t < S 0 1 := by simpa [setS] using ht
    have := a5 t ht'
    refine ⟨?_, ?_, ?_, ?_⟩ <;> grind [setS]
  · grind [setS]
  · grind [setS]
theorem hhi_lt (k : Nat) : hhi k < 2147483648 := by unfold hhi; split; omega; split <;> omega
theorem st_stand : St_stand Rel := by
  intro M a w b h
  obtain ⟨⟨S, hW, hC, hM⟩, -⟩ := id h
  have hS0 := hW.2.1
  unfold f_X5_stand
  rw [isHeirC hC hS0]
  simp only [Option.bind_some, ite_b2]
  by_cases ht : 0 ≤ a.toInt ∧ a.toInt < S 0 1
  · simp only [if_pos ht]
    by_cases hw : 0 ≤ w.toInt ∧ w.toInt ≤ 3
    · obtain ⟨t, -, ht2, rfl⟩ := nI_rng (lo := 0) (hi := S 0 1 - 1) (x := a) (by omega)
      obtain ⟨k, -, hk, rfl⟩ := nI_rng (lo := 0) (hi := 3) (x := w) (by omega)
      rw [nI_toInt (by omega)] at ht
      rw [fitsHeirC (by omega)]
      simp only [Option.bind_some, ite_b2, nI_lit 1 (show k < 2 ^ 31 by omega) (by omega), nI_lit 2 (show k < 2 ^ 31 by omega) (by omega)]
      have wt := hW.2.2.2.2.1 t (by omega)
      -- the model's two bounds
      obtain ⟨lo, hi, elo, ehi⟩ : ∃ lo hi : Nat, lo = (if k = 2 then S 2 (4 * t + 1) else 0) ∧ hi = (if k = 1 then S 2 (4 * t + 2) else if k = 2 then 23 else 9) := ⟨_, _, rfl, rfl⟩
      have hlo : lo < 24 := by subst elo; split <;> omega
      have hhi2 : hi < 24 := by subst ehi; split; omega; split <;> omega
      have model : ∀ M0 : Mem, RepM M0 0 S → f_X6_stand (nI t) (nI k) b M0 = (f_X6_puts (b2 ((lo : Int) ≤ b.toInt ∧ b.toInt ≤ (hi : Int))) (nI (21 + 4 * t + k)) b 0 M0).bind fun r2 => some (r2.1, r2.2) := by
        intro M0 h0
        unfold f_X6_stand
        rw [isHeirM h0 hS0, in_lit _ 0 3 (by omega) (by omega)]
        simp only [Option.bind_some, ite_b2, nI_lit 2 (show k < 2 ^ 31 by omega) (by omega), nI_toInt (show t < _ by omega), nI_toInt (show k < _ by omega)]
        rw [if_pos (by omega), if_pos (by omega)]
        simp only [li]
        rw [show (21 : Int32) = nI 21 from rfl, show (4 : Int32) = nI 4 from rfl, show (1 : Int32) = nI 1 from rfl, nI_mulN, nI_add, nI_add, rd_ok (by omega) (by omega)]
        have m1 := h0.2.2.2.2.1 (4 * t + 1) (by omega)
        have m2 := h0.2.2.2.2.1 (4 * t + 2) (by omega)
        rw [show 0 + 21 + (4 * t + 1) = 21 + 4 * t + 1 by omega] at m1
        rw [show 0 + 21 + (4 * t + 2) = 21 + 4 * t + 2 by omega] at m2
        rw [m1]
        have key : ∀ x : Int32, x = nI lo → f_X6_stand_48 (nI t) (nI k) b (nI (21 + 4 * t)) x M0 = (f_X6_puts (b2 ((lo : Int) ≤ b.toInt ∧ b.toInt ≤ (hi : Int))) (nI (21 + 4 * t + k)) b 0 M0).bind fun r2 => some (r2.1, r2.2) := by
          intro x hx
          subst hx
          unfold f_X6_stand_48
          simp only [nI_lit 1 (show k < 2 ^ 31 by omega) (by omega), nI_lit 2 (show k < 2 ^ 31 by omega) (by omega)]
          rw [show (2 : Int32) = nI 2 from rfl, nI_add, rd_ok (by omega) (by omega), m2]
          have k2 : ∀ y : Int32, y = nI hi → f_X6_stand_79 (nI t) (nI k) b (nI (21 + 4 * t)) (nI lo) y M0 = (f_X6_puts (b2 ((lo : Int) ≤ b.toInt ∧ b.toInt ≤ (hi : Int))) (nI (21 + 4 * t + k)) b 0 M0).bind fun r2 => some (r2.1, r2.2) := by
            intro y hy
            subst hy
            unfold f_X6_stand_79
            rw [in_int, nI_toInt (show lo < _ by omega), nI_toInt (show hi < _ by omega), nI_add]
            rfl
          by_cases q1 : k = 1
          · rw [if_pos q1]
            exact k2 _ (by rw [ehi, if_pos q1])
          · rw [if_neg q1]
            by_cases q2 : k = 2
            · rw [if_pos q2]
              exact k2 _ (by rw [ehi, if_neg q1, if_pos q2]; rfl)
            · rw [if_neg q2]
              exact k2 _ (by rw [ehi, if_neg q1, if_neg q2]; rfl)
        by_cases q2 : k = 2
        · rw [if_pos q2]
          exact key _ (by rw [elo, if_pos q2])
        · rw [if_neg q2]
          exact key _ (by rw [elo, if_neg q2]; rfl)
      have bad : ∀ M0 : Mem, RepM M0 0 S → ¬ ((lo : Int) ≤ b.toInt ∧ b.toInt ≤ (hi : Int)) → f_X6_stand (nI t) (nI k) b M0 = some (-1, M0) := by
        intro M0 h0 q
        rw [model M0 h0, b2_f q]
        rfl
      have good : ((lo : Int) ≤ b.toInt ∧ b.toInt ≤ (hi : Int)) → ∃ (r : Int32) (M1 M2 : Mem), f_X5_stand_61 (nI t) (nI k) b M = some (r, M1) ∧ f_X6_stand (nI t) (nI k) b M1 = some (r, M2) ∧ Rel M2 := by
        intro q
        obtain ⟨v, hv1, hv2, rfl⟩ := nI_rng q
        have hM1 := hM.upC (c := 9 + 2) (j := 4 * t + k) (v := nI v) (by omega)
        unfold f_X5_stand_61
        rw [ofHeirC hC hS0 (by omega) (by omega), putHeirC (by omega) (by omega)]
        refine ⟨_, _, up (up M (9 + 2) (4 * t + k) (nI v)) 55 (21 + 4 * t + k) (nI v), rfl, ?_, ?_⟩
        · rw [model _ hM1, b2_t (by omega), puts_ok (by omega)]
          simp only [Option.bind_some]
          have e2 := hM.2.2.2.2.1 (4 * t + k) (by omega)
          rw [show 0 + 21 + (4 * t + k) = 21 + 4 * t + k by omega] at e2
          rw [up_cell (by omega), e2, nI_add0, nI_sub0]
        · refine h.sea0 (seaFr2 (by omega) (by omega)) ⟨_, hW.heir (i := t) (k := k) (v := v) (by omega) ?_ ?_ ?_ ?_, (hC.heirU _ v).upM (by omega), ?_⟩
          · intro q; subst q; simp at ehi; omega
          · intro q; subst q; simp at ehi; omega
          · intro q; subst q; simp at ehi elo; omega
          · intro q; subst q; simp at ehi; omega
          · have := hM1.heirU hW.1 hW.2.1 (j := 4 * t + k) (by omega) v
            rw [show 0 + 21 + (4 * t + k) = 21 + 4 * t + k by omega] at this
            exact this
      unfold f_X5_stand_41
      rw [show (1 : Int32) = nI 1 from rfl, show (2 : Int32) = nI 2 from rfl, ofHeirC hC hS0 (by omega) (by omega), ofHeirC hC hS0 (by omega) (by omega)]
      simp only [Option.bind_some]
      by_cases hb : 0 ≤ b.toInt ∧ b.toInt ≤ (hhi k : Int)
      · obtain ⟨v, -, hv, rfl⟩ := nI_rng (lo := 0) (hi := hhi k) (x := b) hb
        have hvl : v < 2147483648 := Nat.lt_of_le_of_lt hv (hhi_lt k)
        simp only [if_pos hb, nI_leN hvl (show S 2 (4 * t + 2) < 2147483648 by omega), nI_leN (show S 2 (4 * t + 1) < 2147483648 by omega) hvl]
        rw [nI_toInt hvl] at bad good
        unfold hhi at hv
        by_cases q1 : k = 1
        · subst q1
          simp at ehi elo hv
          simp only [if_true]
          by_cases q : v ≤ S 2 (4 * t + 2)
          · rw [if_pos q, if_neg (by decide)]
            exact good (by omega)
          · rw [if_neg q]
            exact ⟨_, _, _, rfl, bad _ hM (by omega), h⟩
        · rw [if_neg q1]
          by_cases q2 : k = 2
          · subst q2
            simp at ehi elo hv
            simp only [if_true]
            by_cases q : S 2 (4 * t + 1) ≤ v
            · rw [if_pos q]
              exact good (by omega)
            · rw [if_neg q]
              exact ⟨_, _, _, rfl, bad _ hM (by omega), h⟩
          · rw [if_neg (fun z => q2 ((nI_eq (by omega) (by omega)).mp z))]
            have : k = 0 ∨ k = 3 := by omega
            rcases this with rfl | rfl <;> simp at ehi elo hv <;> exact good (by omega)
      · simp only [if_neg hb]
        refine ⟨_, _, _, rfl, bad _ hM ?_, h⟩
        intro q
        apply hb
        unfold hhi
        have : k = 0 ∨ k = 1 ∨ k = 2 ∨ k = 3 := by omega
        rcases this with rfl | rfl | rfl | rfl <;> simp at ehi elo ⊢ <;> omega
    · rw [fitsHeir_out hw]
      refine ⟨_, _, _, rfl, ?_, h⟩
      unfold f_X6_stand
      rw [isHeirM hM hS0, in_lit _ 0 3 (by omega) (by omega)]
      simp only [Option.bind_some, ite_b2]
      rw [if_pos ht, if_neg (by omega)]
  · simp only [if_neg ht]
    refine ⟨_, _, _, rfl, ?_, h⟩
    unfold f_X6_stand
    rw [isHeirM hM hS0]
    simp only [Option.bind_some, ite_b2]
    rw [if_neg ht]
/-! a bottle cast -/
def addS (S : Sv) (x y s : Nat) : Sv := fun g j =>
  if g = 0 ∧ j = 0 then S 0 0 + 1 else if g = 1 ∧ j = 5 * S 0 0 then 0 else if g = 1 ∧ j = 5 * S 0 0 + 1 then x else if g = 1 ∧ j = 5 * S 0 0 + 2 then y else if g = 1 ∧ j = 5 * S 0 0 + 3 then s else if g = 1 ∧ j = 5 * S 0 0 + 4 then 1 else S g j
def putC (M : Mem) (n x y s : Nat) : Mem := up (up (up (up (up (up M 9 4 (nI (n + 1))) 10 (5 * n) (nI 0)) 10 (5 * n + 1) (nI x)) 10 (5 * n + 2) (nI y)) 10 (5 * n + 3) (nI s)) 10 (5 * n + 4) (nI 1)
def putM (M : Mem) (n x y s : Nat) : Mem := up (up (up (up (up (up M 55 n (nI 0)) 55 (4 + n) (nI x)) 55 (8 + n) (nI y)) 55 (12 + n) (nI s)) 55 (16 + n) (nI 1)) 55 20 (nI (n + 1))
def castOK (a b c : Int32) : Prop := (0 ≤ a.toInt ∧ a.toInt ≤ 9) ∧ (1 ≤ b.toInt ∧ b.toInt ≤ 9) ∧ 0 ≤ c.toInt ∧ c.toInt ≤ 23
theorem putIn_ok {M : Mem} {S : Sv} (hC : RepC M 9 S) {x y s : Nat} (hn : S 0 0 < 4) (hx : x ≤ 9) (hy1 : 1 ≤ y) (hy : y ≤ 9) (hs : s ≤ 23) : f_X5_putIn (nI x) (nI y) (nI s) M = some (nI (S 0 0 + 1), putC M (S 0 0) x y s) := by
  unfold f_X5_putIn
  have f1 := fitsTubC (M := M) (w := 1) (by omega) (nI x)
  have f2 := fitsTubC (M := M) (w := 2) (by omega) (nI y)
  have f3 := fitsTubC (M := M) (w := 3) (by omega) (nI s)
  rw [nI_toInt (by omega)] at f1 f2 f3
  rw [show (1 : Int32) = nI 1 from rfl, show (2 : Int32) = nI 2 from rfl, show (3 : Int32) = nI 3 from rfl, f1, f2, f3]
  simp only [Option.bind_some, ite_b2]
  rw [if_pos (by simp [tlo, thi]; omega), if_pos (by simp [tlo, thi]; omega), if_pos (by simp [tlo, thi]; omega), hC.1, show (4 : Int32) = nI 4 from rfl, if_pos ((nI_ltN (by omega) (by omega)).mpr hn)]
  simp only [li, lm]
  rw [nI_add, show (0 : Int32) = nI 0 from rfl, putTubC hn (by omega)]
  simp only [Option.bind_some]
  rw [moveTubC hn]
  simp only [Option.bind_some]
  rw [putTubC hn (by omega)]
  simp only [Option.bind_some]
  rw [putTubC hn (by omega)]
  simp only [Option.bind_some]
  rfl
theorem putIn_bad {M : Mem} {a b c : Int32} (h : ¬ castOK a b c) : f_X5_putIn a b c M = some (-1, M) := by
  unfold f_X5_putIn
  have f1 : f_X5_fitsTub 1 a M = some (b2 (0 ≤ a.toInt ∧ a.toInt ≤ 9)) := fitsTubC (M := M) (w := 1) (by omega) a
  have f2 : f_X5_fitsTub 2 b M = some (b2 (1 ≤ b.toInt ∧ b.toInt ≤ 9)) := fitsTubC (M := M) (w := 2) (by omega) b
  have f3 : f_X5_fitsTub 3 c M = some (b2 (0 ≤ c.toInt ∧ c.toInt ≤ 23)) := fitsTubC (M := M) (w := 3) (by omega) c
  rw [f1, f2, f3]
  simp only [Option.bind_some, ite_b2]
  unfold castOK at h
  by_cases h1 : 0 ≤ a.toInt ∧ a.toInt ≤ 9
  · rw [if_pos h1]
    by_cases h2 : 1 ≤ b.toInt ∧ b.toInt ≤ 9
    · rw [if_pos h2, if_neg (by omega)]
    · rw [if_neg h2]
  · rw [if_neg h1]
theorem putIn_full {M : Mem} {S : Sv} (hC : RepC M 9 S) {a b c : Int32} (h : castOK a b c) (hn : S 0 0 = 4) : f_X5_putIn a b c M = some (-3, M) := by
  unfold f_X5_putIn
  have f1 : f_X5_fitsTub 1 a M = some (b2 (0 ≤ a.toInt ∧ a.toInt ≤ 9)) := fitsTubC (M := M) (w := 1) (by omega) a
  have f2 : f_X5_fitsTub 2 b M = some (b2 (1 ≤ b.toInt ∧ b.toInt ≤ 9)) := fitsTubC (M := M) (w := 2) (by omega) b
  have f3 : f_X5_fitsTub 3 c M = some (b2 (0 ≤ c.toInt ∧ c.toInt ≤ 23)) := fitsTubC (M := M) (w := 3) (by omega) c
  unfold castOK at h
  rw [f1, f2, f3]
  simp only [Option.bind_some, ite_b2]
  rw [if_pos (by omega), if_pos (by omega), if_pos (by omega), hC.1, show (4 : Int32) = nI 4 from rfl, hn, if_neg (fun q => absurd ((nI_ltN (by omega) (by omega)).mp q) (by omega))]
theorem casts_ok {M : Mem} {S : Sv} (hM : RepM M 0 S) {x y s : Nat} (hn : S 0 0 < 4) (hx : x ≤ 9) (hy1 : 1 ≤ y) (hy : y ≤ 9) (hs : s ≤ 23) : f_X6_casts (nI x) (nI y) (nI s) M = some (nI (S 0 0 + 1), putM M (S 0 0) x y s) := by
  unfold f_X6_casts
  rw [in_lit _ 0 9 (by omega) (by omega), in_lit _ 1 9 (by omega) (by omega), isHourM, nI_toInt (by omega), nI_toInt (by omega), nI_toInt (by omega)]
  simp only [Option.bind_some, ite_b2]
  have e : M 55 20 = nI (S 0 0) := hM.1
  rw [if_pos (by omega), if_pos (by omega), if_pos (by omega), rd_lit 20 (by omega) (by omega), e, if_neg (by rw [nI_lit 4 (by omega) (by omega)]; omega)]
  rw [show (4 : Int32) = nI 4 from rfl, show (8 : Int32) = nI 8 from rfl, show (12 : Int32) = nI 12 from rfl, show (16 : Int32) = nI 16 from rfl, show (20 : Int32) = nI 20 from rfl, show (0 : Int32) = nI 0 from rfl, show (1 : Int32) = nI 1 from rfl, nI_add, nI_add, nI_add, nI_add]
  rw [inb_ok (by omega) (by omega)]
  simp only [lm]
  rw [inb_ok (by omega) (by omega), inb_ok (by omega) (by omega), inb_ok (by omega) (by omega), inb_ok (by omega) (by omega), nI_clamp (by omega), nI_clamp (by omega), nI_clamp (by omega), nI_clamp (by omega), nI_clamp (by omega), nI_clamp (by omega), rd_ok (by omega) (by omega), inb_ok (by omega) (by omega), rd_ok (by omega) (by omega)]
  have z : (up (up (up (up (up M 55 (S 0 0) (nI 0)) 55 (4 + S 0 0) (nI x)) 55 (8 + S 0 0) (nI y)) 55 (12 + S 0 0) (nI s)) 55 (16 + S 0 0) (nI 1)) 55 20 = nI (S 0 0) := by
    rw [up_slot (by omega), up_slot (by omega), up_slot (by omega), up_slot (by omega), up_slot (by omega), e]
  rw [z, nI_add, up_same]
  rfl
theorem casts_bad {M : Mem} {a b c : Int32} (h : ¬ castOK a b c) : f_X6_casts a b c M = some (-1, M) := by
  unfold f_X6_casts
  rw [in_lit _ 0 9 (by omega) (by omega), in_lit _ 1 9 (by omega) (by omega), isHourM]
  simp only [Option.bind_some, ite_b2]
  unfold castOK at h
  by_cases h1 : ((0 : Nat) : Int) ≤ a.toInt ∧ a.toInt ≤ ((9 : Nat) : Int)
  · rw [if_pos h1]
    by_cases h2 : ((1 : Nat) : Int) ≤ b.toInt ∧ b.toInt ≤ ((9 : Nat) : Int)
    · rw [if_pos h2, if_neg (by omega)]
    · rw [if_neg h2]
  · rw [if_neg h1]
theorem casts_full {M : Mem} {S : Sv} (hM : RepM M 0 S) {a b c : Int32} (h : castOK a b c) (hn : S 0 0 = 4) : f_X6_casts a b c M = some (-3, M) := by
  unfold f_X6_casts
  rw [in_lit _ 0 9 (by omega) (by omega), in_lit _ 1 9 (by omega) (by omega), isHourM]
  simp only [Option.bind_some, ite_b2]
  unfold castOK at h
  have e : M 55 20 = nI (S 0 0) := hM.1
  rw [if_pos (by omega), if_pos (by omega), if_pos (by omega), rd_lit 20 (by omega) (by omega), e, hn, if_pos (show nI 4 = 4 from rfl)]
theorem castNat {a b c : Int32} (h : castOK a b c) : ∃ x y s : Nat, x ≤ 9 ∧ 1 ≤ y ∧ y ≤ 9 ∧ s ≤ 23 ∧ a = nI x ∧ b = nI y ∧ c = nI s := by
  obtain ⟨h1, h2, h3⟩ := h
  obtain ⟨x, -, hx, rfl⟩ := nI_rng (lo := 0) (hi := 9) (x := a) (by omega)
  obtain ⟨y, hy1, hy, rfl⟩ := nI_rng (lo := 1) (hi := 9) (x := b) (by omega)
  obtain ⟨s, -, hs, rfl⟩ := nI_rng (lo := 0) (hi := 23) (x := c) (by omega)
  exact ⟨x, y, s, hx, hy1, hy, hs, rfl, rfl, rfl⟩
theorem RepC.add {M : Mem} {S : Sv} (h : RepC M 9 S) (hn : S 0 0 < 4) (x y s : Nat) : RepC (putC M (S 0 0) x y s) 9 (addS S x y s) := by
  obtain ⟨h1, h2, h3, h4, h5, h6, h7⟩ := h
  unfold putC
  refine ⟨?_, ?_, ?_, fun i hi => ?_, fun i hi => ?_, fun i hi => ?_, fun i hi => ?_⟩ <;> grind [up_at, addS]
theorem RepM.add {M : Mem} {S : Sv} (h : RepM M 0 S) (hn : S 0 0 < 4) (hh : S 0 1 ≤ 4) (x y s : Nat) : RepM (putM M (S 0 0) x y s) 0 (addS S x y s) := by
  obtain ⟨h1, h2, h3, h4, h5, h6, h7⟩ := h
  unfold putM
  refine ⟨?_, ?_, ?_, fun i i2 hi hi2 => ?_, fun i hi => ?_, fun i hi => ?_, fun i hi => ?_⟩
  · grind [up_at, addS]
  · grind [up_at, addS]
  · grind [up_at, addS]
  · have hi' : i < S 0 0 + 1 := by simpa [addS] using hi
    have e : ∀ w, w < 5 → (i = S 0 0 → addS S x y s 1 (5 * i + w) = (if w = 0 then 0 else if w = 1 then x else if w = 2 then y else if w = 3 then s else 1)) ∧ (i ≠ S 0 0 → addS S x y s 1 (5 * i + w) = S 1 (5 * i + w)) := by
      intro w hw
      constructor
      · intro q; subst q; unfold addS; grind
      · intro q; unfold addS; grind
    obtain ⟨e1, e2⟩ := e i2 hi2
    by_cases q : i = S 0 0
    · rw [e1 q]
      have : i2 = 0 ∨ i2 = 1 ∨ i2 = 2 ∨ i2 = 3 ∨ i2 = 4 := by omega
      rcases this with rfl | rfl | rfl | rfl | rfl <;> grind [up_at]
    · rw [e2 q, ← h4 i i2 (by omega) hi2, up_slot (by omega), up_slot (by omega), up_slot (by omega), up_slot (by omega), up_slot (by omega), up_slot (by omega)]
  · grind [up_at, addS]
  · grind [up_at, addS]
  · grind [up_at, addS]
theorem WF.add {S : Sv} (h : WF S) (hn : S 0 0 < 4) {x y s : Nat} (hx : x ≤ 9) (hy1 : 1 ≤ y) (hy : y ≤ 9) (hs : s ≤ 23) : WF (addS S x y s) := by
  obtain ⟨a1, a2, a3, a4, a5, a6, a7⟩ := h
  refine ⟨?_, ?_, ?_, fun t ht => ?_, fun t ht => ?_, fun t ht => ?_, fun t ht => ?_⟩
  · grind [addS]
  · grind [addS]
  · grind [addS]
  · have ht' : t < S 0 0 + 1 := by simpa [addS] using ht
    by_cases q : t = S 0 0
    · subst q
      refine ⟨?_, ?_, ?_, ?_, ?_, ?_, ?_⟩ <;> grind [addS]
    · have := a4 t (by omega)
      refine ⟨?_, ?_, ?_, ?_, ?_, ?_, ?_⟩ <;> grind [addS]
  · have ht' : t < S 0 1 := by simpa [addS] using ht
    have := a5 t ht'
    refine ⟨?_, ?_, ?_, ?_⟩ <;> grind [addS]
  · grind [addS]
  · grind [addS]
theorem RepM.ptC {M : Mem} {S : Sv} (h : RepM M 0 S) (n x y s : Nat) : RepM (putC M n x y s) 0 S := by
  unfold putC
  exact (((((h.upC (by omega)).upC (by omega)).upC (by omega)).upC (by omega)).upC (by omega)).upC (by omega)
theorem RepC.ptM {M : Mem} {S : Sv} (h : RepC M 9 S) (n x y s : Nat) : RepC (putM M n x y s) 9 S := by
  unfold putM
  exact (((((h.upM (by omega)).upM (by omega)).upM (by omega)).upM (by omega)).upM (by omega)).upM (by omega)
theorem Fr.ptC {X : Nat → Nat → Prop} {M M1 : Mem} (h : Fr X M M1) (hx : ∀ c j, 9 ≤ c → c ≤ 10 → X c j) (n x y s : Nat) : Fr X M (putC M1 n x y s) :=
  (((((h.up (hx _ _ (by omega) (by omega))).up (hx _ _ (by omega) (by omega))).up (hx _ _ (by omega) (by omega))).up (hx _ _ (by omega) (by omega))).up (hx _ _ (by omega) (by omega))).up (hx _ _ (by omega) (by omega))
theorem Fr.ptM {X : Nat → Nat → Prop} {M M1 : Mem} (h : Fr X M M1) (hx : ∀ j, j < 72 → X 55 j) {n : Nat} (hn : n < 4) (x y s : Nat) : Fr X M (putM M1 n x y s) :=
  (((((h.up (hx _ (by omega))).up (hx _ (by omega))).up (hx _ (by omega))).up (hx _ (by omega))).up (hx _ (by omega))).up (hx _ (by omega))
theorem st_cast : St_cast Rel := by
  intro M a b c h
  obtain ⟨⟨S, hW, hC, hM⟩, -⟩ := id h
  unfold f_X5_cast f_X6_cast
  by_cases q : castOK a b c
  · by_cases hn : S 0 0 = 4
    · rw [putIn_full hC q hn]
      refine ⟨_, _, _, rfl, ?_, h⟩
      rw [casts_full hM q hn]
      rfl
    · have hn' : S 0 0 < 4 := by have := hW.1; omega
      obtain ⟨x, y, s, hx, hy1, hy, hs, rfl, rfl, rfl⟩ := castNat q
      rw [putIn_ok hC hn' hx hy1 hy hs]
      refine ⟨_, _, putM (putC M (S 0 0) x y s) (S 0 0) x y s, rfl, ?_, ?_⟩
      · rw [casts_ok (hM.ptC _ _ _ _) hn' hx hy1 hy hs]
        rfl
      · exact h.sea0 (((Fr.rfl').ptC (fun c j _ _ => by unfold Loc_sea0; omega) _ _ _ _).ptM (fun j _ => by unfold Loc_sea0; omega) hn' _ _ _) ⟨_, hW.add hn' hx hy1 hy hs, (hC.add hn' x y s).ptM _ _ _ _, (hM.ptC _ _ _ _).add hn' hW.2.1 x y s⟩
  · rw [putIn_bad q]
    refine ⟨_, _, _, rfl, ?_, h⟩
    rw [casts_bad q]
    rfl
