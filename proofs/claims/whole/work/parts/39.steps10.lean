/-! a tub put in elsewhere -/
def mvT (S : Sv) (t x y : Nat) : Sv := setS (setS S 1 (5 * t + 1) x) 1 (5 * t + 2) y
theorem mvT_mvT (S : Sv) (t a b x y : Nat) : mvT (mvT S t a b) t x y = mvT S t x y := by
  funext g j
  by_cases h2 : g = 1 ∧ j = 5 * t + 2
  · simp only [mvT, setS, if_pos h2]
  · by_cases h1 : g = 1 ∧ j = 5 * t + 1
    · simp only [mvT, setS, if_neg h2, if_pos h1]
    · simp only [mvT, setS, if_neg h2, if_neg h1]
theorem mvT_0 {S : Sv} {t x y i : Nat} : mvT S t x y 0 i = S 0 i := by
  unfold mvT
  rw [setS_0 (by omega), setS_0 (by omega)]
theorem mvT_id (S : Sv) (t : Nat) : mvT S t (S 1 (5 * t + 1)) (S 1 (5 * t + 2)) = S := by
  unfold mvT
  rw [setS_id, setS_id]
theorem WF.mv {S : Sv} (hW : WF S) {t x y : Nat} (hx : x < 10) (hy1 : 1 ≤ y) (hy : y < 10) : WF (mvT S t x y) :=
  (hW.tub (t := t) (w := 1) (v := x) (by omega) ⟨by omega, by omega, by omega, by omega, by omega⟩).tub (t := t) (w := 2) (v := y) (by omega) ⟨by omega, by omega, by omega, by omega, by omega⟩
theorem RepC.mv {M : Mem} {k t x0 y0 : Nat} {S : Sv} (h : RepC M k (mvT S t x0 y0)) (x y : Nat) : RepC (up (up M (k + 1) (5 * t + 1) (nI x)) (k + 1) (5 * t + 2) (nI y)) k (mvT S t x y) := by
  have := (h.tub (5 * t + 1) x).tub (5 * t + 2) y
  have e : setS (setS (mvT S t x0 y0) 1 (5 * t + 1) x) 1 (5 * t + 2) y = mvT S t x y := mvT_mvT S t x0 y0 x y
  rw [e] at this
  exact this
theorem RepM.mv {M : Mem} {t x0 y0 : Nat} {S : Sv} (h : RepM M 288 (mvT S t x0 y0)) (hW : WF S) (ht : t < S 0 0) (x y : Nat) : RepM (up (up M 55 (292 + t) (nI x)) 55 (296 + t) (nI y)) 288 (mvT S t x y) := by
  have h1 := h.tub (t := t) (w := 1) (by rw [mvT_0]; exact ht) (by rw [mvT_0]; exact hW.1) (by omega) (by rw [mvT_0]; exact hW.2.1) x
  have h2 := h1.tub (t := t) (w := 2) (by rw [setS_0 (by omega), mvT_0]; exact ht) (by rw [setS_0 (by omega), mvT_0]; exact hW.1) (by omega) (by rw [setS_0 (by omega), mvT_0]; exact hW.2.1) y
  have e : setS (setS (mvT S t x0 y0) 1 (5 * t + 1) x) 1 (5 * t + 2) y = mvT S t x y := mvT_mvT S t x0 y0 x y
  rw [e, show 288 + 4 * 1 + t = 292 + t by omega, show 288 + 4 * 2 + t = 296 + t by omega] at h2
  exact h2
theorem nI_mod10 {c : Nat} (h : c < 1000) : nI c - nI c / 10 * 10 = nI (c % 10) := by
  rw [show (10 : Int32) = nI 10 from rfl, nI_div (by omega) (by omega), nI_mulN, nI_subN (by omega)]
  congr 1
  omega
theorem nI_div10 {c : Nat} (h : c < 1000) : nI c / 10 = nI (c / 10) := by
  rw [show (10 : Int32) = nI 10 from rfl, nI_div (by omega) (by omega)]
theorem ff_skip {b : Nat → Bool} {n : Nat} (h : b n = false) : ff b (100 - n) n = ff b (100 - (n + 1)) (n + 1) := by
  by_cases q : 100 ≤ n
  · rw [show 100 - n = 0 by omega, show 100 - (n + 1) = 0 by omega]
    rfl
  · rw [show 100 - n = (100 - (n + 1)) + 1 by omega]
    unfold ff
    rw [if_neg (by rw [h]; decide)]
    cases (100 - (n + 1)) <;> rfl
theorem bcnt_t {b : Nat → Bool} {t : Nat} (h : b t = true) : bcnt b (t + 1) = bcnt b t + 1 := by
  show bcnt b t + (if b t = true then _ else _) = _
  rw [if_pos h]
theorem bcnt_f {b : Nat → Bool} {t : Nat} (h : ¬ b t = true) : bcnt b (t + 1) = bcnt b t := by
  show bcnt b t + (if b t = true then _ else _) = _
  rw [if_neg h]
  rfl
def aiB (S : Sv) (t i c : Nat) : Bool := decide (0 < c % 10 ∧ hkS1 (mvT S t (c / 10) (c % 10)) 24 t = (i : Int))
theorem aiB_0 {S : Sv} {t i x : Nat} : aiB S t i (10 * x + 10) = false := by
  unfold aiB
  rw [decide_eq_false_iff_not]
  omega
theorem aiB_is {S : Sv} {t i x y : Nat} (hy1 : 1 ≤ y) (hy : y < 10) : aiB S t i (10 * x + y) = decide (hkS1 (mvT S t x y) 24 t = (i : Int)) := by
  unfold aiB
  rw [show (10 * x + y) % 10 = y by omega, show (10 * x + y) / 10 = x by omega, decide_eq_decide]
  constructor
  · exact fun h => h.2
  · exact fun h => ⟨by omega, h⟩
theorem tb12 : tbV 1 2 = nI 9 := rfl
theorem tb11 : tbV 1 1 = nI 9 := rfl
theorem tb02 : tbV 0 2 = nI 1 := rfl
theorem tb01 : tbV 0 1 = nI 0 := rfl
theorem aimC57 {S : Sv} {t i x : Nat} (hW : WF S) (ht : t < S 0 0) (hi : i < 4) (hx : x ≤ 9) {T : Int32 → Mem → Option (Int32 × Mem)} (hT : ∀ M0, (∃ x0 y0, RepC M0 14 (mvT S t x0 y0)) → ∃ M1, T (nI (x + 1)) M0 = some (iI (ff (aiB S t i) (100 - (10 * (x + 1) + 1)) (10 * (x + 1) + 1)), M1) ∧ Fr CScr M0 M1) : ∀ f y M0, 1 ≤ y → y ≤ 10 → 10 - y < f → (∃ x0 y0, RepC M0 14 (mvT S t x0 y0)) → ∃ M1, f_X5_aim_57 (nI t) (nI i) T f (nI x) (nI y) M0 = some (iI (ff (aiB S t i) (100 - (10 * x + y)) (10 * x + y)), M1) ∧ Fr CScr M0 M1 := by
  have t4 : t < 4 := Nat.lt_of_lt_of_le ht hW.1
  intro f
  induction f with
  | zero => intro y _ _ _ q; omega
  | succ f ih =>
    intro y M0 hy1 hy hf hC
    unfold f_X5_aim_57
    rw [rd_lit 2 (by omega) (by omega), tb12]
    by_cases q : y = 10
    · subst q
      rw [if_pos ((nI_ltN (by omega) (by omega)).mpr (by omega))]
      unfold f_X5_aim_108
      rw [show (1 : Int32) = nI 1 from rfl, nI_add, ff_skip aiB_0, show 10 * x + 10 + 1 = 10 * (x + 1) + 1 by omega]
      exact hT M0 hC
    · obtain ⟨x0, y0, hC⟩ := hC
      rw [if_neg (fun z => by have := (nI_ltN (by omega) (by omega)).mp z; omega), moveTubC t4]
      simp only [Option.bind_some]
      have hC1 := hC.mv x y
      have hW1 : WF (mvT S t x y) := hW.mv (by omega) (by omega) (by omega)
      have g0 : Fr CScr M0 (up (up M0 (14 + 1) (5 * t + 1) (nI x)) (14 + 1) (5 * t + 2) (nI y)) := (Fr.rfl'.up (by unfold CScr; omega)).up (by unfold CScr; omega)
      obtain ⟨M1, a1, a2⟩ := gives_ok hC1 (by omega) hW1 (show t < mvT S t x y 0 0 by rw [mvT_0]; exact ht) hi
      rw [a1]
      simp only [Option.bind_some, ite_b2]
      rw [show 100 - (10 * x + y) = (100 - (10 * x + (y + 1))) + 1 by omega]
      unfold ff
      rw [aiB_is hy1 (by omega)]
      by_cases w : hkS1 (mvT S t x y) 24 t = (i : Int)
      · rw [if_pos w, if_pos (decide_eq_true w), iI_nI]
        unfold f_X5_aim_94
        rw [show (10 : Int32) = nI 10 from rfl, nI_mulN, nI_add]
        exact ⟨M1, rfl, g0.trans a2.cd⟩
      · rw [if_neg w, if_neg (by simpa using w), show (1 : Int32) = nI 1 from rfl, nI_add]
        obtain ⟨M2, b1, b2⟩ := ih (y + 1) M1 (by omega) (by omega) (by omega) ⟨x, y, hC1.cd (by omega) a2⟩
        exact ⟨M2, b1, (g0.trans a2.cd).trans b2⟩
theorem aimC41 {S : Sv} {t i : Nat} (hW : WF S) (ht : t < S 0 0) (hi : i < 4) : ∀ f x M0, x ≤ 10 → 10 - x < f → (∃ x0 y0, RepC M0 14 (mvT S t x0 y0)) → ∃ M1, f_X5_aim_41 (nI t) (nI i) f (nI x) M0 = some (iI (ff (aiB S t i) (100 - (10 * x + 1)) (10 * x + 1)), M1) ∧ Fr CScr M0 M1 := by
  intro f
  induction f with
  | zero => intro y _ _ q; omega
  | succ f ih =>
    intro x M0 hx hf hC
    unfold f_X5_aim_41
    rw [rd_lit 1 (by omega) (by omega), tb11]
    by_cases q : x = 10
    · subst q
      rw [if_pos ((nI_ltN (by omega) (by omega)).mpr (by omega))]
      exact ⟨M0, rfl, Fr.rfl'⟩
    · rw [if_neg (fun z => by have := (nI_ltN (by omega) (by omega)).mp z; omega), rd_lit 2 (by omega) (by omega), tb02]
      exact aimC57 hW ht hi (by omega) (fun M0 h => ih (x + 1) M0 (by omega) (by omega) h) FU 1 M0 (by omega) (by omega) (FU_gt (by omega)) hC
theorem aimM {S : Sv} {t i : Nat} (hW : WF S) (ht : t < S 0 0) (hi : i < 4) : ∀ f c M0, c ≤ 100 → 100 - c < f → RConst M0 → (∃ x y, RepM M0 288 (mvT S t x y)) → ∃ M1, f_X6_aim_28 (nI t) (nI i) f (nI c) M0 = some (iI (ff (aiB S t i) (100 - c) c), M1) ∧ Fr MScr M0 M1 := by
  have t4 : t < 4 := Nat.lt_of_lt_of_le ht hW.1
  intro f
  induction f with
  | zero => intro h _ _ q; omega
  | succ f ih =>
    intro c M0 hh hf hK hM
    obtain ⟨x0, y0, hM⟩ := hM
    unfold f_X6_aim_28
    by_cases q : c = 100
    · subst q
      rw [if_pos (by decide)]
      exact ⟨M0, rfl, Fr.rfl'⟩
    · rw [if_neg (fun z => absurd ((lit_le 100 (by omega) (by omega)).mp z) (by omega)), show (292 : Int32) = nI 292 from rfl, show (296 : Int32) = nI 296 from rfl, nI_add, nI_add, inb_ok (by omega) (by omega), nI_clamp (by omega)]
      simp only [lm]
      rw [inb_ok (by omega) (by omega), nI_clamp (by omega), nI_mod10 (by omega), nI_div10 (by omega)]
      have hM1 := hM.mv hW ht (c / 10) (c % 10)
      have g0 : Fr MScr M0 (up (up M0 55 (292 + t) (nI (c / 10))) 55 (296 + t) (nI (c % 10))) := (Fr.rfl'.up (by unfold MScr; omega)).up (by unfold MScr; omega)
      have hK1 := hK.ms g0
      by_cases z : c % 10 = 0
      · rw [if_pos ((le_lit 0 (by omega) (by omega)).mpr (by omega))]
        unfold f_X6_aim_80
        rw [show (1 : Int32) = nI 1 from rfl, nI_add, ff_skip (by unfold aiB; rw [decide_eq_false_iff_not]; omega)]
        obtain ⟨M2, b1, b2⟩ := ih (c + 1) _ (by omega) (by omega) hK1 ⟨_, _, hM1⟩
        exact ⟨M2, b1, g0.trans b2⟩
      · have hW1 : WF (mvT S t (c / 10) (c % 10)) := hW.mv (by omega) (by omega) (by omega)
        rw [if_neg (fun y => z (by have := (le_lit 0 (by omega) (by omega)).mp y; omega))]
        obtain ⟨M1, a1, a2⟩ := isHooked_ok (hM1.E hK1) hW1 (show t < mvT S t (c / 10) (c % 10) 0 0 by rw [mvT_0]; exact ht) hi
        rw [a1]
        simp only [Option.bind_some, ite_b2]
        have eb : aiB S t i c = decide (hkS1 (mvT S t (c / 10) (c % 10)) 24 t = (i : Int)) := by
          unfold aiB
          rw [decide_eq_decide]
          constructor
          · exact fun h => h.2
          · exact fun h => ⟨by omega, h⟩
        by_cases w : hkS1 (mvT S t (c / 10) (c % 10)) 24 t = (i : Int)
        · rw [if_pos w, show 100 - c = (100 - (c + 1)) + 1 by omega]
          unfold ff
          rw [if_pos (by rw [eb]; exact decide_eq_true w), iI_nI]
          exact ⟨M1, rfl, g0.trans a2.md⟩
        · rw [if_neg w, ff_skip (by rw [eb]; exact decide_eq_false w)]
          unfold f_X6_aim_80
          rw [show (1 : Int32) = nI 1 from rfl, nI_add]
          obtain ⟨M2, b1, b2⟩ := ih (c + 1) M1 (by omega) (by omega) (hK1.ms a2.md) ⟨_, _, hM1.mdd a2⟩
          exact ⟨M2, b1, (g0.trans a2.md).trans b2⟩
theorem st_aim : St_aim Rel := by
  intro M a c h
  refine st2 h fun S hS => ?_
  obtain ⟨hW, hC, hM⟩ := id hS
  have hS0 := hW.1
  have hS1 := hW.2.1
  by_cases ht : 0 ≤ a.toInt ∧ a.toInt < S 0 0
  · by_cases hc : 0 ≤ c.toInt ∧ c.toInt < S 0 1
    · obtain ⟨t, -, ht2, rfl⟩ := nI_rng (lo := 0) (hi := S 0 0 - 1) (x := a) (by omega)
      obtain ⟨i, -, hi2, rfl⟩ := nI_rng (lo := 0) (hi := S 0 1 - 1) (x := c) (by omega)
      have ht' := ht
      have hc' := hc
      rw [nI_toInt (by omega)] at ht' hc'
      have ht3 : t < S 0 0 := by omega
      have i4 : i < 4 := by omega
      obtain ⟨M1, a1, a2, a3⟩ := trial hW hC
      obtain ⟨M2, b1, b2⟩ := aimC41 hW ht3 i4 FU 0 M1 (by omega) (FU_gt (by omega)) ⟨_, _, by rw [mvT_id]; exact a3⟩
      refine ⟨iI (ff (aiB S t i) (100 - (10 * 0 + 1)) (10 * 0 + 1)), M2, ?_, a2.trans b2, fun M' hf hR hS' => ?_⟩
      · unfold f_X5_aim
        rw [isTubC hC hS0, isHeirC hC hS1]
        simp only [Option.bind_some, ite_b2, if_pos ht, if_pos hc]
        rw [a1]
        simp only [Option.bind_some]
        rw [rd_lit 1 (by omega) (by omega), tb01]
        exact b1
      · obtain ⟨c1, c2, c3⟩ := tried hW hS'.2.2
        obtain ⟨M3, d1, d2⟩ := aimM hW ht3 i4 FU 0 _ (by omega) (FU_gt (by omega)) (hR.konst.ms c2) ⟨_, _, by rw [mvT_id]; exact c3⟩
        refine ⟨M3, ?_, c2.trans d2⟩
        unfold f_X6_aim
        rw [isTubM hS'.2.2 hS0, isHeirM hS'.2.2 hS1]
        simp only [Option.bind_some, ite_b2, if_pos ht, if_pos hc]
        rw [c1]
        rw [ff_skip (n := 0) (by unfold aiB; rw [decide_eq_false_iff_not]; omega)] at d1
        exact d1
    · exact Sim.bad (b := -1) (by unfold f_X5_aim; rw [isTubC hC hS0, isHeirC hC hS1]; simp only [Option.bind_some, ite_b2, if_pos ht, if_neg hc]) (fun M' hS' => by unfold f_X6_aim; rw [isTubM hS'.2.2 hS0, isHeirM hS'.2.2 hS1]; simp only [Option.bind_some, ite_b2, if_pos ht, if_neg hc])
  · exact Sim.bad (b := -1) (by unfold f_X5_aim; rw [isTubC hC hS0]; simp only [Option.bind_some, ite_b2, if_neg ht]) (fun M' hS' => by unfold f_X6_aim; rw [isTubM hS'.2.2 hS0]; simp only [Option.bind_some, ite_b2, if_neg ht])
/-! ways -/
def wyB (S : Sv) (t w c : Nat) : Bool := decide (0 < c % 10 ∧ wayM (mvT S t (c / 10) (c % 10)) t 24 24 = w)
theorem wyB_0 {S : Sv} {t w x : Nat} : wyB S t w (10 * x + 10) = false := by
  unfold wyB
  rw [decide_eq_false_iff_not]
  omega
theorem wyB_is {S : Sv} {t w x y : Nat} (hy1 : 1 ≤ y) (hy : y < 10) : wyB S t w (10 * x + y) = decide (wayM (mvT S t x y) t 24 24 = w) := by
  unfold wyB
  rw [show (10 * x + y) % 10 = y by omega, show (10 * x + y) / 10 = x by omega, decide_eq_decide]
  constructor
  · exact fun h => h.2
  · exact fun h => ⟨by omega, h⟩
theorem waysC59 {S : Sv} {t w x : Nat} (hW : WF S) (ht : t < S 0 0) (hw : w < 4) (hx : x ≤ 9) {T : Int32 → Int32 → Mem → Option (Int32 × Mem)} (hT : ∀ M0, (∃ x0 y0, RepC M0 14 (mvT S t x0 y0)) → ∃ M1, T (nI (bcnt (wyB S t w) (10 * (x + 1) + 1))) (nI (x + 1)) M0 = some (nI (bcnt (wyB S t w) 100), M1) ∧ Fr CScr M0 M1) : ∀ f y M0, 1 ≤ y → y ≤ 10 → 10 - y < f → (∃ x0 y0, RepC M0 14 (mvT S t x0 y0)) → ∃ M1, f_X5_ways_59 (nI t) (nI w) T f (nI (bcnt (wyB S t w) (10 * x + y))) (nI x) (nI y) M0 = some (nI (bcnt (wyB S t w) 100), M1) ∧ Fr CScr M0 M1 := by
  have t4 : t < 4 := Nat.lt_of_lt_of_le ht hW.1
  intro f
  induction f with
  | zero => intro y _ _ _ q; omega
  | succ f ih =>
    intro y M0 hy1 hy hf hC
    unfold f_X5_ways_59 f_X5_ways_110
    rw [rd_lit 2 (by omega) (by omega), tb12]
    by_cases q : y = 10
    · subst q
      rw [if_pos ((nI_ltN (by omega) (by omega)).mpr (by omega))]
      unfold f_X5_ways_116
      rw [show (1 : Int32) = nI 1 from rfl, nI_add]
      have := hT M0 hC
      rw [show 10 * (x + 1) + 1 = 10 * x + 10 + 1 by omega, bcnt_f (by rw [wyB_0]; decide)] at this
      exact this
    · obtain ⟨x0, y0, hC⟩ := hC
      rw [if_neg (fun z => by have := (nI_ltN (by omega) (by omega)).mp z; omega), moveTubC t4]
      simp only [Option.bind_some]
      have hC1 := hC.mv x y
      have hW1 : WF (mvT S t x y) := hW.mv (by omega) (by omega) (by omega)
      have ht1 : t < mvT S t x y 0 0 := by rw [mvT_0]; exact ht
      have wl := wayM_lt hW1 ht1 24 24
      have g0 : Fr CScr M0 (up (up M0 (14 + 1) (5 * t + 1) (nI x)) (14 + 1) (5 * t + 2) (nI y)) := (Fr.rfl'.up (by unfold CScr; omega)).up (by unfold CScr; omega)
      obtain ⟨M1, a1, a2, a3⟩ := runTub_ok hC1 (by omega) hW1 ht1 (show 24 ≤ 24 by omega)
      have aCD : Fr CD _ M1 := a2.mono (fun c j => Day6_CD)
      rw [show (24 : Int32) = nI 24 from rfl, a1]
      simp only [Option.bind_some]
      rw [wayOf_ok hW1 ht1 a3]
      simp only [Option.bind_some]
      rw [show (1 : Int32) = nI 1 from rfl, nI_add, nI_add]
      have r := ih (y + 1) M1 (by omega) (by omega) (by omega) ⟨x, y, hC1.cd (by omega) aCD⟩
      have eb := wyB_is (S := S) (t := t) (w := w) (x := x) hy1 (show y < 10 by omega)
      by_cases z : wayM (mvT S t x y) t 24 24 = w
      · rw [if_pos ((nI_eq (by omega) (by omega)).mpr z)]
        rw [show 10 * x + (y + 1) = 10 * x + y + 1 by omega, bcnt_t (by rw [eb]; exact decide_eq_true z)] at r
        obtain ⟨M2, b1, b2⟩ := r
        exact ⟨M2, b1, (g0.trans aCD.cd).trans b2⟩
      · rw [if_neg (fun v => z ((nI_eq (by omega) (by omega)).mp v))]
        rw [show 10 * x + (y + 1) = 10 * x + y + 1 by omega, bcnt_f (by rw [eb]; simpa using z)] at r
        obtain ⟨M2, b1, b2⟩ := r
        exact ⟨M2, b1, (g0.trans aCD.cd).trans b2⟩
theorem waysC42 {S : Sv} {t w : Nat} (hW : WF S) (ht : t < S 0 0) (hw : w < 4) : ∀ f x M0, x ≤ 10 → 10 - x < f → (∃ x0 y0, RepC M0 14 (mvT S t x0 y0)) → ∃ M1, f_X5_ways_42 (nI t) (nI w) f (nI (bcnt (wyB S t w) (10 * x + 1))) (nI x) M0 = some (nI (bcnt (wyB S t w) 100), M1) ∧ Fr CScr M0 M1 := by
  intro f
  induction f with
  | zero => intro y _ _ q; omega
  | succ f ih =>
    intro x M0 hx hf hC
    unfold f_X5_ways_42
    rw [rd_lit 1 (by omega) (by omega), tb11]
    by_cases q : x = 10
    · subst q
      rw [if_pos ((nI_ltN (by omega) (by omega)).mpr (by omega)), show 10 * 10 + 1 = 100 + 1 from rfl, bcnt_f (by rw [show 100 = 10 * 9 + 10 from rfl, wyB_0]; decide)]
      exact ⟨M0, rfl, Fr.rfl'⟩
    · rw [if_neg (fun z => by have := (nI_ltN (by omega) (by omega)).mp z; omega), rd_lit 2 (by omega) (by omega), tb02]
      exact waysC59 hW ht hw (by omega) (fun M0 h => ih (x + 1) M0 (by omega) (by omega) h) FU 1 M0 (by omega) (by omega) (FU_gt (by omega)) hC
theorem waysM {S : Sv} {t w : Nat} (hW : WF S) (ht : t < S 0 0) (hw : w < 4) : ∀ f c M0, c ≤ 100 → 100 - c < f → RConst M0 → (∃ x y, RepM M0 288 (mvT S t x y)) → ∃ M1, f_X6_ways_35 (nI t) (nI w) f (nI (bcnt (wyB S t w) c)) (nI c) M0 = some (nI (bcnt (wyB S t w) 100), M1) ∧ Fr MScr M0 M1 := by
  have t4 : t < 4 := Nat.lt_of_lt_of_le ht hW.1
  intro f
  induction f with
  | zero => intro h _ _ q; omega
  | succ f ih =>
    intro c M0 hh hf hK hM
    obtain ⟨x0, y0, hM⟩ := hM
    unfold f_X6_ways_35
    by_cases q : c = 100
    · subst q
      rw [if_pos (by decide)]
      exact ⟨M0, rfl, Fr.rfl'⟩
    · rw [if_neg (fun z => absurd ((lit_le 100 (by omega) (by omega)).mp z) (by omega)), show (292 : Int32) = nI 292 from rfl, show (296 : Int32) = nI 296 from rfl, nI_add, nI_add, inb_ok (by omega) (by omega), nI_clamp (by omega)]
      simp only [lm]
      rw [nI_mod10 (by omega), nI_div10 (by omega)]
      have key : ∀ y, (y = if c % 10 = 0 then 1 else c % 10) → ∃ M1, f_X6_ways_83 (nI t) (nI w) (f_X6_ways_35 (nI t) (nI w) f) (nI (bcnt (wyB S t w) c)) (nI c) (nI (296 + t)) (nI y) (up M0 55 (292 + t) (nI (c / 10))) = some (nI (bcnt (wyB S t w) 100), M1) ∧ Fr MScr M0 M1 := by
        intro y hy
        have y1 : 1 ≤ y ∧ y < 10 := by rw [hy]; split <;> omega
        unfold f_X6_ways_83 f_X6_ways_116 f_X6_ways_117
        rw [inb_ok (by omega) (by omega), nI_clamp (by omega)]
        simp only [lm]
        have hM1 := hM.mv hW ht (c / 10) y
        have g0 : Fr MScr M0 (up (up M0 55 (292 + t) (nI (c / 10))) 55 (296 + t) (nI y)) := (Fr.rfl'.up (by unfold MScr; omega)).up (by unfold MScr; omega)
        have hK1 := hK.ms g0
        have hW1 : WF (mvT S t (c / 10) y) := hW.mv (by omega) (by omega) (by omega)
        have ht1 : t < mvT S t (c / 10) y 0 0 := by rw [mvT_0]; exact ht
        have wl := wayM_lt hW1 ht1 24 24
        obtain ⟨M1, a1, a2, a3⟩ := day_ok (hM1.E hK1) (by omega) hW1 (show 24 ≤ 24 by omega)
        rw [show (288 : Int32) = nI 288 from rfl, show (24 : Int32) = nI 24 from rfl, a1]
        simp only [Option.bind_some, li]
        rw [nI_mod10 (by omega), rd_ok t4 (by omega), (a3 t ht1).2.1, show (0 : Int32) = nI 0 from rfl, show (1 : Int32) = nI 1 from rfl, nI_add, nI_add, nI_add, Nat.add_zero]
        have r := ih (c + 1) M1 (by omega) (by omega) (hK1.ms a2.md) ⟨_, _, hM1.mdd a2⟩
        by_cases z : c % 10 = 0
        · rw [if_pos ((nI_leN (by omega) (by omega)).mpr (by omega))]
          rw [bcnt_f (by unfold wyB; rw [decide_eq_true_iff]; omega)] at r
          obtain ⟨M2, b1, b2⟩ := r
          exact ⟨M2, b1, (g0.trans a2.md).trans b2⟩
        · rw [if_neg (fun v => z (by have := (nI_leN (by omega) (by omega)).mp v; omega))]
          rw [if_neg z] at hy
          subst hy
          by_cases u : wayM (mvT S t (c / 10) (c % 10)) t 24 24 = w
          · rw [if_pos ((nI_eq (by omega) (by omega)).mpr u)]
            rw [bcnt_t (by unfold wyB; rw [decide_eq_true_iff]; exact ⟨by omega, u⟩)] at r
            obtain ⟨M2, b1, b2⟩ := r
            exact ⟨M2, b1, (g0.trans a2.md).trans b2⟩
          · rw [if_neg (fun v => u ((nI_eq (by omega) (by omega)).mp v))]
            rw [bcnt_f (by unfold wyB; rw [decide_eq_true_iff]; exact fun v => u v.2)] at r
            obtain ⟨M2, b1, b2⟩ := r
            exact ⟨M2, b1, (g0.trans a2.md).trans b2⟩
      by_cases z : c % 10 = 0
      · rw [if_pos ((nI_lit 0 (by omega) (by omega)).mpr z)]
        exact key 1 (by rw [if_pos z])
      · rw [if_neg (fun v => z ((nI_lit 0 (by omega) (by omega)).mp v))]
        exact key _ (by rw [if_neg z])
theorem st_ways : St_ways Rel := by
  intro M a c h
  refine st2 h fun S hS => ?_
  obtain ⟨hW, hC, hM⟩ := id hS
  have hS0 := hW.1
  by_cases ht : 0 ≤ a.toInt ∧ a.toInt < S 0 0
  · by_cases hc : ((0 : Nat) : Int) ≤ c.toInt ∧ c.toInt ≤ ((3 : Nat) : Int)
    · obtain ⟨t, -, ht2, rfl⟩ := nI_rng (lo := 0) (hi := S 0 0 - 1) (x := a) (by omega)
      obtain ⟨w, -, hw, rfl⟩ := nI_rng hc
      have ht' := ht
      rw [nI_toInt (by omega)] at ht'
      have ht3 : t < S 0 0 := by omega
      obtain ⟨M1, a1, a2, a3⟩ := trial hW hC
      obtain ⟨M2, b1, b2⟩ := waysC42 (w := w) hW ht3 (by omega) FU 0 M1 (by omega) (FU_gt (by omega)) ⟨_, _, by rw [mvT_id]; exact a3⟩
      rw [show 10 * 0 + 1 = 0 + 1 from rfl, bcnt_f (by unfold wyB; rw [decide_eq_true_iff]; omega)] at b1
      refine ⟨nI (bcnt (wyB S t w) 100), M2, ?_, a2.trans b2, fun M' hf hR hS' => ?_⟩
      · unfold f_X5_ways
        rw [isTubC hC hS0]
        simp only [within_lit _ 0 3 (by omega) (by omega), Option.bind_some, ite_b2, if_pos ht, if_pos hc]
        rw [a1]
        simp only [Option.bind_some]
        rw [rd_lit 1 (by omega) (by omega), tb01]
        exact b1
      · obtain ⟨c1, c2, c3⟩ := tried hW hS'.2.2
        obtain ⟨M3, d1, d2⟩ := waysM (w := w) hW ht3 (by omega) FU 0 _ (by omega) (FU_gt (by omega)) (hR.konst.ms c2) ⟨_, _, by rw [mvT_id]; exact c3⟩
        refine ⟨M3, ?_, c2.trans d2⟩
        unfold f_X6_ways
        rw [isTubM hS'.2.2 hS0]
        simp only [in_lit _ 0 3 (by omega) (by omega), Option.bind_some, ite_b2, if_pos ht, if_pos hc]
        rw [c1]
        exact d1
    · exact Sim.bad (b := -1) (by unfold f_X5_ways; rw [isTubC hC hS0]; simp only [within_lit _ 0 3 (by omega) (by omega), Option.bind_some, ite_b2, if_pos ht, if_neg hc]) (fun M' hS' => by unfold f_X6_ways; rw [isTubM hS'.2.2 hS0]; simp only [in_lit _ 0 3 (by omega) (by omega), Option.bind_some, ite_b2, if_pos ht, if_neg hc])
  · exact Sim.bad (b := -1) (by unfold f_X5_ways; rw [isTubC hC hS0]; simp only [Option.bind_some, ite_b2, if_neg ht]) (fun M' hS' => by unfold f_X6_ways; rw [isTubM hS'.2.2 hS0]; simp only [Option.bind_some, ite_b2, if_neg ht])
