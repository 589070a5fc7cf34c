/-! fire -/
def fiA (S : Sv) (i : Nat) : Nat → Int × Int := amc (fun n => (EH (setS S 4 (n / 4) (n % 4 + 1)) i : Int)) (fun n => ((10 * (n / 4) + (n % 4 + 1) : Nat) : Int)) (-4, (EH S i : Int))
theorem fiA_b {S : Sv} (hW : WF S) (i : Nat) {n : Nat} (hn : n ≤ 96) : (-1 ≤ (fiA S i n).2 ∧ (fiA S i n).2 ≤ 396) ∧ -4 ≤ (fiA S i n).1 ∧ (fiA S i n).1 ≤ 1000 := by
  have h0 := EH_le hW i
  exact amc_b (by simp only; omega) (by simp only; omega) n (fun v hv => by
    have := EH_le (hW.wind (r := v / 4) (v := v % 4 + 1) (by omega)) i
    omega) (fun v hv => by omega)
theorem fiA_y {S : Sv} {i h v : Nat} (hv1 : 1 ≤ v) (hv : v < 5) (q : (fiA S i (4 * h + (v - 1))).2 < (EH (setS S 4 h v) i : Int)) : fiA S i (4 * h + v) = (((10 * h + v : Nat) : Int), (EH (setS S 4 h v) i : Int)) := by
  have e1 : (4 * h + (v - 1)) / 4 = h := by omega
  have e2 : (4 * h + (v - 1)) % 4 + 1 = v := by omega
  have := amc_y (f := fun n => (EH (setS S 4 (n / 4) (n % 4 + 1)) i : Int)) (c := fun n => ((10 * (n / 4) + (n % 4 + 1) : Nat) : Int)) (z := (-4, (EH S i : Int))) (n := 4 * h + (v - 1)) (by simp only [e1, e2]; exact q)
  simp only [e1, e2] at this
  rw [show 4 * h + (v - 1) + 1 = 4 * h + v by omega] at this
  exact this
theorem fiA_n {S : Sv} {i h v : Nat} (hv1 : 1 ≤ v) (hv : v < 5) (q : ¬ (fiA S i (4 * h + (v - 1))).2 < (EH (setS S 4 h v) i : Int)) : fiA S i (4 * h + v) = fiA S i (4 * h + (v - 1)) := by
  have e1 : (4 * h + (v - 1)) / 4 = h := by omega
  have e2 : (4 * h + (v - 1)) % 4 + 1 = v := by omega
  have := amc_n (f := fun n => (EH (setS S 4 (n / 4) (n % 4 + 1)) i : Int)) (c := fun n => ((10 * (n / 4) + (n % 4 + 1) : Nat) : Int)) (z := (-4, (EH S i : Int))) (n := 4 * h + (v - 1)) (by simp only [e1, e2]; exact q)
  rw [show 4 * h + (v - 1) + 1 = 4 * h + v by omega] at this
  exact this
def fiR (S : Sv) (i w : Nat) : Int32 := if (fiA S i 96).1 = -4 then iI (-4) else if w = 0 then iI (fiA S i 96).1 else iI (fiA S i 96).2
theorem fireC74 {S : Sv} {i w h : Nat} (hW : WF S) (hi : i < 4) (hh : h < 24) {T : Int32 → Int32 → Int32 → Mem → Option (Int32 × Mem)} {A : Int32} (hT : ∀ M0, RepC M0 9 S → RepC M0 14 S → ∃ M1, T (iI (fiA S i (4 * (h + 1))).1) (iI (fiA S i (4 * (h + 1))).2) (nI (h + 1)) M0 = some (A, M1) ∧ Fr CScr M0 M1) : ∀ f v M0, 1 ≤ v → v ≤ 5 → 5 - v < f → RepC M0 9 S → (∃ u, RepC M0 14 (setS S 4 h u)) → ∃ M1, f_X5_fire_74 (nI i) (nI w) T f (iI (fiA S i (4 * h + (v - 1))).1) (iI (fiA S i (4 * h + (v - 1))).2) (nI h) (nI v) M0 = some (A, M1) ∧ Fr CScr M0 M1 := by
  intro f
  induction f with
  | zero => intro v _ _ _ q; omega
  | succ f ih =>
    intro v M0 hv1 hv hf hN hC
    obtain ⟨u, hC⟩ := hC
    unfold f_X5_fire_74
    by_cases q : v = 5
    · subst q
      rw [if_pos (by decide)]
      unfold f_X5_fire_143
      rw [rd_ok hh (by omega), inb_ok hh (by omega), nI_clamp (by omega), hN.2.2.2.2.2.2 h hh, show (1 : Int32) = nI 1 from rfl, nI_add]
      simp only [lm]
      have hC1 := hC.windU h (S 4 h)
      rw [setS_setS, setS_id] at hC1
      have g0 : Fr CScr M0 (up M0 18 h (nI (S 4 h))) := Fr.rfl'.up (by unfold CScr; omega)
      obtain ⟨M1, a1, a2⟩ := hT (up M0 18 h (nI (S 4 h))) (hN.cs (by omega) g0) hC1
      exact ⟨M1, a1, g0.trans a2⟩
    · rw [if_neg (fun z => absurd ((lit_le 5 (by omega) (by omega)).mp z) (by omega)), inb_ok hh (by omega), nI_clamp (by omega)]
      simp only [lm]
      have hC1 := hC.windU h v
      rw [setS_setS] at hC1
      have hW1 : WF (setS S 4 h v) := hW.wind (by omega)
      have g0 : Fr CScr M0 (up M0 18 h (nI v)) := Fr.rfl'.up (by unfold CScr; omega)
      obtain ⟨M1, a1, a2, a3⟩ := run_ok hC1 (by omega) hW1
      rw [a1]
      simp only [Option.bind_some]
      rw [estHeirC (hC1.cd (by omega) a2) hW1 a3 hi]
      simp only [Option.bind_some, li]
      have b := fiA_b hW i (show 4 * h + (v - 1) ≤ 96 by omega)
      have eb := EH_le hW1 i
      obtain ⟨M2, b1, b2⟩ := ih (v + 1) M1 (by omega) (by omega) (by omega) ((hN.cs (by omega) g0).cs (by omega) a2.cd) ⟨v, hC1.cd (by omega) a2⟩
      refine ⟨M2, ?_, (g0.trans a2.cd).trans b2⟩
      rw [← b1, show v + 1 - 1 = v by omega]
      unfold f_X5_fire_137
      rw [show (1 : Int32) = nI 1 from rfl, nI_add, ← iI_nI (EH _ _), show (10 : Int32) = nI 10 from rfl, nI_mulN, nI_add]
      by_cases z : (fiA S i (4 * h + (v - 1))).2 < (EH (setS S 4 h v) i : Int)
      · rw [if_neg (fun y => by have := (iI_le (by omega) (by omega)).mp y; omega), fiA_y hv1 (by omega) z, iI_nI (10 * h + v)]
      · rw [if_pos ((iI_le (by omega) (by omega)).mpr (by omega)), fiA_n hv1 (by omega) z]
theorem fireC64 {S : Sv} {i w : Nat} (hW : WF S) (hi : i < 4) (hw : w < 2) : ∀ f h M0, h ≤ 24 → 24 - h < f → RepC M0 9 S → RepC M0 14 S → ∃ M1, f_X5_fire_64 (nI i) (nI w) f (iI (fiA S i (4 * h)).1) (iI (fiA S i (4 * h)).2) (nI h) M0 = some (fiR S i w, M1) ∧ Fr CScr M0 M1 := by
  intro f
  induction f with
  | zero => intro h _ _ q; omega
  | succ f ih =>
    intro h M0 hh hf hN hC
    unfold f_X5_fire_64
    by_cases q : h = 24
    · subst q
      rw [if_pos (by decide)]
      unfold f_X5_fire_169 fiR
      have b := fiA_b hW i (show 4 * 24 ≤ 96 by omega)
      refine ⟨M0, ?_, Fr.rfl'⟩
      rw [show (4 * 24 : Nat) = 96 from rfl] at b ⊢
      simp only [nI_lit 0 (show w < 2 ^ 31 by omega) (by omega)]
      rw [show (-4 : Int32) = iI (-4) from rfl]
      by_cases z : (fiA S i 96).1 = -4
      · rw [if_pos ((iI_eq (by omega) (by omega)).mpr z), if_pos z]
      · rw [if_neg (fun y => z ((iI_eq (by omega) (by omega)).mp y)), if_neg z]
        by_cases x : w = 0
        · rw [if_pos x, if_pos x]
        · rw [if_neg x, if_neg x]
    · rw [if_neg (fun z => absurd ((lit_le 24 (by omega) (by omega)).mp z) (by omega))]
      have := fireC74 (w := w) hW hi (show h < 24 by omega) (fun M0 h1 h2 => ih (h + 1) M0 (by omega) (by omega) h1 h2) FU 1 M0 (by omega) (by omega) (FU_gt (by omega)) hN ⟨S 4 h, by rw [setS_id]; exact hC⟩
      exact this
theorem fireM52 {S : Sv} {i w h : Nat} (hW : WF S) (hi : i < 4) (hh : h < 24) {T : Int32 → Int32 → Int32 → Mem → Option (Int32 × Mem)} {A : Int32} (hT : ∀ M0, RConst M0 → RepM M0 0 S → ∃ M1, T (iI (fiA S i (4 * (h + 1))).2) (iI (fiA S i (4 * (h + 1))).1) (nI (h + 1)) M0 = some (A, M1) ∧ Fr MScr M0 M1) : ∀ f v M0, 1 ≤ v → v ≤ 5 → 5 - v < f → RConst M0 → RepM M0 0 S → (∃ u, RepM M0 288 (setS S 4 h u)) → ∃ M1, f_X6_fire_52 (nI i) (nI w) T f (iI (fiA S i (4 * h + (v - 1))).2) (iI (fiA S i (4 * h + (v - 1))).1) (nI h) (nI v) M0 = some (A, M1) ∧ Fr MScr M0 M1 := by
  intro f
  induction f with
  | zero => intro v _ _ _ q; omega
  | succ f ih =>
    intro v M0 hv1 hv hf hK hN hM
    obtain ⟨u, hM⟩ := hM
    unfold f_X6_fire_52
    by_cases q : v = 5
    · subst q
      rw [if_pos (by decide)]
      unfold f_X6_fire_121
      rw [show (1 : Int32) = nI 1 from rfl, nI_add]
      exact hT M0 hK hN
    · rw [if_neg (fun z => absurd ((lit_lt 4 (by omega) (by omega)).mp z) (by omega)), show (335 : Int32) = nI 335 from rfl, nI_add, inb_ok (by omega) (by omega), nI_clamp (by omega)]
      simp only [lm]
      have hM1 := hM.windU (by rw [setS_0 (by omega)]; exact hW.1) (by rw [setS_0 (by omega)]; exact hW.2.1) (j := h) hh v
      rw [setS_setS, show 288 + 47 + h = 335 + h by omega] at hM1
      have hW1 : WF (setS S 4 h v) := hW.wind (by omega)
      have g0 : Fr MScr M0 (up M0 55 (335 + h) (nI v)) := Fr.rfl'.up (by unfold MScr; omega)
      have hK1 := hK.ms g0
      obtain ⟨M1, a1, a2, a3⟩ := worth_heir (hM1.E hK1) (by omega) hW1 hi
      rw [show (288 : Int32) = nI 288 from rfl, a1]
      simp only [Option.bind_some]
      have b := fiA_b hW i (show 4 * h + (v - 1) ≤ 96 by omega)
      have eb := EH_le hW1 i
      obtain ⟨M2, b1, b2⟩ := ih (v + 1) M1 (by omega) (by omega) (by omega) (hK1.ms a2.md) ((hN.ms hW (by omega) g0).ms hW (by omega) a2.md) ⟨v, hM1.mdd a2⟩
      refine ⟨M2, ?_, (g0.trans a2.md).trans b2⟩
      rw [← b1, show v + 1 - 1 = v by omega]
      unfold f_X6_fire_100 f_X6_fire_114
      rw [show (1 : Int32) = nI 1 from rfl, nI_add, ← iI_nI (EH _ _), show (10 : Int32) = nI 10 from rfl, nI_mulN, nI_add]
      by_cases z : (fiA S i (4 * h + (v - 1))).2 < (EH (setS S 4 h v) i : Int)
      · rw [if_neg (fun y => by have := (iI_le (by omega) (by omega)).mp y; omega), if_neg (fun y => by have := (iI_le (by omega) (by omega)).mp y; omega), fiA_y hv1 (by omega) z, iI_nI (10 * h + v)]
      · rw [if_pos ((iI_le (by omega) (by omega)).mpr (by omega)), if_pos ((iI_le (by omega) (by omega)).mpr (by omega)), fiA_n hv1 (by omega) z]
theorem fireM34 {S : Sv} {i w : Nat} (hW : WF S) (hi : i < 4) (hw : w < 2) : ∀ f h M0, h ≤ 24 → 24 - h < f → RConst M0 → RepM M0 0 S → ∃ M1, f_X6_fire_34 (nI i) (nI w) f (iI (fiA S i (4 * h)).2) (iI (fiA S i (4 * h)).1) (nI h) M0 = some (fiR S i w, M1) ∧ Fr MScr M0 M1 := by
  intro f
  induction f with
  | zero => intro h _ _ q; omega
  | succ f ih =>
    intro h M0 hh hf hK hN
    unfold f_X6_fire_34
    by_cases q : h = 24
    · subst q
      rw [if_pos (by decide)]
      unfold f_X6_fire_127 f_X6_fire_138 fiR
      have b := fiA_b hW i (show 4 * 24 ≤ 96 by omega)
      refine ⟨M0, ?_, Fr.rfl'⟩
      rw [show (4 * 24 : Nat) = 96 from rfl] at b ⊢
      simp only [nI_lit 0 (show w < 2 ^ 31 by omega) (by omega)]
      rw [show (-4 : Int32) = iI (-4) from rfl]
      by_cases z : (fiA S i 96).1 = -4
      · rw [if_pos ((iI_eq (by omega) (by omega)).mpr z), if_pos z, z]
      · rw [if_neg (fun y => z ((iI_eq (by omega) (by omega)).mp y)), if_neg z]
        by_cases x : w = 0
        · rw [if_pos x, if_pos x]
        · rw [if_neg x, if_neg x]
    · rw [if_neg (fun z => absurd ((lit_le 24 (by omega) (by omega)).mp z) (by omega))]
      obtain ⟨c1, c2, c3⟩ := tried hW hN
      rw [c1]
      simp only [Option.bind_some]
      obtain ⟨M1, a1, a2⟩ := fireM52 (w := w) hW hi (show h < 24 by omega) (fun M0 h1 h2 => ih (h + 1) M0 (by omega) (by omega) h1 h2) FU 1 _ (by omega) (by omega) (FU_gt (by omega)) (hK.ms c2) (hN.ms hW (by omega) c2) ⟨S 4 h, by rw [setS_id]; exact c3⟩
      exact ⟨M1, a1, c2.trans a2⟩
theorem st_fire : St_fire Rel := by
  intro M a c h
  refine st2 h fun S hS => ?_
  obtain ⟨hW, hC, hM⟩ := id hS
  have hS1 := hW.2.1
  by_cases ht : 0 ≤ a.toInt ∧ a.toInt < S 0 1
  · by_cases hc : ((0 : Nat) : Int) ≤ c.toInt ∧ c.toInt ≤ ((1 : Nat) : Int)
    · obtain ⟨i, -, hi2, rfl⟩ := nI_rng (lo := 0) (hi := S 0 1 - 1) (x := a) (by omega)
      obtain ⟨w, -, hw, rfl⟩ := nI_rng hc
      have ht' := ht
      rw [nI_toInt (by omega)] at ht'
      have i4 : i < 4 := by omega
      obtain ⟨M1, a1, a2, a3⟩ := trial hW hC
      obtain ⟨M2, b1, b2, b3⟩ := run_ok a3 (by omega) hW
      have b4 := estHeirC (a3.cd (by omega) b2) hW b3 i4
      obtain ⟨M3, c1, c2⟩ := fireC64 (w := w) hW i4 (by omega) FU 0 M2 (by omega) (FU_gt (by omega)) ((hC.cs (by omega) a2).cs (by omega) b2.cd) (a3.cd (by omega) b2)
      refine ⟨fiR S i w, M3, ?_, (a2.trans b2.cd).trans c2, fun M' hf hR hS' => ?_⟩
      · unfold f_X5_fire
        rw [isHeirC hC hS1]
        simp only [within_lit _ 0 1 (by omega) (by omega), Option.bind_some, ite_b2, if_pos ht, if_pos hc]
        rw [a1]
        simp only [Option.bind_some]
        rw [b1]
        simp only [Option.bind_some]
        rw [b4]
        simp only [Option.bind_some]
        rw [← iI_nI (EH _ _)]
        exact c1
      · obtain ⟨M4, d1, d2, -⟩ := worth_heir (hS'.2.2.E hR.konst) (by omega) hW i4
        obtain ⟨M5, e1, e2⟩ := fireM34 (w := w) hW i4 (by omega) FU 0 M4 (by omega) (FU_gt (by omega)) (hR.konst.ms d2.md) (hS'.2.2.ms hW (by omega) d2.md)
        refine ⟨M5, ?_, d2.md.trans e2⟩
        unfold f_X6_fire
        rw [isHeirM hS'.2.2 hS1]
        simp only [in_lit _ 0 1 (by omega) (by omega), Option.bind_some, ite_b2, if_pos ht, if_pos hc]
        rw [show f_X6_worth 0 (nI i) M' = f_X6_worth (nI 0) (nI i) M' from rfl, d1]
        simp only [Option.bind_some]
        rw [← iI_nI (EH _ _)]
        exact e1
    · exact Sim.bad (b := -1) (by unfold f_X5_fire; rw [isHeirC hC hS1]; simp only [within_lit _ 0 1 (by omega) (by omega), Option.bind_some, ite_b2, if_pos ht, if_neg hc]) (fun M' hS' => by unfold f_X6_fire; rw [isHeirM hS'.2.2 hS1]; simp only [in_lit _ 0 1 (by omega) (by omega), Option.bind_some, ite_b2, if_pos ht, if_neg hc])
  · exact Sim.bad (b := -1) (by unfold f_X5_fire; rw [isHeirC hC hS1]; simp only [Option.bind_some, ite_b2, if_neg ht]) (fun M' hS' => by unfold f_X6_fire; rw [isHeirM hS'.2.2 hS1]; simp only [Option.bind_some, ite_b2, if_neg ht])
