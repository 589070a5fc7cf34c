theorem CD_Scr {c j : Nat} (h : CD c j) : Scr c j := by unfold CD at h; unfold Scr; omega
theorem MD_Scr {c j : Nat} (h : MD c j) : Scr c j := by unfold MD at h; unfold Scr; omega
theorem Day6_CD {t c j : Nat} (h : Day6 t c j) : CD c j := by unfold Day6 at h; unfold CD; omega
theorem Rel.konst {M : Mem} (h : Rel M) : RConst M := h.2.2.2.2.2.2.2
theorem RepM.mdd {M M1 : Mem} {p : Nat} {S : Sv} (h : RepM M p S) (hf : Fr MD M M1) : RepM M1 p S := h.frC hf (fun c j a b => by unfold MD; omega)
/-! scratch of the class, of the model; two runs that answer alike -/
def CScr (c _j : Nat) : Prop := (14 ≤ c ∧ c ≤ 18) ∨ (40 ≤ c ∧ c ≤ 46) ∨ (50 ≤ c ∧ c ≤ 53)
def MScr (c j : Nat) : Prop := (61 ≤ c ∧ c ≤ 68) ∨ c = 70 ∨ (c = 55 ∧ 216 ≤ j)
theorem CScr_Scr {c j : Nat} (h : CScr c j) : Scr c j := by unfold CScr at h; unfold Scr; omega
theorem MScr_Scr {c j : Nat} (h : MScr c j) : Scr c j := by unfold MScr at h; unfold Scr; omega
theorem CD_CScr {c j : Nat} (h : CD c j) : CScr c j := by unfold CD at h; unfold CScr; omega
theorem MD_MScr {c j : Nat} (h : MD c j) : MScr c j := by unfold MD at h; unfold MScr; omega
theorem Fr.cd {M M1 : Mem} (h : Fr CD M M1) : Fr CScr M M1 := h.mono (fun _ _ => CD_CScr)
theorem Fr.md {M M1 : Mem} (h : Fr MD M M1) : Fr MScr M M1 := h.mono (fun _ _ => MD_MScr)
theorem RSea.cs {M M1 : Mem} {S : Sv} (h : RSea M S) (hf : Fr CScr M M1) : RSea M1 S := h.fr hf (fun c j a b => by unfold CScr; omega) (fun j a => by unfold CScr; omega) (by unfold CScr; omega)
theorem RConst.ms {M M1 : Mem} (h : RConst M) (hf : Fr MScr M M1) : RConst M1 := h.fr hf (fun j => by unfold MScr; omega) (fun j => by unfold MScr; omega) (fun j => by unfold MScr; omega) (by unfold MScr; omega)
theorem RepM.ms {M M1 : Mem} {p : Nat} {S : Sv} (h : RepM M p S) (hW : WF S) (hp : p + 72 ≤ 216) (hf : Fr MScr M M1) : RepM M1 p S := h.fr hW hf (fun j a b => by unfold MScr; omega) (by unfold MScr; omega)
theorem RepC.cs {M M1 : Mem} {k : Nat} {S : Sv} (h : RepC M k S) (hk : k + 4 < 14 ∨ (18 < k ∧ k + 4 < 40)) (hf : Fr CScr M M1) : RepC M1 k S := h.fr hf (fun c j a b => by unfold CScr; omega)
theorem RepC.cd {M M1 : Mem} {k : Nat} {S : Sv} (h : RepC M k S) (hk : k + 4 < 41) (hf : Fr CD M M1) : RepC M1 k S := h.fr hf (fun c j a b => by unfold CD; omega)
def Sim {α : Type} (f g : Mem → Option (α × Mem)) (M : Mem) (S : Sv) : Prop := ∃ r M1, f M = some (r, M1) ∧ Fr CScr M M1 ∧ ∀ M', Fr CScr M M' → Rel M' → RSea M' S → ∃ M2, g M' = some (r, M2) ∧ Fr MScr M' M2
theorem st2 {α : Type} {f g : Mem → Option (α × Mem)} {M : Mem} (h : Rel M) (H : ∀ S, RSea M S → Sim f g M S) : ∃ (r : α) (M1 : Mem) (M2 : Mem), f M = some (r, M1) ∧ g M1 = some (r, M2) ∧ Rel M2 := by
  obtain ⟨⟨S, hS⟩, -⟩ := id h
  obtain ⟨r, M1, a1, a2, a3⟩ := H S hS
  have h1 : Rel M1 := h.scr (a2.mono (fun _ _ => CScr_Scr))
  obtain ⟨M2, b1, b2⟩ := a3 M1 a2 h1 (hS.cs a2)
  exact ⟨r, M1, M2, a1, b1, h1.scr (b2.mono (fun _ _ => MScr_Scr))⟩
theorem Sim.bad {α : Type} {f g : Mem → Option (α × Mem)} {M : Mem} {S : Sv} {b : α} (hf : f M = some (b, M)) (hg : ∀ M', RSea M' S → g M' = some (b, M')) : Sim f g M S :=
  ⟨b, M, hf, Fr.rfl', fun M' _ _ hS' => ⟨M', hg M' hS', Fr.rfl'⟩⟩
theorem setS_setS (S : Sv) (g j a b : Nat) : setS (setS S g j a) g j b = setS S g j b := by
  funext g' j'
  unfold setS
  by_cases h : g' = g ∧ j' = j
  · rw [if_pos h, if_pos h]
  · rw [if_neg h, if_neg h, if_neg h]
theorem setS_id (S : Sv) (g j : Nat) : setS S g j (S g j) = S := by
  funext g' j'
  unfold setS
  by_cases h : g' = g ∧ j' = j
  · rw [if_pos h, h.1, h.2]
  · rw [if_neg h]
theorem setS_comm (S : Sv) (g j a j2 b : Nat) (h : j ≠ j2) : setS (setS S g j a) g j2 b = setS (setS S g j2 b) g j a := by
  funext g' j'
  unfold setS
  by_cases h1 : g' = g ∧ j' = j2
  · rw [if_pos h1, if_neg (fun q => h (by omega)), if_pos h1]
  · rw [if_neg h1, if_neg h1]
theorem setS_0 {S : Sv} {g j v i : Nat} (h : g ≠ 0) : setS S g j v 0 i = S 0 i := setS_ne (fun q => h q.1.symm)
/-! what an heir has, what all have -/
def EH (S : Sv) (i : Nat) : Nat := sumW S (fun t => decide (hkS1 S 24 t = (i : Int))) (S 0 0)
def EA (S : Sv) : Nat := sumW S (fun t => decide (hkS1 S 24 t ≠ -4)) (S 0 0)
theorem EH_le {S : Sv} (hW : WF S) (i : Nat) : EH S i ≤ 396 := by
  have := sumW_le hW (fun t => decide (hkS1 S 24 t = (i : Int))) (S 0 0) (Nat.le_refl _)
  have := hW.1
  unfold EH
  omega
theorem EA_le {S : Sv} (hW : WF S) : EA S ≤ 396 := by
  have := sumW_le hW (fun t => decide (hkS1 S 24 t ≠ -4)) (S 0 0) (Nat.le_refl _)
  have := hW.1
  unfold EA
  omega
theorem estHeirC {M : Mem} {k i : Nat} {S : Sv} (hC : RepC M k S) (hW : WF S) (hd : ∀ t, t < S 0 0 → DayC M t S 24) (hi : i < 4) : f_X0_estatesOf k (nI i) M = some (nI (EH S i)) := by
  rw [← iI_nI]
  exact estOfC (hk := hkS1 S 24) (v := (i : Int)) hC hW (fun t ht => (hd t ht).2.1) (hk_b hW 24) (by omega)
theorem estAnyC {M : Mem} {k : Nat} {S : Sv} (hC : RepC M k S) (hW : WF S) (hd : ∀ t, t < S 0 0 → DayC M t S 24) : f_X0_estatesHooked k M = some (nI (EA S)) :=
  estHkC (hk := hkS1 S 24) hC hW (fun t ht => (hd t ht).2.1) (hk_b hW 24)
theorem worth_heir {M : Mem} {p i : Nat} {S : Sv} (hE : RepE M p S) (hp : p + 72 ≤ 360) (hW : WF S) (hi : i < 4) : ∃ M1, f_X6_worth (nI p) (nI i) M = some (nI (EH S i), M1) ∧ Fr MD M M1 ∧ ∀ t, t < S 0 0 → MidM M1 S t 24 24 := by
  obtain ⟨M1, a1, a2, a3⟩ := day_ok hE hp hW (show 24 ≤ 24 by omega)
  refine ⟨M1, ?_, a2, a3⟩
  unfold f_X6_worth
  rw [show (24 : Int32) = nI 24 from rfl, a1]
  simp only [Option.bind_some]
  have := estOfM (n := 24) (v := (i : Int)) (hE.fr a2) hp hW a3 (by omega)
  rw [iI_nI] at this
  rw [this]
  simp only [Option.bind_some]
  rw [sumW_congr (fun t ht => sel_heir hW (n := 24) (i := i) ht)]
  rfl
theorem worth_any {M : Mem} {p : Nat} {S : Sv} (hE : RepE M p S) (hp : p + 72 ≤ 360) (hW : WF S) : ∃ M1, f_X6_worth (nI p) (-4) M = some (nI (EA S), M1) ∧ Fr MD M M1 ∧ ∀ t, t < S 0 0 → MidM M1 S t 24 24 := by
  obtain ⟨M1, a1, a2, a3⟩ := day_ok hE hp hW (show 24 ≤ 24 by omega)
  refine ⟨M1, ?_, a2, a3⟩
  unfold f_X6_worth
  rw [show (24 : Int32) = nI 24 from rfl, a1]
  simp only [Option.bind_some]
  have := estOfM (n := 24) (v := (-4 : Int)) (hE.fr a2) hp hW a3 (by omega)
  rw [show (-4 : Int32) = iI (-4) from rfl, this]
  simp only [Option.bind_some]
  rw [sumW_congr (fun t ht => sel_any hW (n := 24) ht)]
  rfl
theorem east_nI {x : Int} (h : -10 ≤ x) : iI x + 10 = nI (x + 10).toNat := by
  rw [show (10 : Int32) = iI 10 from rfl, iI_add, ← iI_nI, Int.toNat_of_nonneg (by omega)]
theorem st_fate : St_fate Rel := by
  intro M a c h
  refine st2 h fun S hS => ?_
  obtain ⟨hW, hC, hM⟩ := id hS
  have hS0 := hW.1
  by_cases ht : 0 ≤ a.toInt ∧ a.toInt < S 0 0
  · by_cases hc : ((0 : Nat) : Int) ≤ c.toInt ∧ c.toInt ≤ ((3 : Nat) : Int)
    · obtain ⟨t, -, ht2, rfl⟩ := nI_rng (lo := 0) (hi := S 0 0 - 1) (x := a) (by omega)
      obtain ⟨w, -, hw, rfl⟩ := nI_rng hc
      have ht' := ht
      rw [nI_toInt (by omega)] at ht'
      have ht3 : t < S 0 0 := by omega
      have t4 : t < 4 := by omega
      obtain ⟨M1, a1, a2, a3⟩ := runTub_ok hC (by omega) hW ht3 (show 24 ≤ 24 by omega)
      generalize eA : nI (wayM S t 24 24) = A at *
      have key : ∃ r : Int32, (∀ M1 : Mem, (if nI w = 0 then some (A, M1) else if nI w = 1 then some (iI (hookS S t 24).1, M1) else if nI w = 2 then some (iI (sailS S t 24).2.2.2, M1) else some (iI (hookS S t 24).2, M1)) = some (r, M1)) := by
        by_cases q0 : nI w = 0
        · exact ⟨_, fun M1 => by rw [if_pos q0]⟩
        · by_cases q1 : nI w = 1
          · exact ⟨_, fun M1 => by rw [if_neg q0, if_pos q1]⟩
          · by_cases q2 : nI w = 2
            · exact ⟨_, fun M1 => by rw [if_neg q0, if_neg q1, if_pos q2]⟩
            · exact ⟨_, fun M1 => by rw [if_neg q0, if_neg q1, if_neg q2]⟩
      obtain ⟨r, hr⟩ := key
      refine ⟨r, M1, ?_, (a2.mono (fun c j => Day6_CD)).cd, fun M' hf hR hS' => ?_⟩
      · unfold f_X5_fate
        rw [isTubC hC hS0]
        simp only [within_lit _ 0 3 (by omega) (by omega), Option.bind_some, ite_b2, if_pos ht, if_pos hc]
        rw [show (24 : Int32) = nI 24 from rfl, a1]
        simp only [Option.bind_some]
        rw [wayOf_ok hW ht3 a3, rd_ok t4 (by omega), a3.2.1, rd_ok t4 (by omega), a3.1.2.2.2, rd_ok t4 (by omega), a3.2.2, eA]
        exact hr M1
      · obtain ⟨M2, b1, b2, b3⟩ := day_ok (hS'.2.2.E hR.konst) (by omega) hW (show 24 ≤ 24 by omega)
        refine ⟨M2, ?_, b2.md⟩
        have m := b3 t ht3
        unfold f_X6_fate
        rw [isTubM hS'.2.2 hS0]
        simp only [in_lit _ 0 3 (by omega) (by omega), Option.bind_some, ite_b2, if_pos ht, if_pos hc]
        rw [show f_X6_dayGoes 0 24 M' = f_X6_dayGoes (nI 0) (nI 24) M' from rfl, b1]
        simp only [Option.bind_some]
        rw [rd_ok t4 (by omega), m.2.1, rd_ok t4 (by omega), m.2.2.2.1, rd_ok t4 (by omega), m.2.2.1, rd_ok t4 (by omega), m.2.2.2.2, eA]
        exact hr M2
    · exact Sim.bad (b := -1) (by unfold f_X5_fate; rw [isTubC hC hS0]; simp only [within_lit _ 0 3 (by omega) (by omega), Option.bind_some, ite_b2, if_pos ht, if_neg hc]) (fun M' hS' => by unfold f_X6_fate; rw [isTubM hS'.2.2 hS0]; simp only [in_lit _ 0 3 (by omega) (by omega), Option.bind_some, ite_b2, if_pos ht, if_neg hc])
  · exact Sim.bad (b := -1) (by unfold f_X5_fate; rw [isTubC hC hS0]; simp only [Option.bind_some, ite_b2, if_neg ht]) (fun M' hS' => by unfold f_X6_fate; rw [isTubM hS'.2.2 hS0]; simp only [Option.bind_some, ite_b2, if_neg ht])
theorem st_where : St_where Rel := by
  intro M a n c h
  refine st2 h fun S hS => ?_
  obtain ⟨hW, hC, hM⟩ := id hS
  have hS0 := hW.1
  by_cases ht : 0 ≤ a.toInt ∧ a.toInt < S 0 0
  · by_cases hn : ((0 : Nat) : Int) ≤ n.toInt ∧ n.toInt ≤ ((24 : Nat) : Int)
    · by_cases hc : ((0 : Nat) : Int) ≤ c.toInt ∧ c.toInt ≤ ((2 : Nat) : Int)
      · obtain ⟨t, -, ht2, rfl⟩ := nI_rng (lo := 0) (hi := S 0 0 - 1) (x := a) (by omega)
        obtain ⟨k, -, hk, rfl⟩ := nI_rng hn
        obtain ⟨w, -, hw, rfl⟩ := nI_rng hc
        have ht' := ht
        rw [nI_toInt (by omega)] at ht'
        have ht3 : t < S 0 0 := by omega
        have t4 : t < 4 := by omega
        obtain ⟨M1, a1, a2, a3⟩ := runTub_ok hC (by omega) hW ht3 hk
        have key : ∃ r : Int32, (if nI w = 0 then some (iI (sailS S t k).1 + 10, M1) else if nI w = 1 then some (iI (sailS S t k).2.1, M1) else some (nI (wayM S t k k), M1)) = some (r, M1) ∧ ∀ M2 : Mem, (if nI w = 0 then some (10 + iI (sailS S t k).1, M2) else if nI w = 1 then some (iI (sailS S t k).2.1, M2) else some (nI (wayM S t k k), M2)) = some (r, M2) := by
          by_cases q0 : nI w = 0
          · exact ⟨_, if_pos q0, fun M2 => by rw [if_pos q0, Int32.add_comm]⟩
          · by_cases q1 : nI w = 1
            · exact ⟨_, by rw [if_neg q0, if_pos q1], fun M2 => by rw [if_neg q0, if_pos q1]⟩
            · exact ⟨_, by rw [if_neg q0, if_neg q1], fun M2 => by rw [if_neg q0, if_neg q1]⟩
        obtain ⟨r, r1, r2⟩ := key
        refine ⟨r, M1, ?_, (a2.mono (fun c j => Day6_CD)).cd, fun M' hf hR hS' => ?_⟩
        · unfold f_X5_where f_X0_eastOf
          rw [isTubC hC hS0]
          simp only [within_lit _ 0 24 (by omega) (by omega), within_lit _ 0 2 (by omega) (by omega), Option.bind_some, ite_b2, if_pos ht, if_pos hn, if_pos hc]
          rw [a1]
          simp only [Option.bind_some]
          rw [wayOf_ok hW ht3 a3, rd_ok t4 (by omega), a3.1.1, rd_ok t4 (by omega), a3.1.2.1]
          exact r1
        · obtain ⟨M2, b1, b2, b3⟩ := day_ok (hS'.2.2.E hR.konst) (by omega) hW hk
          refine ⟨M2, ?_, b2.md⟩
          have m := b3 t ht3
          unfold f_X6_where
          rw [isTubM hS'.2.2 hS0]
          simp only [in_lit _ 0 24 (by omega) (by omega), in_lit _ 0 2 (by omega) (by omega), Option.bind_some, ite_b2, if_pos ht, if_pos hn, if_pos hc]
          rw [show (0 : Int32) = nI 0 from rfl, b1]
          simp only [Option.bind_some]
          rw [rd_ok t4 (by omega), m.1.1, rd_ok t4 (by omega), m.1.2, rd_ok t4 (by omega), m.2.1]
          exact r2 M2
      · exact Sim.bad (b := -1) (by unfold f_X5_where; rw [isTubC hC hS0]; simp only [within_lit _ 0 24 (by omega) (by omega), within_lit _ 0 2 (by omega) (by omega), Option.bind_some, ite_b2, if_pos ht, if_pos hn, if_neg hc]) (fun M' hS' => by unfold f_X6_where; rw [isTubM hS'.2.2 hS0]; simp only [in_lit _ 0 24 (by omega) (by omega), in_lit _ 0 2 (by omega) (by omega), Option.bind_some, ite_b2, if_pos ht, if_pos hn, if_neg hc])
    · exact Sim.bad (b := -1) (by unfold f_X5_where; rw [isTubC hC hS0]; simp only [within_lit _ 0 24 (by omega) (by omega), Option.bind_some, ite_b2, if_pos ht, if_neg hn]) (fun M' hS' => by unfold f_X6_where; rw [isTubM hS'.2.2 hS0]; simp only [in_lit _ 0 24 (by omega) (by omega), Option.bind_some, ite_b2, if_pos ht, if_neg hn])
  · exact Sim.bad (b := -1) (by unfold f_X5_where; rw [isTubC hC hS0]; simp only [Option.bind_some, ite_b2, if_neg ht]) (fun M' hS' => by unfold f_X6_where; rw [isTubM hS'.2.2 hS0]; simp only [Option.bind_some, ite_b2, if_neg ht])
theorem tubsHeirM {M : Mem} {S : Sv} {i : Nat} (h20 : M 55 20 = nI (S 0 0)) (hW : WF S) (hd : ∀ t, t < S 0 0 → MidM M S t 24 24) (hi : i < 4) : f_X6_tubsOf 1 (nI i) M = some (nI (bmask (fun t => decide (hkS1 S 24 t = (i : Int))) (S 0 0))) := by
  have := tubsOfM (n := 24) (w := 1) (v := (i : Int)) h20 hW hd (by omega) (by omega)
  rw [iI_nI, bmask_congr (fun t ht => sel_heir hW (n := 24) (i := i) ht)] at this
  exact this
theorem st_has : St_has Rel := by
  intro M a c h
  refine st2 h fun S hS => ?_
  obtain ⟨hW, hC, hM⟩ := id hS
  have hS1 := hW.2.1
  by_cases ht : 0 ≤ a.toInt ∧ a.toInt < S 0 1
  · by_cases hc : ((0 : Nat) : Int) ≤ c.toInt ∧ c.toInt ≤ ((1 : Nat) : Int)
    · obtain ⟨i, -, hi2, rfl⟩ := nI_rng (lo := 0) (hi := S 0 1 - 1) (x := a) (by omega)
      obtain ⟨w, -, hw, rfl⟩ := nI_rng hc
      have ht' := ht
      rw [nI_toInt (by omega)] at ht'
      have i4 : i < 4 := by omega
      obtain ⟨M1, a1, a2, a3⟩ := run_ok hC (by omega) hW
      have e1 := estHeirC (hC.cd (by omega) a2) hW a3 i4
      have e2 := tubsOfC (hk := hkS1 S 24) (v := (i : Int)) (hC.cd (by omega) a2) hW (fun t ht => (a3 t ht).2.1) (hk_b hW 24) (by omega)
      rw [iI_nI] at e2
      refine ⟨if w = 0 then nI (EH S i) else nI (bmask (fun t => decide (hkS1 S 24 t = (i : Int))) (S 0 0)), M1, ?_, a2.cd, fun M' hf hR hS' => ?_⟩
      · unfold f_X5_has
        rw [isHeirC hC hS1]
        simp only [within_lit _ 0 1 (by omega) (by omega), Option.bind_some, ite_b2, if_pos ht, if_pos hc, nI_lit 0 (show w < 2 ^ 31 by omega) (by omega)]
        rw [a1]
        simp only [Option.bind_some]
        rw [e1, e2]
        simp only [Option.bind_some]
        by_cases q : w = 0
        · rw [if_pos q, if_pos q]
        · rw [if_neg q, if_neg q]
      · obtain ⟨M2, b1, b2, b3⟩ := worth_heir (hS'.2.2.E hR.konst) (by omega) hW i4
        refine ⟨M2, ?_, b2.md⟩
        unfold f_X6_has
        rw [isHeirM hS'.2.2 hS1]
        simp only [in_lit _ 0 1 (by omega) (by omega), Option.bind_some, ite_b2, if_pos ht, if_pos hc, nI_lit 0 (show w < 2 ^ 31 by omega) (by omega)]
        rw [show (0 : Int32) = nI 0 from rfl, b1]
        simp only [Option.bind_some]
        rw [tubsHeirM (hS'.2.2.ms hW (by omega) b2.md).1 hW b3 i4]
        simp only [Option.bind_some]
        by_cases q : w = 0
        · rw [if_pos q, if_pos q]
        · rw [if_neg q, if_neg q]
    · exact Sim.bad (b := -1) (by unfold f_X5_has; rw [isHeirC hC hS1]; simp only [within_lit _ 0 1 (by omega) (by omega), Option.bind_some, ite_b2, if_pos ht, if_neg hc]) (fun M' hS' => by unfold f_X6_has; rw [isHeirM hS'.2.2 hS1]; simp only [in_lit _ 0 1 (by omega) (by omega), Option.bind_some, ite_b2, if_pos ht, if_neg hc])
  · exact Sim.bad (b := -1) (by unfold f_X5_has; rw [isHeirC hC hS1]; simp only [Option.bind_some, ite_b2, if_neg ht]) (fun M' hS' => by unfold f_X6_has; rw [isHeirM hS'.2.2 hS1]; simp only [Option.bind_some, ite_b2, if_neg ht])
theorem st_all : St_all Rel := by
  intro M a h
  refine st2 h fun S hS => ?_
  obtain ⟨hW, hC, hM⟩ := id hS
  have hS1 := hW.1
  by_cases hc : ((0 : Nat) : Int) ≤ a.toInt ∧ a.toInt ≤ ((4 : Nat) : Int)
  · obtain ⟨w, -, hw, rfl⟩ := nI_rng hc
    obtain ⟨M1, a1, a2, a3⟩ := run_ok hC (by omega) hW
    have e1 := estAnyC (hC.cd (by omega) a2) hW a3
    have e2 := tubsWayC (w := w) (n := 24) (hC.cd (by omega) a2) hW a3 (by omega)
    refine ⟨if w = 4 then nI (EA S) else nI (bmask (fun t => decide (wayM S t 24 24 = w)) (S 0 0)), M1, ?_, a2.cd, fun M' hf hR hS' => ?_⟩
    · unfold f_X5_all
      simp only [within_lit _ 0 4 (by omega) (by omega), Option.bind_some, ite_b2, if_pos hc, nI_lit 4 (show w < 2 ^ 31 by omega) (by omega)]
      rw [a1]
      simp only [Option.bind_some]
      rw [e1, e2]
      simp only [Option.bind_some]
      by_cases q : w = 4
      · rw [if_pos q, if_pos q]
      · rw [if_neg q, if_neg q]
    · obtain ⟨M2, b1, b2, b3⟩ := worth_any (hS'.2.2.E hR.konst) (by omega) hW
      refine ⟨M2, ?_, b2.md⟩
      unfold f_X6_all
      simp only [in_lit _ 0 4 (by omega) (by omega), Option.bind_some, ite_b2, if_pos hc, nI_lit 4 (show w < 2 ^ 31 by omega) (by omega)]
      rw [show (0 : Int32) = nI 0 from rfl, b1]
      simp only [Option.bind_some]
      have e3 := tubsOfM (n := 24) (w := w) (v := (-4 : Int)) (hS'.2.2.ms hW (by omega) b2.md).1 hW b3 (by omega) (by omega)
      rw [bmask_congr (fun t ht => sel_way (S := S) (n := 24) (w := w) (t := t))] at e3
      rw [show (-4 : Int32) = iI (-4) from rfl, e3]
      simp only [Option.bind_some]
      by_cases q : w = 4
      · rw [if_pos q, if_pos q]
      · rw [if_neg q, if_neg q]
  · exact Sim.bad (b := -1) (by unfold f_X5_all; simp only [within_lit _ 0 4 (by omega) (by omega), Option.bind_some, ite_b2, if_neg hc]) (fun M' hS' => by unfold f_X6_all; simp only [in_lit _ 0 4 (by omega) (by omega), Option.bind_some, ite_b2, if_neg hc])
/-! the first that fits -/
def ff (b : Nat → Bool) : Nat → Nat → Int
  | 0, _ => -4
  | d + 1, i => if b i = true then (i : Int) else ff b d (i + 1)
theorem gives_ok {M : Mem} {k t i : Nat} {S : Sv} (hC : RepC M k S) (hk : k + 4 < 41) (hW : WF S) (ht : t < S 0 0) (hi : i < 4) : ∃ M1, f_X0_gives k (nI t) (nI i) M = some (b2 (hkS1 S 24 t = (i : Int)), M1) ∧ Fr CD M M1 := by
  obtain ⟨M1, a1, a2, a3⟩ := runTub_ok hC hk hW ht (show 24 ≤ 24 by omega)
  have t4 : t < 4 := Nat.lt_of_lt_of_le ht hW.1
  have hb := hk_b hW 24 t
  refine ⟨M1, ?_, a2.mono (fun c j => Day6_CD)⟩
  unfold f_X0_gives
  rw [show (24 : Int32) = nI 24 from rfl, a1]
  simp only [Option.bind_some]
  rw [rd_ok t4 (by omega), a3.2.1, ← iI_nI i]
  unfold b2 hkS1 at *
  by_cases q : (hookS S t 24).1 = (i : Int)
  · rw [if_pos ((iI_eq (by omega) (by omega)).mpr q), if_pos q]
  · rw [if_neg (fun z => q ((iI_eq (by omega) (by omega)).mp z)), if_neg q]
theorem isHooked_ok {M : Mem} {t i : Nat} {S : Sv} (hE : RepE M 288 S) (hW : WF S) (ht : t < S 0 0) (hi : i < 4) : ∃ M1, f_X6_isHooked (nI t) (nI i) M = some (b2 (hkS1 S 24 t = (i : Int)), M1) ∧ Fr MD M M1 := by
  obtain ⟨M1, a1, a2, a3⟩ := day_ok hE (by omega) hW (show 24 ≤ 24 by omega)
  have t4 : t < 4 := Nat.lt_of_lt_of_le ht hW.1
  have hb := hk_b hW 24 t
  have m := a3 t ht
  have w1 := way1 hW ht (n := 24)
  have wl := wayM_lt hW ht 24 24
  refine ⟨M1, ?_, a2⟩
  unfold f_X6_isHooked
  rw [show (24 : Int32) = nI 24 from rfl, show (288 : Int32) = nI 288 from rfl, a1]
  simp only [Option.bind_some]
  rw [rd_ok t4 (by omega), m.2.1, rd_ok t4 (by omega), m.2.2.2.1, ← iI_nI i]
  simp only [nI_lit 1 (show wayM S t 24 24 < 2 ^ 31 by omega) (by omega), w1]
  unfold b2 hkS1 at *
  by_cases q : (hookS S t 24).1 = (i : Int)
  · rw [if_pos (by omega), if_pos ((iI_eq (by omega) (by omega)).mpr q), if_pos q]
  · rw [if_neg (fun z => q ((iI_eq (by omega) (by omega)).mp z)), if_neg q]
    split <;> rfl
theorem Sea14_CScr {c j : Nat} (h : Sea5 14 c j) : CScr c j := by unfold Sea5 at h; unfold CScr; omega
theorem Page_MScr {c j : Nat} (h : Page 288 c j) : MScr c j := by unfold Page at h; unfold MScr; omega
theorem tried {M : Mem} {S : Sv} (hW : WF S) (hM : RepM M 0 S) : f_X6_copies 0 288 M = some (cpN M 0 288 72) ∧ Fr MScr M (cpN M 0 288 72) ∧ RepM (cpN M 0 288 72) 288 S :=
  ⟨copies_ok (p := 0) (q := 288) (by omega) (by omega) (by omega), cpN_fr.mono (fun _ _ => Page_MScr), cpN_rep hM hW.1 hW.2.1⟩
theorem trial {M : Mem} {S : Sv} (hW : WF S) (hC : RepC M 9 S) : ∃ M1, f_X2_become 14 9 M = some M1 ∧ Fr CScr M M1 ∧ RepC M1 14 S := by
  obtain ⟨M1, a, b, c⟩ := become_ok (k0 := 14) (k1 := 9) (by omega) hC hW.1 hW.2.1
  exact ⟨M1, a, b.mono (fun _ _ => Sea14_CScr), c⟩
def whB (S : Sv) (t i h : Nat) : Bool := decide (hkS1 (setS S 1 (5 * t + 3) h) 24 t = (i : Int))
theorem whenC {S : Sv} {t i : Nat} (hW : WF S) (ht : t < S 0 0) (hi : i < 4) : ∀ f h M0, h ≤ 24 → 24 - h < f → (∃ v, RepC M0 14 (setS S 1 (5 * t + 3) v)) → ∃ M1, f_X5_when_37 (nI t) (nI i) f (nI h) M0 = some (iI (ff (whB S t i) (24 - h) h), M1) ∧ Fr CScr M0 M1 := by
  have t4 : t < 4 := Nat.lt_of_lt_of_le ht hW.1
  intro f
  induction f with
  | zero => intro h _ _ q; omega
  | succ f ih =>
    intro h M0 hh hf hC
    obtain ⟨v, hC⟩ := hC
    unfold f_X5_when_37
    by_cases q : h = 24
    · subst q
      rw [if_pos (by decide)]
      exact ⟨M0, rfl, Fr.rfl'⟩
    · rw [if_neg (fun z => absurd ((lit_le 24 (by omega) (by omega)).mp z) (by omega)), show (3 : Int32) = nI 3 from rfl, putTubC t4 (by omega)]
      simp only [Option.bind_some]
      have hC1 := hC.tub (5 * t + 3) h
      rw [setS_setS] at hC1
      have hW1 : WF (setS S 1 (5 * t + 3) h) := hW.tub (by omega) ⟨by omega, by omega, by omega, by omega, by omega⟩
      have g0 : Fr CScr M0 (up M0 (14 + 1) (5 * t + 3) (nI h)) := Fr.rfl'.up (by unfold CScr; omega)
      obtain ⟨M1, a1, a2⟩ := gives_ok hC1 (by omega) hW1 (show t < setS S 1 (5 * t + 3) h 0 0 by rw [setS_0 (by omega)]; exact ht) hi
      rw [a1]
      simp only [Option.bind_some, ite_b2]
      rw [show 24 - h = (24 - (h + 1)) + 1 by omega]
      unfold ff
      by_cases w : hkS1 (setS S 1 (5 * t + 3) h) 24 t = (i : Int)
      · rw [if_pos w, if_pos (by unfold whB; exact decide_eq_true w), iI_nI]
        exact ⟨M1, rfl, g0.trans a2.cd⟩
      · rw [if_neg w, if_neg (by unfold whB; simpa using w), show (1 : Int32) = nI 1 from rfl, nI_add]
        obtain ⟨M2, b1, b2⟩ := ih (h + 1) M1 (by omega) (by omega) ⟨h, hC1.cd (by omega) a2⟩
        exact ⟨M2, b1, (g0.trans a2.cd).trans b2⟩
theorem whenM {S : Sv} {t i : Nat} (hW : WF S) (ht : t < S 0 0) (hi : i < 4) : ∀ f h M0, h ≤ 24 → 24 - h < f → RConst M0 → (∃ v, RepM M0 288 (setS S 1 (5 * t + 3) v)) → ∃ M1, f_X6_when_28 (nI t) (nI i) f (nI h) M0 = some (iI (ff (whB S t i) (24 - h) h), M1) ∧ Fr MScr M0 M1 := by
  have t4 : t < 4 := Nat.lt_of_lt_of_le ht hW.1
  intro f
  induction f with
  | zero => intro h _ _ q; omega
  | succ f ih =>
    intro h M0 hh hf hK hM
    obtain ⟨v, hM⟩ := hM
    unfold f_X6_when_28
    by_cases q : h = 24
    · subst q
      rw [if_pos (by decide)]
      exact ⟨M0, rfl, Fr.rfl'⟩
    · rw [if_neg (fun z => absurd ((lit_le 24 (by omega) (by omega)).mp z) (by omega)), show (300 : Int32) = nI 300 from rfl, nI_add, inb_ok (by omega) (by omega), nI_clamp (by omega)]
      simp only [lm]
      have hM1 := hM.tub (t := t) (w := 3) (by rw [setS_0 (by omega)]; exact ht) (by rw [setS_0 (by omega)]; exact hW.1) (by omega) (by rw [setS_0 (by omega)]; exact hW.2.1) h
      rw [setS_setS, show 288 + 4 * 3 + t = 300 + t by omega] at hM1
      have hW1 : WF (setS S 1 (5 * t + 3) h) := hW.tub (by omega) ⟨by omega, by omega, by omega, by omega, by omega⟩
      have g0 : Fr MScr M0 (up M0 55 (300 + t) (nI h)) := Fr.rfl'.up (by unfold MScr; omega)
      have hK1 := hK.ms g0
      obtain ⟨M1, a1, a2⟩ := isHooked_ok (hM1.E hK1) hW1 (show t < setS S 1 (5 * t + 3) h 0 0 by rw [setS_0 (by omega)]; exact ht) hi
      rw [a1]
      simp only [Option.bind_some, ite_b2]
      rw [show 24 - h = (24 - (h + 1)) + 1 by omega]
      unfold ff
      by_cases w : hkS1 (setS S 1 (5 * t + 3) h) 24 t = (i : Int)
      · rw [if_pos w, if_pos (by unfold whB; exact decide_eq_true w), iI_nI]
        exact ⟨M1, rfl, g0.trans a2.md⟩
      · rw [if_neg w, if_neg (by unfold whB; simpa using w), show (1 : Int32) = nI 1 from rfl, nI_add]
        obtain ⟨M2, b1, b2⟩ := ih (h + 1) M1 (by omega) (by omega) (hK1.ms a2.md) ⟨h, hM1.mdd a2⟩
        exact ⟨M2, b1, (g0.trans a2.md).trans b2⟩
theorem st_when : St_when Rel := by
  intro M a c h
  refine st2 h fun S hS => ?_
  obtain ⟨hW, hC, hM⟩ := id hS
  have hS0 := hW.1
  have hS1 := hW.2.1
  by_cases ht : 0 ≤ a.toInt ∧ a.toInt < S 0 0
  · by_cases hc : 0 ≤ c.toInt ∧ c.toInt < S 0 1
    · obtain ⟨t, -, ht2, rfl⟩ := nI_rng (lo := 0) (hi := S 0 0 - 1) (x := a) (by omega)
      obtain ⟨i, -, hi2, rfl⟩ := nI_rng (lo := 0) (hi := S 0 1 - 1) (x := c) (by omega)
      have ht' := ht
      have hc' := hc
      rw [nI_toInt (by omega)] at ht' hc'
      have ht3 : t < S 0 0 := by omega
      have i4 : i < 4 := by omega
      obtain ⟨M1, a1, a2, a3⟩ := trial hW hC
      obtain ⟨M2, b1, b2⟩ := whenC hW ht3 i4 FU 0 M1 (by omega) (FU_gt (by omega)) ⟨S 1 (5 * t + 3), by rw [setS_id]; exact a3⟩
      refine ⟨iI (ff (whB S t i) (24 - 0) 0), M2, ?_, a2.trans b2, fun M' hf hR hS' => ?_⟩
      · unfold f_X5_when
        rw [isTubC hC hS0, isHeirC hC hS1]
        simp only [Option.bind_some, ite_b2, if_pos ht, if_pos hc]
        rw [a1]
        exact b1
      · obtain ⟨c1, c2, c3⟩ := tried hW hS'.2.2
        obtain ⟨M3, d1, d2⟩ := whenM hW ht3 i4 FU 0 _ (by omega) (FU_gt (by omega)) (hR.konst.ms c2) ⟨S 1 (5 * t + 3), by rw [setS_id]; exact c3⟩
        refine ⟨M3, ?_, c2.trans d2⟩
        unfold f_X6_when
        rw [isTubM hS'.2.2 hS0, isHeirM hS'.2.2 hS1]
        simp only [Option.bind_some, ite_b2, if_pos ht, if_pos hc]
        rw [c1]
        exact d1
    · exact Sim.bad (b := -1) (by unfold f_X5_when; rw [isTubC hC hS0, isHeirC hC hS1]; simp only [Option.bind_some, ite_b2, if_pos ht, if_neg hc]) (fun M' hS' => by unfold f_X6_when; rw [isTubM hS'.2.2 hS0, isHeirM hS'.2.2 hS1]; simp only [Option.bind_some, ite_b2, if_pos ht, if_neg hc])
  · exact Sim.bad (b := -1) (by unfold f_X5_when; rw [isTubC hC hS0]; simp only [Option.bind_some, ite_b2, if_neg ht]) (fun M' hS' => by unfold f_X6_when; rw [isTubM hS'.2.2 hS0]; simp only [Option.bind_some, ite_b2, if_neg ht])
