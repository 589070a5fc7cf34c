theorem CD_Scr {c j : Nat} (h : CD c j) : Scr c j := by unfold CD at h; unfold Scr; omega
theorem MD_Scr {c j : Nat} (h : MD c j) : Scr c j := by unfold MD at h; unfold Scr; omega
theorem Day6_CD {t c j : Nat} (h : Day6 t c j) : CD c j := by unfold Day6 at h; unfold CD; omega
theorem Rel.konst {M : Mem} (h : Rel M) : RConst M := h.2.2.2.2.2.2.2
theorem RepM.CD {M M1 : Mem} {p : Nat} {S : Sv} (h : RepM M p S) (hf : Fr CD M M1) : RepM M1 p S := h.frC hf (fun c j a b => by unfold Jvm.CD; omega)
theorem RepM.MD {M M1 : Mem} {p : Nat} {S : Sv} (h : RepM M p S) (hf : Fr MD M M1) : RepM M1 p S := h.frC hf (fun c j a b => by unfold Jvm.MD; omega)
theorem st_fate : St_fate Rel := by
  intro M a b h
  obtain ⟨⟨S, hW, hC, hM⟩, -⟩ := id h
  have hS0 := hW.1
  unfold f_X5_fate f_X6_fate
  rw [isTubC hC hS0]
  simp only [within_lit _ 0 3 (by omega) (by omega), in_lit _ 0 3 (by omega) (by omega), Option.bind_some, ite_b2]
  by_cases ht : 0 ≤ a.toInt ∧ a.toInt < S 0 0
  · simp only [if_pos ht]
    by_cases h1 : ((0 : Nat) : Int) ≤ b.toInt ∧ b.toInt ≤ ((3 : Nat) : Int)
    · simp only [if_pos h1]
      obtain ⟨t, -, ht2, rfl⟩ := nI_rng (lo := 0) (hi := S 0 0 - 1) (x := a) (by omega)
      obtain ⟨w, -, hw, rfl⟩ := nI_rng h1
      rw [nI_toInt (by omega)] at ht
      have ht3 : t < S 0 0 := by omega
      obtain ⟨M1, a1, a2, a3⟩ := runTub_ok hC (by omega) hW ht3 (show 24 ≤ 24 by omega)
      have aCD : Fr CD M M1 := a2.mono (fun c j => Day6_CD)
      have h' : Rel M1 := h.scr (aCD.mono (fun c j => CD_Scr))
      have hM1 := hM.CD aCD
      obtain ⟨M2, b1, b2, b3⟩ := day_ok (hM1.E h'.konst) (by omega) hW (show 24 ≤ 24 by omega)
      have m := b3 t ht3
      rw [show (24 : Int32) = nI 24 from rfl, a1, show (0 : Int32) = nI 0 from rfl]
      simp only [Option.bind_some]
      rw [wayOf_ok hW ht3 a3, rd_ok (by omega) (by omega), a3.2.1, rd_ok (by omega) (by omega), a3.1.2.2.2, rd_ok (by omega) (by omega), a3.2.2]
      simp only [Option.bind_some]
      have hRel : Rel M2 := h'.scr (b2.mono (fun c j => MD_Scr))
      have fin : ∀ r : Int32, (if nI w = nI 0 then some (nI (wayM S t 24 24), M1) else if nI w = 1 then some (iI (hookS S t 24).1, M1) else if nI w = 2 then some (iI (sailS S t 24).2.2.2, M1) else some (iI (hookS S t 24).2, M1)) = some (r, M1) → ∃ (r : Int32) (M1' M2 : Mem), (if nI w = nI 0 then some (nI (wayM S t 24 24), M1) else if nI w = 1 then some (iI (hookS S t 24).1, M1) else if nI w = 2 then some (iI (sailS S t 24).2.2.2, M1) else some (iI (hookS S t 24).2, M1)) = some (r, M1') ∧ ((f_X6_isTub (nI t) M1').bind fun r1 => if r1 = nI 0 then some (-1, M1') else (f_X6_dayGoes (nI 0) (nI 24) M1').bind fun r5 => if nI w = nI 0 then rd (r5 63) 4 (nI t) fun r8 => some (r8, r5) else if nI w = 1 then rd (r5 65) 4 (nI t) fun r11 => some (r11, r5) else if nI w = 2 then rd (r5 64) 4 (nI t) fun r14 => some (r14, r5) else rd (r5 66) 4 (nI t) fun r16 => some (r16, r5)) = some (r, M2) ∧ Rel M2 := by
        intro r hr
        refine ⟨r, M1, M2, hr, ?_, hRel⟩
        rw [isTubM hM1 hS0]
        simp only [Option.bind_some]
        rw [b2_t (by rw [nI_toInt (by omega)]; omega), if_neg (show ¬ ((1 : Int32) = nI 0) by decide), b1]
        simp only [Option.bind_some]
        rw [rd_ok (by omega) (by omega), m.2.1, rd_ok (by omega) (by omega), m.2.2.2.1, rd_ok (by omega) (by omega), m.2.2.1, rd_ok (by omega) (by omega), m.2.2.2.2]
        by_cases q0 : nI w = nI 0
        · rw [if_pos q0] at hr ⊢
          cases hr; rfl
        · rw [if_neg q0] at hr ⊢
          by_cases q1 : nI w = 1
          · rw [if_pos q1] at hr ⊢
            cases hr; rfl
          · rw [if_neg q1] at hr ⊢
            by_cases q2 : nI w = 2
            · rw [if_pos q2] at hr ⊢
              cases hr; rfl
            · rw [if_neg q2] at hr ⊢
              cases hr; rfl
      have ex : ∃ r : Int32, (if nI w = nI 0 then some (nI (wayM S t 24 24), M1) else if nI w = 1 then some (iI (hookS S t 24).1, M1) else if nI w = 2 then some (iI (sailS S t 24).2.2.2, M1) else some (iI (hookS S t 24).2, M1)) = some (r, M1) := by
        split
        · exact ⟨_, rfl⟩
        · split
          · exact ⟨_, rfl⟩
          · split
            · exact ⟨_, rfl⟩
            · exact ⟨_, rfl⟩
      obtain ⟨r, hr⟩ := ex
      exact fin r hr
    · simp only [if_neg h1]
      refine ⟨_, _, _, rfl, ?_, h⟩
      rw [isTubM hM hS0]
      simp only [Option.bind_some, ite_b2]
      rw [if_pos ht]
  · simp only [if_neg ht]
    refine ⟨_, _, _, rfl, ?_, h⟩
    rw [isTubM hM hS0]
    simp only [Option.bind_some, ite_b2]
    rw [if_neg ht]
