def LX (c j : Nat) : Prop := MD c j ∨ (c = 54 ∧ j = 25)
theorem repDrop {M M0 : Mem} {S : Sv} {code : Nat} (hM : RepM M 0 S) (hK : RConst M) (hf : Fr LX M M0) (h25 : M0 54 25 = nI (bmask (dpB S code) 24)) : RepE M0 0 (drpS S code) := by
  obtain ⟨h1, h2, h3, h4, h5, h6, h7⟩ := hM
  have e5 : ∀ j, M0 55 j = M 55 j := fun j => hf 55 j (by unfold LX MD; omega)
  refine ⟨?_, ?_, ?_, fun t w ht hw => ?_, fun j hj => ?_, fun j hj => ?_, fun j hj => ?_, ?_⟩
  · rw [e5, drpS_g (by omega), h1]
  · rw [hf 54 2 (by unfold LX MD; omega), drpS_g (by omega), h2]
  · rw [e5, drpS_g (by omega), h3]
  · rw [drpS_g (by omega)] at ht
    rw [e5, drpS_g (by omega), h4 t w ht hw]
  · rw [drpS_g (by omega)] at hj
    rw [e5, drpS_g (by omega), h5 j hj]
  · rw [e5, drpS_g (by omega), h6 j hj]
  · unfold drB
    rw [h25, e5]
    by_cases q : dpB S code j = true
    · exact Or.inl ⟨(bit_iff (by omega) hj).mpr q, drpS_y q⟩
    · exact Or.inr ⟨fun z => q ((bit_iff (by omega) hj).mp z), by rw [drpS_n q, h7 j hj]⟩
  · rw [hf 56 0 (by unfold LX MD; omega), hf 56 1 (by unfold LX MD; omega), hf 56 2 (by unfold LX MD; omega), hf 56 3 (by unfold LX MD; omega)]
    exact hK.1
theorem by68 {M : Mem} {S : Sv} {v code k : Nat} {u d : Int64} {p2 p3 p4 : Int32} {T : Int32 → Int64 → Int64 → Int32 → Mem → Option (Int64 × Mem)} {P : Option (Int64 × Mem) → Prop} (hk : bcnt (windB S) 24 = k) (k8 : k ≤ 8) (hv : v ≤ 10) (hcode : code < 2 ^ k) (hT : ∀ M0, Fr LX M M0 → M0 54 25 = nI (bmask (dpB S code) 24) → P (f_X6_byDrops_155 (nI v) p2 p3 p4 T (nI (bmask (windB S) 24)) u d (nI code) (lN (wtN v code k)) M0)) : ∀ f h M0, h ≤ 24 → 24 - h < f → Fr LX M M0 → M0 54 25 = nI (bmask (dpB S code) h) → P (f_X6_byDrops_68 (nI v) p2 p3 p4 T f (nI (bmask (windB S) 24)) u d (nI code) (lN (wtN v code (bcnt (windB S) h))) (nI (bcnt (windB S) h)) (nI h) M0) := by
  have p2' := p2_8 k8
  intro f
  induction f with
  | zero => intro a _ _ q; omega
  | succ f ih =>
    intro h M0 hh hf hfr h25
    unfold f_X6_byDrops_68
    by_cases q : h = 24
    · subst q
      rw [if_pos (by decide), hk]
      exact hT M0 hfr h25
    · have r := ih (h + 1)
      rw [if_neg (fun z => absurd ((lit_le 24 (by omega) (by omega)).mp z) (by omega))]
      simp only [bit_iff (b := windB S) (show 24 ≤ 30 by omega) (show h < 24 by omega)]
      by_cases w : windB S h = true
      · have rl := bcnt_lt w (show h < 24 by omega)
        rw [if_pos w]
        rw [bcnt_t w] at r
        have l2 := Nat.mod_lt (code / 2 ^ bcnt (windB S) h) (show 0 < 2 by omega)
        rw [nI_shr (by omega) (by omega), nI_and1]
        by_cases e : code / 2 ^ bcnt (windB S) h % 2 = 1
        · have dp : dpB S code h = true := by unfold dpB; rw [w, decide_eq_true e]; rfl
          rw [if_pos ((nI_lit 1 (by omega) (by omega)).mpr e)]
          unfold f_X6_byDrops_102 f_X6_byDrops_121 f_X6_byDrops_142 f_X6_byDrops_149
          rw [if_neg (show ¬ ((1 : Int32) = 0) by decide), ll_eq, if_neg (show ¬ ((1 : Int32) = 0) by decide), lm_eq, nI_l (by omega), lN_mul, ← wtN_y e, h25, one_shl (by omega), nI_orP (bmask_lt _ _), ← bmask_t dp, show (1 : Int32) = nI 1 from rfl, nI_add, nI_add]
          refine r _ (by omega) (by omega) (hfr.up (by unfold LX; omega)) (by rw [up_same])
        · have dp : ¬ dpB S code h = true := by unfold dpB; rw [w, decide_eq_false e]; decide
          rw [if_neg (fun y => e ((nI_lit 1 (by omega) (by omega)).mp y))]
          unfold f_X6_byDrops_102 f_X6_byDrops_121 f_X6_byDrops_142 f_X6_byDrops_149
          rw [if_pos (show (0 : Int32) = 0 from rfl), ll_eq, if_pos (show (0 : Int32) = 0 from rfl), lm_eq, show (10 : Int32) = nI 10 from rfl, nI_subN hv, nI_l (by omega), lN_mul, ← wtN_n e, h25, show (0 : Int32) = nI 0 from rfl, nI_or, Nat.or_zero, ← bmask_f dp, show (1 : Int32) = nI 1 from rfl, nI_add, nI_add]
          refine r _ (by omega) (by omega) (hfr.up (by unfold LX; omega)) (by rw [up_same])
      · have dp : ¬ dpB S code h = true := by unfold dpB; rw [Bool.not_eq_true] at w; rw [w, Bool.false_and]; decide
        rw [if_neg w]
        rw [bcnt_f w] at r
        unfold f_X6_byDrops_149
        rw [show (1 : Int32) = nI 1 from rfl, nI_add]
        exact r M0 (by omega) (by omega) hfr (by rw [h25, bmask_f dp])
theorem by42 {M : Mem} {S : Sv} {v w k : Nat} {p2 p3 : Int32} {val : Nat → Nat} (hW : WF S) (hM : RepM M 0 S) (hK : RConst M) (hk : bcnt (windB S) 24 = k) (k8 : k ≤ 8) (hv : v ≤ 10) (hw : w < 2) (hval : ∀ c, val c ≤ 396) (hV : ∀ (T : Int32 → Int64 → Int64 → Int32 → Mem → Option (Int64 × Mem)) (m : Int32) (u o c : Nat) (d : Int64) (M0 : Mem), c < 256 → RepE M0 0 (drpS S c) → ∃ M1, f_X6_byDrops_155 (nI v) p2 p3 (nI w) T m (lN u) d (nI c) (lN o) M0 = T m (lN (u + o * val c)) d (nI (c + 1)) M1 ∧ Fr MD M0 M1) : ∀ f c M0, c ≤ 2 ^ k → 2 ^ k - c < f → Fr LX M M0 → ∃ M1, f_X6_byDrops_42 (nI v) p2 p3 (nI w) f (nI (bmask (windB S) 24)) (lN (sumN (drF S v k val) c)) (lN (10 ^ k)) (nI c) M0 = some (frR (sumN (drF S v k val) (2 ^ k)) (10 ^ k) w, M1) ∧ Fr MScr M M1 := by
  have p2' := p2_8 k8
  have p10 := p10_8 k8
  intro f
  induction f with
  | zero => intro a _ _ q; omega
  | succ f ih =>
    intro c M0 hc hf hfr
    have sl := drF_le (S := S) (v := v) (k := k) (val := val) k8 hv hval (show c ≤ 256 by omega)
    unfold f_X6_byDrops_42
    rw [bitsWindy, hk]
    simp only [Option.bind_some]
    rw [one_shl (by omega)]
    by_cases q : c = 2 ^ k
    · rw [if_pos ((nI_leN (by omega) (by omega)).mpr (by omega)), ← q]
      unfold f_X6_byDrops_214
      rw [lm_eq, lowestM (by omega) (Nat.pow_pos (by omega)) (by omega) hw]
      simp only [Option.bind_some]
      refine ⟨_, rfl, ?_⟩
      intro a j hj
      rw [up_at]
      by_cases e : a = 54 ∧ j = 25
      · rw [if_pos e, e.1, e.2]
        exact hK.2.2.2.symm
      · rw [if_neg e]
        refine hfr a j (fun z => ?_)
        rcases z with z | z
        · exact hj (MD_MScr z)
        · exact e z
    · have hc' : c < 2 ^ k := by omega
      rw [if_neg (fun z => q (by have := (nI_leN (by omega) (by omega)).mp z; omega)), lm_eq]
      refine by68 (M := M) (code := c) (P := fun x => ∃ M1, x = some (frR (sumN (drF S v k val) (2 ^ k)) (10 ^ k) w, M1) ∧ Fr MScr M M1) hk k8 hv hc' (fun M1 h1 h2 => ?_) FU 0 _ (by omega) (FU_gt (by omega)) (hfr.up (by unfold LX; omega)) (by rw [up_same]; rfl)
      obtain ⟨M2, b1, b2⟩ := hV (f_X6_byDrops_42 (nI v) p2 p3 (nI w) f) (nI (bmask (windB S) 24)) (sumN (drF S v k val) c) (wtN v c k) c (lN (10 ^ k)) M1 (by omega) (repDrop hM hK h1 h2)
      rw [b1]
      exact ih (c + 1) M2 (by omega) (by omega) (h1.trans (b2.mono (fun _ _ x => Or.inl x)))
theorem byDrops_ok {M : Mem} {S : Sv} {v w k : Nat} {p2 p3 : Int32} {val : Nat → Nat} (hW : WF S) (hM : RepM M 0 S) (hK : RConst M) (hk : bcnt (windB S) 24 = k) (k8 : k ≤ 8) (hv : v ≤ 10) (hw : w < 2) (hval : ∀ c, val c ≤ 396) (hV : ∀ (T : Int32 → Int64 → Int64 → Int32 → Mem → Option (Int64 × Mem)) (m : Int32) (u o c : Nat) (d : Int64) (M0 : Mem), c < 256 → RepE M0 0 (drpS S c) → ∃ M1, f_X6_byDrops_155 (nI v) p2 p3 (nI w) T m (lN u) d (nI c) (lN o) M0 = T m (lN (u + o * val c)) d (nI (c + 1)) M1 ∧ Fr MD M0 M1) : ∃ M1, f_X6_byDrops (nI v) p2 p3 (nI w) M = some (frR (sumN (drF S v k val) (2 ^ k)) (10 ^ k) w, M1) ∧ Fr MScr M M1 := by
  have p2' := p2_8 k8
  have go : ∀ f a, a ≤ k → k - a < f → f_X6_byDrops_15 (nI v) p2 p3 (nI w) f (nI (bmask (windB S) 24)) (lN 0) (lN (10 ^ a)) (nI a) M = f_X6_byDrops_39 (nI v) p2 p3 (nI w) (nI (bmask (windB S) 24)) (lN 0) (lN (10 ^ k)) M := by
    intro f
    induction f with
    | zero => intro a _ q; omega
    | succ f ih =>
      intro a ha hf
      unfold f_X6_byDrops_15
      rw [bitsWindy, hk]
      simp only [Option.bind_some]
      by_cases q : a = k
      · subst q
        rw [if_pos ((nI_leN (by omega) (by omega)).mpr (by omega))]
      · rw [if_neg (fun z => q (by have := (nI_leN (by omega) (by omega)).mp z; omega)), ll_eq, show (10 : Int64) = lN 10 from rfl, lN_mul, ← Nat.pow_succ, show (1 : Int32) = nI 1 from rfl, nI_add]
        exact ih (a + 1) (by omega) (by omega)
  unfold f_X6_byDrops
  rw [windyM hM hW.2.2.2.2.2.2]
  simp only [Option.bind_some]
  have g := go FU 0 (by omega) (FU_gt (by omega))
  rw [show f_X6_byDrops_15 (nI v) p2 p3 (nI w) FU (nI (bmask (windB S) 24)) 0 1 0 M = f_X6_byDrops_15 (nI v) p2 p3 (nI w) FU (nI (bmask (windB S) 24)) (lN 0) (lN (10 ^ 0)) (nI 0) M from rfl, g]
  unfold f_X6_byDrops_39
  exact by42 hW hM hK hk k8 hv hw hval hV FU 0 M (Nat.zero_le _) (FU_gt (by omega)) Fr.rfl'
theorem luckV {S : Sv} {v t i w : Nat} (hW : WF S) (ht : t < S 0 0) (hi : i < 4) (T : Int32 → Int64 → Int64 → Int32 → Mem → Option (Int64 × Mem)) (m : Int32) (u o c : Nat) (d : Int64) (M0 : Mem) (hc : c < 256) (hE : RepE M0 0 (drpS S c)) : ∃ M1, f_X6_byDrops_155 (nI v) (nI t) (nI i) (nI w) T m (lN u) d (nI c) (lN o) M0 = T m (lN (u + o * luV S t i c)) d (nI (c + 1)) M1 ∧ Fr MD M0 M1 := by
  have t4 : t < 4 := Nat.lt_of_lt_of_le ht hW.1
  have ht1 : t < drpS S c 0 0 := by rw [drpS_g (by omega)]; exact ht
  obtain ⟨M1, a1, a2, a3⟩ := worth_heir hE (by omega) (hW.drp c) hi
  refine ⟨M1, ?_, a2⟩
  have mt := a3 t ht1
  have w1 := way1 (hW.drp c) ht1 (n := 24)
  have wl := wayM_lt (hW.drp c) ht1 24 24
  have hb := hk_b (hW.drp c) 24 t
  unfold f_X6_byDrops_155 f_X6_byDrops_202 f_X6_byDrops_203
  have hne : ¬ (nI t = (-4 : Int32)) := by
    rw [show (-4 : Int32) = iI (-4) from rfl, ← iI_nI]
    exact fun z => by have := (iI_eq (by omega) (by omega)).mp z; omega
  rw [show f_X6_worth 0 (nI i) M0 = f_X6_worth (nI 0) (nI i) M0 from rfl, a1]
  simp only [Option.bind_some]
  rw [if_neg hne, rd_ok t4 (by omega), mt.2.1, rd_ok t4 (by omega), mt.2.2.2.1, ← iI_nI i]
  simp only [nI_lit 1 (show wayM (drpS S c) t 24 24 < 2 ^ 31 by omega) (by omega), w1, ll_eq]
  have one : (1 : Int32).toInt64 = lN 1 := nI_l (n := 1) (by omega)
  have zero : (0 : Int32).toInt64 = lN 0 := nI_l (n := 0) (by omega)
  rw [one, zero, lN_mul, lN_mul, lN_add, lN_add, show (1 : Int32) = nI 1 from rfl, nI_add]
  unfold luV
  unfold hkS1 at *
  by_cases q : (hookS (drpS S c) t 24).1 = (i : Int)
  · rw [if_pos (by omega), if_pos ((iI_eq (by omega) (by omega)).mpr q), if_pos q]
  · rw [if_neg (fun z => q ((iI_eq (by omega) (by omega)).mp z)), if_neg q, ite_self]
theorem meanV {S : Sv} {v i w : Nat} (hW : WF S) (hi : i < 4) (T : Int32 → Int64 → Int64 → Int32 → Mem → Option (Int64 × Mem)) (m : Int32) (u o c : Nat) (d : Int64) (M0 : Mem) (hc : c < 256) (hE : RepE M0 0 (drpS S c)) : ∃ M1, f_X6_byDrops_155 (nI v) (-4) (nI i) (nI w) T m (lN u) d (nI c) (lN o) M0 = T m (lN (u + o * meV S i c)) d (nI (c + 1)) M1 ∧ Fr MD M0 M1 := by
  obtain ⟨M1, a1, a2, a3⟩ := worth_heir hE (by omega) (hW.drp c) hi
  have el := EH_le (hW.drp c) i
  refine ⟨M1, ?_, a2⟩
  unfold f_X6_byDrops_155 f_X6_byDrops_203
  rw [show f_X6_worth 0 (nI i) M0 = f_X6_worth (nI 0) (nI i) M0 from rfl, a1]
  simp only [Option.bind_some]
  rw [if_pos trivial, ll_eq, nI_l (by omega), lN_mul, lN_add, show (1 : Int32) = nI 1 from rfl, nI_add]
  rfl
theorem trialL {M : Mem} {S : Sv} (hW : WF S) (hC : RepC M 9 S) : ∃ M1 M2, f_X5_listWindyHours M = some (nI (bcnt (windB S) 24), M1) ∧ f_X2_become 14 9 M1 = some M2 ∧ Fr CScr M M1 ∧ Fr CScr M M2 ∧ DrC S M2 := by
  obtain ⟨M1, a1, a2, a3⟩ := listC hC.2.2.2.2.2.2 hW.2.2.2.2.2.2
  have a4 : Fr CScr M M1 := a2.mono (fun c j x => by unfold CScr; omega)
  have hC1 := hC.cs (by omega) a4
  obtain ⟨M2, b1, b2, b3⟩ := become_ok (k0 := 14) (k1 := 9) (by omega) hC1 hW.1 hW.2.1
  have b4 : Fr CScr M1 M2 := b2.mono (fun _ _ => Sea14_CScr)
  refine ⟨M1, M2, a1, b1, a4, a4.trans b4, fun h hh => ?_, fun h hh hb => ?_, b3.to0, fun h hh _ => b3.2.2.2.2.2.2 h hh⟩
  · rw [b2 13 h (by unfold Sea5; omega)]
    exact hC1.2.2.2.2.2.2 h hh
  · rw [b2 50 _ (by unfold Sea5; omega)]
    exact a3 h hh hb
theorem st_luck : St_luck Rel := by
  intro M v a c w h
  refine st2 h fun S hS => ?_
  obtain ⟨hW, hC, hM⟩ := id hS
  have hS0 := hW.1
  have hS1 := hW.2.1
  by_cases hv : ((0 : Nat) : Int) ≤ v.toInt ∧ v.toInt ≤ ((10 : Nat) : Int)
  · by_cases ht : 0 ≤ a.toInt ∧ a.toInt < S 0 0
    · by_cases hc : 0 ≤ c.toInt ∧ c.toInt < S 0 1
      · by_cases hw : ((0 : Nat) : Int) ≤ w.toInt ∧ w.toInt ≤ ((1 : Nat) : Int)
        · obtain ⟨v, -, hv2, rfl⟩ := nI_rng hv
          obtain ⟨t, -, ht2, rfl⟩ := nI_rng (lo := 0) (hi := S 0 0 - 1) (x := a) (by omega)
          obtain ⟨i, -, hi2, rfl⟩ := nI_rng (lo := 0) (hi := S 0 1 - 1) (x := c) (by omega)
          obtain ⟨w, -, hw2, rfl⟩ := nI_rng hw
          have ht' := ht
          have hc' := hc
          rw [nI_toInt (by omega)] at ht' hc'
          have ht3 : t < S 0 0 := by omega
          have i4 : i < 4 := by omega
          have k24 := bcnt_le (windB S) 24
          obtain ⟨M1, M2, a1, a2, a3, a4, a5⟩ := trialL hW hC
          by_cases k8 : bcnt (windB S) 24 ≤ 8
          · obtain ⟨M3, b1, b2⟩ := luckC (v := v) (w := w) hW hv2 ht3 i4 (by omega) rfl k8 FU 0 M2 (Nat.zero_le _) (by have := p2_8 k8; exact FU_gt (by omega)) a5
            refine ⟨frR (sumN (drF S v (bcnt (windB S) 24) (luV S t i)) (2 ^ bcnt (windB S) 24)) (10 ^ bcnt (windB S) 24) w, M3, ?_, a4.trans b2, fun M' hf hR hS' => ?_⟩
            · unfold f_X5_luck
              rw [isTubC hC hS0, isHeirC hC hS1]
              simp only [within_lit _ 0 10 (by omega) (by omega), within_lit _ 0 1 (by omega) (by omega), Option.bind_some, ite_b2, if_pos hv, if_pos ht, if_pos hc, if_pos hw]
              rw [a1]
              simp only [Option.bind_some]
              rw [if_pos ((le_lit 8 (by omega) (by omega)).mpr k8), a2]
              exact b1
            · obtain ⟨M4, c1, c2⟩ := byDrops_ok (v := v) (w := w) hW hS'.2.2 hR.konst rfl k8 hv2 (by omega) (luV_le S t i) (luckV hW ht3 i4)
              refine ⟨M4, ?_, c2⟩
              unfold f_X6_luck
              rw [isTubM hS'.2.2 hS0, isHeirM hS'.2.2 hS1]
              simp only [in_lit _ 0 10 (by omega) (by omega), in_lit _ 0 1 (by omega) (by omega), Option.bind_some, ite_b2, if_pos hv, if_pos ht, if_pos hc, if_pos hw]
              rw [windyM hS'.2.2 hW.2.2.2.2.2.2]
              simp only [Option.bind_some]
              rw [bitsWindy]
              simp only [Option.bind_some]
              rw [if_pos ((le_lit 8 (by omega) (by omega)).mpr k8), c1]
              rfl
          · refine ⟨-2, M1, ?_, a3, fun M' hf hR hS' => ⟨M', ?_, Fr.rfl'⟩⟩
            · unfold f_X5_luck
              rw [isTubC hC hS0, isHeirC hC hS1]
              simp only [within_lit _ 0 10 (by omega) (by omega), within_lit _ 0 1 (by omega) (by omega), Option.bind_some, ite_b2, if_pos hv, if_pos ht, if_pos hc, if_pos hw]
              rw [a1]
              simp only [Option.bind_some]
              rw [if_neg (fun z => k8 ((le_lit 8 (by omega) (by omega)).mp z))]
            · unfold f_X6_luck
              rw [isTubM hS'.2.2 hS0, isHeirM hS'.2.2 hS1]
              simp only [in_lit _ 0 10 (by omega) (by omega), in_lit _ 0 1 (by omega) (by omega), Option.bind_some, ite_b2, if_pos hv, if_pos ht, if_pos hc, if_pos hw]
              rw [windyM hS'.2.2 hW.2.2.2.2.2.2]
              simp only [Option.bind_some]
              rw [bitsWindy]
              simp only [Option.bind_some]
              rw [if_neg (fun z => k8 ((le_lit 8 (by omega) (by omega)).mp z))]
        · exact Sim.bad (b := -1) (by unfold f_X5_luck; rw [isTubC hC hS0, isHeirC hC hS1]; simp only [within_lit _ 0 10 (by omega) (by omega), within_lit _ 0 1 (by omega) (by omega), Option.bind_some, ite_b2, if_pos hv, if_pos ht, if_pos hc, if_neg hw]) (fun M' hS' => by unfold f_X6_luck; rw [isTubM hS'.2.2 hS0, isHeirM hS'.2.2 hS1]; simp only [in_lit _ 0 10 (by omega) (by omega), in_lit _ 0 1 (by omega) (by omega), Option.bind_some, ite_b2, if_pos hv, if_pos ht, if_pos hc, if_neg hw])
      · exact Sim.bad (b := -1) (by unfold f_X5_luck; rw [isTubC hC hS0, isHeirC hC hS1]; simp only [within_lit _ 0 10 (by omega) (by omega), Option.bind_some, ite_b2, if_pos hv, if_pos ht, if_neg hc]) (fun M' hS' => by unfold f_X6_luck; rw [isTubM hS'.2.2 hS0, isHeirM hS'.2.2 hS1]; simp only [in_lit _ 0 10 (by omega) (by omega), Option.bind_some, ite_b2, if_pos hv, if_pos ht, if_neg hc])
    · exact Sim.bad (b := -1) (by unfold f_X5_luck; rw [isTubC hC hS0]; simp only [within_lit _ 0 10 (by omega) (by omega), Option.bind_some, ite_b2, if_pos hv, if_neg ht]) (fun M' hS' => by unfold f_X6_luck; rw [isTubM hS'.2.2 hS0]; simp only [in_lit _ 0 10 (by omega) (by omega), Option.bind_some, ite_b2, if_pos hv, if_neg ht])
  · exact Sim.bad (b := -1) (by unfold f_X5_luck; simp only [within_lit _ 0 10 (by omega) (by omega), Option.bind_some, ite_b2, if_neg hv]) (fun M' hS' => by unfold f_X6_luck; simp only [in_lit _ 0 10 (by omega) (by omega), Option.bind_some, ite_b2, if_neg hv])
theorem st_mean : St_mean Rel := by
  intro M v c w h
  refine st2 h fun S hS => ?_
  obtain ⟨hW, hC, hM⟩ := id hS
  have hS1 := hW.2.1
  by_cases hv : ((0 : Nat) : Int) ≤ v.toInt ∧ v.toInt ≤ ((10 : Nat) : Int)
  · by_cases hc : 0 ≤ c.toInt ∧ c.toInt < S 0 1
    · by_cases hw : ((0 : Nat) : Int) ≤ w.toInt ∧ w.toInt ≤ ((1 : Nat) : Int)
      · obtain ⟨v, -, hv2, rfl⟩ := nI_rng hv
        obtain ⟨i, -, hi2, rfl⟩ := nI_rng (lo := 0) (hi := S 0 1 - 1) (x := c) (by omega)
        obtain ⟨w, -, hw2, rfl⟩ := nI_rng hw
        have hc' := hc
        rw [nI_toInt (by omega)] at hc'
        have i4 : i < 4 := by omega
        have k24 := bcnt_le (windB S) 24
        obtain ⟨M1, M2, a1, a2, a3, a4, a5⟩ := trialL hW hC
        by_cases k8 : bcnt (windB S) 24 ≤ 8
        · obtain ⟨M3, b1, b2⟩ := meanC (v := v) (w := w) hW hv2 i4 (by omega) rfl k8 FU 0 M2 (Nat.zero_le _) (by have := p2_8 k8; exact FU_gt (by omega)) a5
          refine ⟨frR (sumN (drF S v (bcnt (windB S) 24) (meV S i)) (2 ^ bcnt (windB S) 24)) (10 ^ bcnt (windB S) 24) w, M3, ?_, a4.trans b2, fun M' hf hR hS' => ?_⟩
          · unfold f_X5_mean
            rw [isHeirC hC hS1]
            simp only [within_lit _ 0 10 (by omega) (by omega), within_lit _ 0 1 (by omega) (by omega), Option.bind_some, ite_b2, if_pos hv, if_pos hc, if_pos hw]
            rw [a1]
            simp only [Option.bind_some]
            rw [if_pos ((le_lit 8 (by omega) (by omega)).mpr k8), a2]
            exact b1
          · obtain ⟨M4, c1, c2⟩ := byDrops_ok (v := v) (w := w) hW hS'.2.2 hR.konst rfl k8 hv2 (by omega) (meV_le hW i) (meanV hW i4)
            refine ⟨M4, ?_, c2⟩
            unfold f_X6_mean
            rw [isHeirM hS'.2.2 hS1]
            simp only [in_lit _ 0 10 (by omega) (by omega), in_lit _ 0 1 (by omega) (by omega), Option.bind_some, ite_b2, if_pos hv, if_pos hc, if_pos hw]
            rw [windyM hS'.2.2 hW.2.2.2.2.2.2]
            simp only [Option.bind_some]
            rw [bitsWindy]
            simp only [Option.bind_some]
            rw [if_pos ((le_lit 8 (by omega) (by omega)).mpr k8), c1]
            rfl
        · refine ⟨-2, M1, ?_, a3, fun M' hf hR hS' => ⟨M', ?_, Fr.rfl'⟩⟩
          · unfold f_X5_mean
            rw [isHeirC hC hS1]
            simp only [within_lit _ 0 10 (by omega) (by omega), within_lit _ 0 1 (by omega) (by omega), Option.bind_some, ite_b2, if_pos hv, if_pos hc, if_pos hw]
            rw [a1]
            simp only [Option.bind_some]
            rw [if_neg (fun z => k8 ((le_lit 8 (by omega) (by omega)).mp z))]
          · unfold f_X6_mean
            rw [isHeirM hS'.2.2 hS1]
            simp only [in_lit _ 0 10 (by omega) (by omega), in_lit _ 0 1 (by omega) (by omega), Option.bind_some, ite_b2, if_pos hv, if_pos hc, if_pos hw]
            rw [windyM hS'.2.2 hW.2.2.2.2.2.2]
            simp only [Option.bind_some]
            rw [bitsWindy]
            simp only [Option.bind_some]
            rw [if_neg (fun z => k8 ((le_lit 8 (by omega) (by omega)).mp z))]
      · exact Sim.bad (b := -1) (by unfold f_X5_mean; rw [isHeirC hC hS1]; simp only [within_lit _ 0 10 (by omega) (by omega), within_lit _ 0 1 (by omega) (by omega), Option.bind_some, ite_b2, if_pos hv, if_pos hc, if_neg hw]) (fun M' hS' => by unfold f_X6_mean; rw [isHeirM hS'.2.2 hS1]; simp only [in_lit _ 0 10 (by omega) (by omega), in_lit _ 0 1 (by omega) (by omega), Option.bind_some, ite_b2, if_pos hv, if_pos hc, if_neg hw])
    · exact Sim.bad (b := -1) (by unfold f_X5_mean; rw [isHeirC hC hS1]; simp only [within_lit _ 0 10 (by omega) (by omega), Option.bind_some, ite_b2, if_pos hv, if_neg hc]) (fun M' hS' => by unfold f_X6_mean; rw [isHeirM hS'.2.2 hS1]; simp only [in_lit _ 0 10 (by omega) (by omega), Option.bind_some, ite_b2, if_pos hv, if_neg hc])
  · exact Sim.bad (b := -1) (by unfold f_X5_mean; simp only [within_lit _ 0 10 (by omega) (by omega), Option.bind_some, ite_b2, if_neg hv]) (fun M' hS' => by unfold f_X6_mean; simp only [in_lit _ 0 10 (by omega) (by omega), Option.bind_some, ite_b2, if_neg hv])
