theorem DayC.fr' {M M1 : Mem} {S : Sv} {t n : Nat} {X : Nat → Nat → Prop} (h : DayC M t S n) (hf : Fr X M M1) (hx : ∀ c j, 41 ≤ c → c ≤ 46 → ¬ X c j) : DayC M1 t S n := by
  obtain ⟨⟨a, b, c, d⟩, e, f⟩ := h
  exact ⟨⟨by rw [hf _ _ (hx _ _ (by omega) (by omega)), a], by rw [hf _ _ (hx _ _ (by omega) (by omega)), b], by rw [hf _ _ (hx _ _ (by omega) (by omega)), c], by rw [hf _ _ (hx _ _ (by omega) (by omega)), d]⟩, by rw [hf _ _ (hx _ _ (by omega) (by omega)), e], by rw [hf _ _ (hx _ _ (by omega) (by omega)), f]⟩
/-! by a seed -/
theorem sail_congr1 {S T : Sv} {t : Nat} (h0 : S 0 2 = T 0 2) (h1 : ∀ w, w < 5 → S 1 (5 * t + w) = T 1 (5 * t + w)) (h3 : ∀ j, S 3 j = T 3 j) (h4 : ∀ j, S 4 j = T 4 j) : ∀ n, sailS S t n = sailS T t n
  | 0 => by
    show initS S t = initS T t
    unfold initS
    rw [h1 1 (by omega), h1 2 (by omega)]
  | n + 1 => by
    have ih := sail_congr1 h0 h1 h3 h4 n
    have k0 : S 1 (5 * t) = T 1 (5 * t) := h1 0 (by omega)
    unfold sailS
    rw [ih, h1 3 (by omega)]
    have e : ∀ u, hourS S t n u = hourS T t n u := by
      intro u
      unfold hourS hx hy tideS
      simp only [h0, k0, h3, h4]
    rw [e]
theorem near_congr {S T : Sv} (h1 : S 0 1 = T 0 1) (h2 : ∀ j, S 2 j = T 2 j) (x : Int) (h : Nat) : nearS S x h = nearS T x h := by
  have ed : dS S x = dS T x := by
    funext i
    unfold dS
    rw [h2]
  unfold nearS
  rw [foldN_congr (NS S x h) (NS T x h) (dS S x) (S 0 1) (fun i _ => by
    unfold NS
    rw [ed, h2, h2, h2]), ed, h1]
theorem hook_congr {S T : Sv} {t : Nat} (hs : ∀ n, sailS S t n = sailS T t n) (h1 : S 0 1 = T 0 1) (h2 : ∀ j, S 2 j = T 2 j) : ∀ n, hookS S t n = hookS T t n
  | 0 => rfl
  | n + 1 => by
    have ih := hook_congr hs h1 h2 n
    unfold hookS
    rw [ih, hs, near_congr h1 h2]
theorem mvT_1 {S : Sv} {t x y u w : Nat} (hu : u ≠ t) (hw : w < 5) : mvT S t x y 1 (5 * u + w) = S 1 (5 * u + w) := by
  unfold mvT
  rw [setS_ne (by omega), setS_ne (by omega)]
theorem mvT_g {S : Sv} {t x y g j : Nat} (hg : g ≠ 1) : mvT S t x y g j = S g j := by
  unfold mvT
  rw [setS_ne (by omega), setS_ne (by omega)]
theorem sail_mv {S : Sv} {t x y u : Nat} (hu : u ≠ t) (n : Nat) : sailS (mvT S t x y) u n = sailS S u n :=
  sail_congr1 (mvT_g (by omega)) (fun w hw => mvT_1 hu hw) (fun j => mvT_g (by omega)) (fun j => mvT_g (by omega)) n
theorem hook_mv {S : Sv} {t x y u : Nat} (hu : u ≠ t) (n : Nat) : hookS (mvT S t x y) u n = hookS S u n :=
  hook_congr (sail_mv hu) (mvT_g (by omega)) (fun j => mvT_g (by omega)) n
theorem and15 (z : Int32) : ∃ g, g < 32768 ∧ z &&& 32767 = nI g := by
  refine ⟨z.toBitVec.toNat % 32768, Nat.mod_lt _ (by omega), ?_⟩
  apply Int32.toBitVec_inj.mp
  rw [Int32.toBitVec_and]
  have e : ∀ n, (nI n).toBitVec = BitVec.ofNat 32 n := fun n => by simp [nI]
  rw [e, show (32767 : Int32) = nI 32767 from rfl, e]
  apply BitVec.eq_of_toNat_eq
  rw [BitVec.toNat_and, BitVec.toNat_ofNat, BitVec.toNat_ofNat, show 32767 % 2 ^ 32 = 2 ^ 15 - 1 from rfl, Nat.and_two_pow_sub_one_eq_mod]
  have := Nat.mod_lt z.toBitVec.toNat (show 0 < 2 ^ 15 by omega)
  omega
theorem ushr16 (y : Int32) : ((y.toUInt32 >>> ((16 : Int32).toUInt32 &&& Int32.toUInt32 31)).toInt32) &&& 32767 = (y >>> ((16 : Int32) &&& 31)) &&& 32767 := by
  have e : ((16 : Int32) &&& 31) = 16 := by decide
  have e1 : ((16 : Int32).toUInt32 &&& Int32.toUInt32 31) = 16 := by decide
  rw [e, e1]
  apply Int32.toBitVec_inj.mp
  rw [Int32.toBitVec_and, Int32.toBitVec_and, Int32.toBitVec_shiftRight]
  have e2 : ((16 : Int32).toBitVec.smod 32) = 16#32 := by decide
  have h1 : ((y.toUInt32 >>> (16 : UInt32)).toInt32).toBitVec = y.toBitVec >>> (16#32) := rfl
  rw [h1, e2]
  have k : ∀ j : Fin 32, (32767 : Int32).toBitVec.getLsbD j.val = decide (j.val < 15) := by decide
  apply BitVec.eq_of_getLsbD_eq
  intro i hi
  have k1 := k ⟨i, hi⟩
  simp only at k1
  simp only [BitVec.sshiftRight', BitVec.ushiftRight_eq', BitVec.getLsbD_and, BitVec.getLsbD_sshiftRight, BitVec.getLsbD_ushiftRight, BitVec.toNat_ofNat, k1]
  by_cases q : i < 15
  · rw [decide_eq_true q, decide_eq_false (show ¬ 32 ≤ i by omega), if_pos (show 16 % 2 ^ 32 + i < 32 by omega)]
    rfl
  · rw [decide_eq_false q, Bool.and_false, Bool.and_false]
def nxS (s : Int32) : Int32 := s * 1103515245 + 12345
theorem li_eq {α : Type} (v : Int32) (f : Int32 → Option α) : li v f = f v := rfl
theorem nx_is (s : Int32) : s * 1103515245 + 12345 = nxS s := rfl
theorem got_ex (y : Int32) : ∃ g, g < 32768 ∧ (y >>> ((16 : Int32) &&& 31)) &&& 32767 = nI g := and15 _
noncomputable def gotS (y : Int32) : Nat := Classical.choose (got_ex y)
theorem got_lt (y : Int32) : gotS y < 32768 := (Classical.choose_spec (got_ex y)).1
theorem got_is (y : Int32) : (y >>> ((16 : Int32) &&& 31)) &&& 32767 = nI (gotS y) := (Classical.choose_spec (got_ex y)).2
theorem got_is2 (y : Int32) : ((y.toUInt32 >>> ((16 : Int32).toUInt32 &&& Int32.toUInt32 31)).toInt32) &&& 32767 = nI (gotS y) := by rw [ushr16, got_is]
noncomputable def drA (S : Sv) (seed : Int32) : Nat → Sv × Int32 × Nat
  | 0 => (S, seed, 0)
  | d + 1 => (mvT (drA S seed d).1 (gotS (nxS (drA S seed d).2.1) % S 0 0) (gotS (nxS (drA S seed d).2.1) / 8 % 10) (1 + gotS (nxS (drA S seed d).2.1) / 128 % 9), nxS (drA S seed d).2.1, (drA S seed d).2.2 + EA (mvT (drA S seed d).1 (gotS (nxS (drA S seed d).2.1) % S 0 0) (gotS (nxS (drA S seed d).2.1) / 8 % 10) (1 + gotS (nxS (drA S seed d).2.1) / 128 % 9)))
theorem drA_a (S : Sv) (seed : Int32) (d : Nat) : (drA S seed (d + 1)).1 = mvT (drA S seed d).1 (gotS (nxS (drA S seed d).2.1) % S 0 0) (gotS (nxS (drA S seed d).2.1) / 8 % 10) (1 + gotS (nxS (drA S seed d).2.1) / 128 % 9) := rfl
theorem drA_b (S : Sv) (seed : Int32) (d : Nat) : (drA S seed (d + 1)).2.1 = nxS (drA S seed d).2.1 := rfl
theorem drA_e (S : Sv) (seed : Int32) (d : Nat) : (drA S seed (d + 1)).2.2 = (drA S seed d).2.2 + EA (drA S seed (d + 1)).1 := rfl
theorem drA_ok {S : Sv} (hW : WF S) (seed : Int32) : ∀ d, WF (drA S seed d).1 ∧ (drA S seed d).1 0 0 = S 0 0 ∧ (drA S seed d).2.2 ≤ 396 * d
  | 0 => ⟨hW, rfl, Nat.le_refl 0⟩
  | d + 1 => by
    obtain ⟨a, b, c⟩ := drA_ok hW seed d
    have w : WF (drA S seed (d + 1)).1 := a.mv (by omega) (by omega) (by omega)
    refine ⟨w, ?_, ?_⟩
    · rw [show (drA S seed (d + 1)).1 = mvT (drA S seed d).1 (gotS (nxS (drA S seed d).2.1) % S 0 0) (gotS (nxS (drA S seed d).2.1) / 8 % 10) (1 + gotS (nxS (drA S seed d).2.1) / 128 % 9) from rfl, mvT_0, b]
    · have := EA_le w
      show (drA S seed d).2.2 + EA (drA S seed (d + 1)).1 ≤ _
      omega
noncomputable def drR (S : Sv) (seed : Int32) (n w : Nat) : Int32 := if w = 0 then nI (drA S seed n).2.2 else nI (bmask (fun t => decide (wayM (drA S seed n).1 t 24 24 = 1)) (S 0 0))
theorem nz_ok {α : Type} {k : Nat} {x : Option α} (h : 0 < k) (hk : k < 2147483648) : nz (nI k) x = x := by
  unfold nz
  rw [if_neg (fun z => absurd ((nI_lit 0 (by omega) (by omega)).mp z) (by omega))]
theorem nI_modk {g k : Nat} (hg : g < 32768) (h : 0 < k) (hk : k < 100) : nI g - nI g / nI k * nI k = nI (g % k) := by
  have := Nat.div_mul_le_self g k
  rw [nI_div (by omega) (by omega), nI_mulN, nI_subN this]
  congr 1
  have := Nat.mod_add_div g k
  rw [Nat.mul_comm (g / k) k]
  omega
theorem drift_x {g : Nat} (hg : g < 32768) : nI g / 8 - nI g / 8 / 10 * 10 = nI (g / 8 % 10) := by
  rw [show (8 : Int32) = nI 8 from rfl, show (10 : Int32) = nI 10 from rfl, nI_div (by omega) (by omega), nI_modk (by omega) (by omega) (by omega)]
theorem drift_y {g : Nat} (hg : g < 32768) : 1 + (nI g / 128 - nI g / 128 / 9 * 9) = nI (1 + g / 128 % 9) := by
  rw [show (128 : Int32) = nI 128 from rfl, show (9 : Int32) = nI 9 from rfl, nI_div (by omega) (by omega), nI_modk (by omega) (by omega) (by omega), show (1 : Int32) = nI 1 from rfl, nI_add]
theorem driftC {S : Sv} {seed : Int32} {n w : Nat} (hW : WF S) (hT : 0 < S 0 0) (hn : n ≤ 60) (hw : w < 2) : ∀ f d M0, d ≤ n → n - d < f → RepC M0 14 (drA S seed d).1 → (∀ t, t < S 0 0 → DayC M0 t (drA S seed d).1 24) → ∃ M1, f_X5_drift_70 seed (nI n) (nI w) f (nI (S 0 0)) (drA S seed d).2.1 (nI (drA S seed d).2.2) (nI d) M0 = some (drR S seed n w, M1) ∧ Fr CScr M0 M1 := by
  have hT4 := hW.1
  intro f
  induction f with
  | zero => intro h _ _ q; omega
  | succ f ih =>
    intro d M0 hd hf hC hD
    obtain ⟨w1, w2, w3⟩ := drA_ok hW seed d
    unfold f_X5_drift_70
    by_cases z : d = n
    · subst z
      rw [if_pos ((nI_leN (by omega) (by omega)).mpr (by omega))]
      unfold f_X5_drift_171 drR
      simp only [nI_lit 0 (show w < 2 ^ 31 by omega) (by omega)]
      refine ⟨M0, ?_, Fr.rfl'⟩
      by_cases x : w = 0
      · rw [if_pos x, if_pos x]
      · rw [if_neg x, if_neg x]
        have e := tubsWayC (w := 1) (n := 24) hC w1 (fun t ht => hD t (by rw [← w2]; exact ht)) (by omega)
        rw [show f_X0_tubsOfWay 14 1 M0 = f_X0_tubsOfWay 14 (nI 1) M0 from rfl, e, w2]
        rfl
    · have gl := got_lt (nxS (drA S seed d).2.1)
      have ml := Nat.mod_lt (gotS (nxS (drA S seed d).2.1)) hT
      obtain ⟨w4, w5, w6⟩ := drA_ok hW seed (d + 1)
      rw [if_neg (fun y => z (by have := (nI_leN (by omega) (by omega)).mp y; omega))]
      rw [li_eq, nx_is, li_eq, got_is2, nz_ok hT (by omega), li_eq, nI_modk gl hT (by omega), drift_x gl, drift_y gl, moveTubC (by omega)]
      simp only [Option.bind_some]
      have hC' : RepC M0 14 (mvT (drA S seed d).1 (gotS (nxS (drA S seed d).2.1) % S 0 0) ((drA S seed d).1 1 (5 * (gotS (nxS (drA S seed d).2.1) % S 0 0) + 1)) ((drA S seed d).1 1 (5 * (gotS (nxS (drA S seed d).2.1) % S 0 0) + 2))) := by rw [mvT_id]; exact hC
      have hC1 := hC'.mv (gotS (nxS (drA S seed d).2.1) / 8 % 10) (1 + gotS (nxS (drA S seed d).2.1) / 128 % 9)
      have eA := drA_a S seed d
      have eB := drA_b S seed d
      have eE := drA_e S seed d
      have dm : ∀ u, u ≠ gotS (nxS (drA S seed d).2.1) % S 0 0 → ∀ n, sailS (drA S seed (d + 1)).1 u n = sailS (drA S seed d).1 u n ∧ hookS (drA S seed (d + 1)).1 u n = hookS (drA S seed d).1 u n := fun u hu n => by
        rw [eA]
        exact ⟨sail_mv hu n, hook_mv hu n⟩
      have r := ih (d + 1)
      rw [eB, eE] at r
      rw [← eA] at hC1
      generalize (drA S seed (d + 1)).1 = S1 at *
      generalize gotS (nxS (drA S seed d).2.1) % S 0 0 = t at *
      have g0 : Fr (fun c j => c = 15) M0 (up (up M0 (14 + 1) (5 * t + 1) (nI (gotS (nxS (drA S seed d).2.1) / 8 % 10))) (14 + 1) (5 * t + 2) (nI (1 + gotS (nxS (drA S seed d).2.1) / 128 % 9))) := (Fr.rfl'.up (by omega)).up (by omega)
      obtain ⟨M1, a1, a2, a3⟩ := runTub_ok hC1 (by omega) w4 (show t < S1 0 0 by omega) (show 24 ≤ 24 by omega)
      have aCD : Fr CD _ M1 := a2.mono (fun c j => Day6_CD)
      have hC2 := hC1.cd (by omega) aCD
      have hD1 : ∀ u, u < S 0 0 → DayC M1 u S1 24 := by
        intro u hu
        by_cases e : u = t
        · rw [e]; exact a3
        · obtain ⟨⟨p1, p2, p3, p4⟩, p5, p6⟩ := ((hD u hu).fr' g0 (fun c j x y => by omega) : DayC _ u _ 24)
          have := (dm u e 24)
          refine DayC.fr (X := Day6 t) ?_ a2 (fun c => by unfold Day6; omega)
          unfold DayC
          rw [this.1, this.2]
          exact ⟨⟨p1, p2, p3, p4⟩, p5, p6⟩
      rw [show (24 : Int32) = nI 24 from rfl, a1]
      simp only [Option.bind_some]
      rw [estAnyC hC2 w4 (fun t ht => hD1 t (by omega))]
      simp only [Option.bind_some]
      rw [li_eq, nI_add, show (1 : Int32) = nI 1 from rfl, nI_add]
      obtain ⟨M2, b1, b2⟩ := r M1 (by omega) (by omega) hC2 hD1
      exact ⟨M2, b1, ((g0.mono (fun c j x => by unfold CScr; omega)).trans aCD.cd).trans b2⟩
theorem driftM {S : Sv} {seed : Int32} {n w : Nat} (hW : WF S) (hT : 0 < S 0 0) (hn : n ≤ 60) (hw : w < 2) : ∀ f d M0, d ≤ n → n - d < f → RConst M0 → M0 55 20 = nI (S 0 0) → RepM M0 288 (drA S seed d).1 → (d = n → ∀ t, t < S 0 0 → MidM M0 (drA S seed d).1 t 24 24) → ∃ M1, f_X6_drift_54 seed (nI n) (nI w) f (drA S seed d).2.1 (nI (drA S seed d).2.2) (nI d) M0 = some (drR S seed n w, M1) ∧ Fr MScr M0 M1 := by
  have hT4 := hW.1
  intro f
  induction f with
  | zero => intro h _ _ q; omega
  | succ f ih =>
    intro d M0 hd hf hK h20 hM hD
    obtain ⟨w1, w2, w3⟩ := drA_ok hW seed d
    unfold f_X6_drift_54
    by_cases z : d = n
    · subst z
      rw [if_pos ((nI_leN (by omega) (by omega)).mpr (by omega))]
      unfold f_X6_drift_156 drR
      simp only [nI_lit 0 (show w < 2 ^ 31 by omega) (by omega)]
      refine ⟨M0, ?_, Fr.rfl'⟩
      by_cases x : w = 0
      · rw [if_pos x, if_pos x]
      · rw [if_neg x, if_neg x]
        have e := tubsOfM (n := 24) (w := 1) (v := (-4 : Int)) (S := (drA S seed d).1) (by rw [w2]; exact h20) w1 (fun t ht => hD rfl t (by rw [← w2]; exact ht)) (by omega) (by omega)
        rw [bmask_congr (fun t ht => sel_way (S := (drA S seed d).1) (n := 24) (w := 1) (t := t)), w2] at e
        rw [show f_X6_tubsOf 1 (-4) M0 = f_X6_tubsOf (nI 1) (iI (-4)) M0 from rfl, e]
        rfl
    · have gl := got_lt (nxS (drA S seed d).2.1)
      have ml := Nat.mod_lt (gotS (nxS (drA S seed d).2.1)) hT
      obtain ⟨w4, w5, w6⟩ := drA_ok hW seed (d + 1)
      rw [if_neg (fun y => z (by have := (nI_leN (by omega) (by omega)).mp y; omega))]
      rw [li_eq, nx_is, li_eq, got_is, rd_lit 20 (by omega) (by omega), h20, nz_ok hT (by omega), li_eq, nI_modk gl hT (by omega), drift_x gl, drift_y gl, show (292 : Int32) = nI 292 from rfl, show (296 : Int32) = nI 296 from rfl, nI_add, nI_add, inb_ok (by omega) (by omega), nI_clamp (by omega)]
      simp only [lm]
      rw [inb_ok (by omega) (by omega), nI_clamp (by omega)]
      have hM' : RepM M0 288 (mvT (drA S seed d).1 (gotS (nxS (drA S seed d).2.1) % S 0 0) ((drA S seed d).1 1 (5 * (gotS (nxS (drA S seed d).2.1) % S 0 0) + 1)) ((drA S seed d).1 1 (5 * (gotS (nxS (drA S seed d).2.1) % S 0 0) + 2))) := by rw [mvT_id]; exact hM
      have hM1 := hM'.mv w1 (by rw [w2]; exact ml) (gotS (nxS (drA S seed d).2.1) / 8 % 10) (1 + gotS (nxS (drA S seed d).2.1) / 128 % 9)
      have eA := drA_a S seed d
      have eB := drA_b S seed d
      have eE := drA_e S seed d
      have r := ih (d + 1)
      rw [eB, eE] at r
      rw [← eA] at hM1
      generalize (drA S seed (d + 1)).1 = S1 at *
      generalize gotS (nxS (drA S seed d).2.1) % S 0 0 = t at *
      have g0 : Fr MScr M0 (up (up M0 55 (292 + t) (nI (gotS (nxS (drA S seed d).2.1) / 8 % 10))) 55 (296 + t) (nI (1 + gotS (nxS (drA S seed d).2.1) / 128 % 9))) := (Fr.rfl'.up (by unfold MScr; omega)).up (by unfold MScr; omega)
      have hK1 := hK.ms g0
      obtain ⟨M1, a1, a2, a3⟩ := worth_any (hM1.E hK1) (by omega) w4
      rw [show (288 : Int32) = nI 288 from rfl, a1]
      simp only [Option.bind_some]
      rw [li_eq, nI_add, show (1 : Int32) = nI 1 from rfl, nI_add]
      obtain ⟨M2, b1, b2⟩ := r M1 (by omega) (by omega) (hK1.ms a2.md) (by rw [a2 55 20 (by unfold MD; omega), up_slot (by omega), up_slot (by omega)]; exact h20) (hM1.mdd a2) (fun _ t ht => a3 t (by omega))
      exact ⟨M2, b1, (g0.trans a2.md).trans b2⟩
theorem st_drift : St_drift Rel := by
  intro M s a c h
  refine st2 h fun S hS => ?_
  obtain ⟨hW, hC, hM⟩ := id hS
  have hS0 := hW.1
  by_cases ha : ((1 : Nat) : Int) ≤ a.toInt ∧ a.toInt ≤ ((60 : Nat) : Int)
  · by_cases hc : ((0 : Nat) : Int) ≤ c.toInt ∧ c.toInt ≤ ((1 : Nat) : Int)
    · by_cases hT : 0 < S 0 0
      · obtain ⟨n, hn1, hn, rfl⟩ := nI_rng ha
        obtain ⟨w, -, hw, rfl⟩ := nI_rng hc
        obtain ⟨M1, a1, a2, a3⟩ := trial hW hC
        obtain ⟨M2, b1, b2, b3⟩ := run_ok a3 (by omega) hW
        obtain ⟨M3, c1, c2⟩ := driftC (seed := s) (w := w) hW hT hn (by omega) FU 0 M2 (by omega) (FU_gt (by omega)) (a3.cd (by omega) b2) b3
        refine ⟨drR S s n w, M3, ?_, (a2.trans b2.cd).trans c2, fun M' hf hR hS' => ?_⟩
        · unfold f_X5_drift
          simp only [within_lit _ 1 60 (by omega) (by omega), within_lit _ 0 1 (by omega) (by omega), Option.bind_some, ite_b2, if_pos ha, if_pos hc, li]
          rw [hC.1, if_pos ((lit_le 1 (by omega) (by omega)).mpr (by omega)), a1]
          simp only [Option.bind_some]
          rw [b1]
          exact c1
        · obtain ⟨d1, d2, d3⟩ := tried hW hS'.2.2
          obtain ⟨M4, e1, e2⟩ := driftM (seed := s) (w := w) hW hT hn (by omega) FU 0 _ (by omega) (FU_gt (by omega)) (hR.konst.ms d2) (by rw [d2 55 20 (by unfold MScr; omega)]; exact hS'.2.2.1) d3 (fun y => by omega)
          refine ⟨M4, ?_, d2.trans e2⟩
          unfold f_X6_drift
          simp only [in_lit _ 1 60 (by omega) (by omega), in_lit _ 0 1 (by omega) (by omega), Option.bind_some, ite_b2, if_pos ha, if_pos hc]
          rw [rd_lit 20 (by omega) (by omega), show M' 55 20 = nI (S 0 0) from hS'.2.2.1, if_neg (fun y => absurd ((nI_lit 0 (by omega) (by omega)).mp y) (by omega)), d1]
          exact e1
      · exact Sim.bad (b := -2) (by unfold f_X5_drift; simp only [within_lit _ 1 60 (by omega) (by omega), within_lit _ 0 1 (by omega) (by omega), Option.bind_some, ite_b2, if_pos ha, if_pos hc, li]; rw [hC.1, if_neg (fun y => hT (by have := (lit_le 1 (by omega) (by omega)).mp y; omega))]) (fun M' hS' => by unfold f_X6_drift; simp only [in_lit _ 1 60 (by omega) (by omega), in_lit _ 0 1 (by omega) (by omega), Option.bind_some, ite_b2, if_pos ha, if_pos hc]; rw [rd_lit 20 (by omega) (by omega), show M' 55 20 = nI (S 0 0) from hS'.2.2.1, if_pos ((nI_lit 0 (by omega) (by omega)).mpr (by omega))])
    · exact Sim.bad (b := -1) (by unfold f_X5_drift; simp only [within_lit _ 1 60 (by omega) (by omega), within_lit _ 0 1 (by omega) (by omega), Option.bind_some, ite_b2, if_pos ha, if_neg hc]) (fun M' hS' => by unfold f_X6_drift; simp only [in_lit _ 1 60 (by omega) (by omega), in_lit _ 0 1 (by omega) (by omega), Option.bind_some, ite_b2, if_pos ha, if_neg hc])
  · exact Sim.bad (b := -1) (by unfold f_X5_drift; simp only [within_lit _ 1 60 (by omega) (by omega), Option.bind_some, ite_b2, if_neg ha]) (fun M' hS' => by unfold f_X6_drift; simp only [in_lit _ 1 60 (by omega) (by omega), Option.bind_some, ite_b2, if_neg ha])
