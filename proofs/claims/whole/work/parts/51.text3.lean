/-! NAMES -/
def chB (b : Nat → Nat) (s w : Nat) : Nat → Bool
  | 0 => true
  | j + 1 => chB b s w j && decide (nI (b (s + j)) = sbV w j)
def mtB (b : Nat → Nat) (n p w : Nat) : Bool := decide (tE b n p - tS b n p = sbL w) && chB b (tS b n p) w (sbL w)
theorem chB_no {b : Nat → Nat} {s w j : Nat} (h : chB b s w j = false) : ∀ d, chB b s w (j + d) = false
  | 0 => h
  | d + 1 => by
    show (chB b s w (j + d) && _) = false
    rw [chB_no h d, Bool.false_and]
theorem chB_f {b : Nat → Nat} {s w j L : Nat} (hj : j < L) (h : ¬ nI (b (s + j)) = sbV w j) : chB b s w L = false := by
  have : chB b s w (j + 1) = false := by
    show (chB b s w j && decide _) = false
    rw [decide_eq_false h, Bool.and_false]
  have := chB_no this (L - (j + 1))
  rw [show j + 1 + (L - (j + 1)) = L by omega] at this
  exact this
theorem chB_s {b : Nat → Nat} {s w j : Nat} (h : chB b s w j = true) (hp : nI (b (s + j)) = sbV w j) : chB b s w (j + 1) = true := by
  show (chB b s w j && decide _) = true
  rw [h, decide_eq_true hp]
  rfl
theorem sbL_b {w : Nat} (h : w < 8) : sbL w ≤ 7 := by
  have k : ∀ j : Fin 8, sbL j.val ≤ 7 := by decide
  exact k ⟨w, h⟩
theorem sbV_ok {w j : Nat} (h : w < 8) (hj : j < sbL w) : ((sbV w j &&& 255).toUInt32 % 65536).toInt32 = sbV w j ∧ vp_nar .char (sbV w j) = sbV w j := by
  have k : ∀ (x : Fin 8) (y : Fin 7), y.val < sbL x.val → ((sbV x.val y.val &&& 255).toUInt32 % 65536).toInt32 = sbV x.val y.val ∧ vp_nar .char (sbV x.val y.val) = sbV x.val y.val := by decide +kernel
  have := sbL_b h
  exact k ⟨w, h⟩ ⟨j, by omega⟩ hj
theorem lenJ {M : Mem} {w : Nat} (h : w < 8) : f_J0_length_8abf5 w M = some (nI (sbL w)) := by
  have := sbL_b h
  unfold f_J0_length_8abf5 f_J0_coder_7d493
  rw [if_neg (show ¬ ((1 : Int32) = 0) by decide)]
  simp only [Option.bind_some]
  have e := nI_shr (a := sbL w) (i := 0) (by omega) (by omega)
  rw [Nat.pow_zero, Nat.div_one] at e
  exact congrArg some e
theorem chrJ {M : Mem} {w j : Nat} (h : w < 8) (hj : j < sbL w) : f_J0_charAt_5068e w (nI j) M = some (sbV w j) := by
  have := sbL_b h
  obtain ⟨e1, e2⟩ := sbV_ok h hj
  unfold f_J0_charAt_5068e f_J0_isLatin1_aae02 f_J1_charAt_3b067 f_J0_checkIndex_df160 f_J3_checkIndex_8e157
  rw [if_neg (show ¬ ((1 : Int32) = 0) by decide), if_pos (show (0 : Int32) = 0 from rfl)]
  simp only [Option.bind_some]
  rw [if_neg (show ¬ ((1 : Int32) = 0) by decide), if_neg (nI_pos (by omega)), if_pos (show nI j < Int32.ofNat (sbL w) from (nI_ltN (by omega) (by omega)).mpr hj)]
  simp only [Option.bind_some]
  rw [rd_ok hj (by omega), e1]
  unfold ck
  rw [if_pos e2]
  simp only [Option.bind_some]
  rw [if_pos e2]
theorem isWordC {M : Mem} {b : Nat → Nat} {n p w : Nat} (hB : TpB b n) (hT : TpC M b n) (hp : p ≤ n) (hw : w < 8) (h2 : M 2 2 = nI (tE b n p)) (h3 : M 2 3 = nI (tK b n p)) (h4 : M 2 4 = nI (tS b n p)) : f_X4_isWord w M = some (b2 (tK b n p = 1 ∧ mtB b n p w = true)) := by
  have n160 := hB.1
  have l7 := sbL_b hw
  have sb := tS_b (b := b) hp
  have eb := tE_b (b := b) hp
  have kl := tK_le (b := b) (n := n) (p := p)
  have go : tE b n p - tS b n p = sbL w → ∀ f j, j ≤ sbL w → sbL w - j < f → chB b (tS b n p) w j = true → f_X4_isWord_28 w M f (nI j) = some (b2 (chB b (tS b n p) w (sbL w) = true)) := by
    intro hl f
    induction f with
    | zero => intro j _ q; omega
    | succ f ih =>
      intro j hj hf hc
      unfold f_X4_isWord_28
      rw [lenJ hw]
      simp only [Option.bind_some]
      by_cases q : j = sbL w
      · rw [if_pos ((nI_leN (by omega) (by omega)).mpr (by omega)), ← q, b2_t hc]
      · rw [if_neg (fun z => q (by have := (nI_leN (by omega) (by omega)).mp z; omega)), h4, nI_add, rd_ok (by omega) (by omega), hT.2 _ (by omega), chrJ hw (by omega)]
        simp only [Option.bind_some]
        by_cases e : nI (b (tS b n p + j)) = sbV w j
        · rw [if_pos e, show (1 : Int32) = nI 1 from rfl, nI_add]
          exact ih (j + 1) (by omega) (by omega) (chB_s hc e)
        · rw [if_neg e, b2_f (by rw [chB_f (show j < sbL w by omega) e]; decide)]
  unfold f_X4_isWord
  rw [h3]
  by_cases k : tK b n p = 1
  · rw [if_pos ((nI_lit 1 (by omega) (by omega)).mpr k), lenJ hw]
    simp only [Option.bind_some]
    rw [h2, h4, nI_subN (by omega)]
    by_cases q : tE b n p - tS b n p = sbL w
    · rw [if_pos ((nI_eq (by omega) (by omega)).mpr q)]
      have := go q FU 0 (by omega) (FU_gt (by omega)) rfl
      rw [show (0 : Int32) = nI 0 from rfl, this]
      refine congrArg some (b2_congr ?_)
      unfold mtB
      rw [decide_eq_true q, Bool.true_and]
      exact ⟨fun z => ⟨k, z⟩, fun z => z.2⟩
    · rw [if_neg (fun z => q ((nI_eq (by omega) (by omega)).mp z)), b2_f (fun z => by
        have := z.2
        unfold mtB at this
        rw [decide_eq_false q, Bool.false_and] at this
        exact absurd this (by decide))]
  · rw [if_neg (fun z => k ((nI_lit 1 (by omega) (by omega)).mp z)), b2_f (fun z => k z.1)]
def cutN (w : Nat) : Nat := [0, 3, 9, 14, 18, 22, 29, 33, 38].getD w 0
theorem cut_ok {w : Nat} (h : w < 9) : cutsL.getD w 0 = nI (cutN w) ∧ cutN w ≤ 38 := by
  have k : ∀ x : Fin 9, cutsL.getD x.val 0 = nI (cutN x.val) ∧ cutN x.val ≤ 38 := by decide
  exact k ⟨w, h⟩
theorem cut_len {w : Nat} (h : w < 8) : cutN (w + 1) = cutN w + sbL w := by
  have k : ∀ x : Fin 8, cutN (x.val + 1) = cutN x.val + sbL x.val := by decide
  exact k ⟨w, h⟩
theorem letter_ok {w j : Nat} (h : w < 8) (hj : j < sbL w) : lettersL.getD (cutN w + j) 0 = sbV w j := by
  have k : ∀ (x : Fin 8) (y : Fin 7), y.val < sbL x.val → lettersL.getD (cutN x.val + y.val) 0 = sbV x.val y.val := by decide +kernel
  have := sbL_b h
  exact k ⟨w, h⟩ ⟨j, by omega⟩ hj
theorem nameM {M : Mem} {b : Nat → Nat} {n p : Nat} (hB : TpB b n) (hT : TpM M b n) (hK : RConst M) (hp : p ≤ n) (h13 : M 54 13 = nI (tE b n p)) (h14 : M 54 14 = nI (tS b n p)) (h15 : M 54 15 = nI (tK b n p)) : f_X6_nameHere M = some (if tK b n p = 1 then iI (ff (mtB b n p) 8 0) else -4) := by
  have n160 := hB.1
  have sb := tS_b (b := b) hp
  have eb := tE_b (b := b) hp
  have kl := tK_le (b := b) (n := n) (p := p)
  have e59 : ∀ j, j < 9 → M 59 j = nI (cutN j) := fun j hj => by rw [hK.2.1 j hj, (cut_ok hj).1]
  have go : ∀ f w, w ≤ 8 → 8 - w < f → tK b n p = 1 → f_X6_nameHere_2 M f (nI w) = some (iI (ff (mtB b n p) (8 - w) w)) := by
    intro f
    induction f with
    | zero => intro w _ q; omega
    | succ f ih =>
      intro w hw hf k
      unfold f_X6_nameHere_2
      by_cases q : w = 8
      · subst q
        rw [if_pos (by decide)]
        rfl
      · have hw8 : w < 8 := by omega
        have l7 := sbL_b hw8
        have c0 := cut_ok (show w < 9 by omega)
        have c1 := cut_ok (show w + 1 < 9 by omega)
        have cl := cut_len hw8
        rw [if_neg (fun z => absurd ((lit_le 8 (by omega) (by omega)).mp z) (by omega)), h15, if_pos ((nI_lit 1 (by omega) (by omega)).mpr k), show (1 : Int32) = nI 1 from rfl, nI_add, rd_ok (by omega) (by omega), rd_ok (by omega) (by omega), e59 _ (by omega), e59 _ (by omega), h13, h14, nI_subN (by omega), nI_subN (by omega), show cutN (w + 1) - cutN w = sbL w by omega]
        rw [show 8 - w = (8 - (w + 1)) + 1 by omega]
        unfold ff f_X6_nameHere_48
        have next := ih (w + 1) (by omega) (by omega) k
        -- the letters
        have lets : tE b n p - tS b n p = sbL w → ∀ g j, j ≤ sbL w → sbL w - j < g → f_X6_nameHere_51 M (f_X6_nameHere_2 M f) g (nI w) (b2 (chB b (tS b n p) w j = true)) (nI j) = some (iI (if chB b (tS b n p) w (sbL w) = true then (w : Int) else ff (mtB b n p) (8 - (w + 1)) (w + 1))) := by
          intro hl g
          induction g with
          | zero => intro j _ q; omega
          | succ g ig =>
            intro j hj hg
            unfold f_X6_nameHere_51 f_X6_nameHere_106
            rw [ite_b2]
            by_cases hc : chB b (tS b n p) w j = true
            · rw [if_pos hc, h13, h14, nI_subN (by omega)]
              by_cases e : j = sbL w
              · rw [if_pos ((nI_leN (by omega) (by omega)).mpr (by omega)), ← e, ite_b2, if_pos hc, if_pos hc, iI_nI]
              · rw [if_neg (fun z => e (by have := (nI_leN (by omega) (by omega)).mp z; omega)), nI_add, byteAt_ok hB hT (by omega)]
                simp only [Option.bind_some]
                have ebt : bt b n (tS b n p + j) = nI (b (tS b n p + j)) := by unfold bt; rw [if_neg (by omega)]
                rw [rd_ok (by omega) (by omega), e59 _ (by omega), nI_add, rd_ok (by omega) (by omega), hK.2.2.1 _ (by omega), letter_ok hw8 (by omega), ebt]
                unfold f_X6_nameHere_99
                rw [show nI j + (1 : Int32) = nI (j + 1) by rw [show (1 : Int32) = nI 1 from rfl, nI_add]]
                have r := ig (j + 1) (by omega) (by omega)
                by_cases z : nI (b (tS b n p + j)) = sbV w j
                · rw [if_pos z]
                  rw [b2_t (chB_s hc z)] at r
                  exact r
                · rw [if_neg z]
                  have : chB b (tS b n p) w (j + 1) = false := chB_f (show j < j + 1 by omega) z
                  rw [b2_f (by rw [this]; decide)] at r
                  exact r
            · rw [if_neg hc, ite_b2, if_neg hc, show nI w + (1 : Int32) = nI (w + 1) by rw [show (1 : Int32) = nI 1 from rfl, nI_add], next]
              rw [Bool.not_eq_true] at hc
              have := chB_no hc (sbL w - j)
              rw [show j + (sbL w - j) = sbL w by omega] at this
              rw [if_neg (by rw [this]; decide)]
        by_cases e : tE b n p - tS b n p = sbL w
        · rw [if_pos ((nI_eq (by omega) (by omega)).mpr e)]
          have r := lets e FU 0 (by omega) (FU_gt (by omega))
          rw [show b2 (chB b (tS b n p) w 0 = true) = nI 1 from rfl, show nI 0 = (0 : Int32) from rfl] at r
          rw [r]
          have : mtB b n p w = chB b (tS b n p) w (sbL w) := by unfold mtB; rw [decide_eq_true e, Bool.true_and]
          rw [this]
        · rw [if_neg (fun z => e ((nI_eq (by omega) (by omega)).mp z))]
          have : mtB b n p w = false := by unfold mtB; rw [decide_eq_false e, Bool.false_and]
          rw [this, if_neg (by decide)]
          obtain ⟨fm, hfm⟩ := FU_succ
          rw [hfm]
          unfold f_X6_nameHere_51 f_X6_nameHere_106
          rw [if_pos (show (0 : Int32) = 0 from rfl), if_pos (show (0 : Int32) = 0 from rfl), show nI w + (1 : Int32) = nI (w + 1) by rw [show (1 : Int32) = nI 1 from rfl, nI_add], next]
  unfold f_X6_nameHere
  by_cases k : tK b n p = 1
  · rw [if_pos k]
    exact go FU 0 (by omega) (FU_gt (by omega)) k
  · rw [if_neg k]
    obtain ⟨fm, hfm⟩ := FU_succ
    rw [hfm]
    unfold f_X6_nameHere_2
    rw [if_neg (show ¬ ((8 : Int32) ≤ 0) by decide), h15, if_neg (fun z => k ((nI_lit 1 (by omega) (by omega)).mp z))]
