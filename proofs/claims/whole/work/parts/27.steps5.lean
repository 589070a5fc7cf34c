def sumN (f : Nat → Nat) : Nat → Nat
  | 0 => 0
  | n + 1 => sumN f n + f n
theorem sumN_le {f : Nat → Nat} {b : Nat} : ∀ n, (∀ i, i < n → f i ≤ b) → sumN f n ≤ b * n
  | 0, _ => Nat.zero_le _
  | n + 1, h => by
    have h1 := sumN_le n (fun i hi => h i (by omega))
    have h2 := h n (by omega)
    show sumN f n + f n ≤ b * (n + 1)
    rw [Nat.mul_succ]
    omega
def estS (S : Sv) : Nat := sumN (fun t => S 1 (5 * t + 4)) (S 0 0)
theorem estC {M : Mem} {k : Nat} {S : Sv} (h : RepC M k S) (h0 : S 0 0 ≤ 4) : f_X2_estates k M = some (nI (estS S)) := by
  have go : ∀ n i, i ≤ S 0 0 → S 0 0 - i < n → f_X2_estates_4 k M n (nI (sumN (fun t => S 1 (5 * t + 4)) i)) (nI i) = some (nI (estS S)) := by
    intro n
    induction n with
    | zero => intro i _ h; omega
    | succ n ih =>
      intro i hi hn
      unfold f_X2_estates_4
      rw [h.1]
      by_cases q : i = S 0 0
      · rw [if_pos ((nI_leN (by omega) (by omega)).mpr (by omega)), q]
        rfl
      · rw [if_neg (fun z => q (by have := (nI_leN (by omega) (by omega)).mp z; omega)), show (4 : Int32) = nI 4 from rfl, ofTubC h h0 (by omega) (by omega)]
        simp only [Option.bind_some, li]
        rw [nI_add, show (1 : Int32) = nI 1 from rfl, nI_add]
        exact ih (i + 1) (by omega) (by omega)
  exact go FU 0 (by omega) (FU_gt (by omega))
theorem estM {M : Mem} {S : Sv} (h : RepM M 0 S) (h0 : S 0 0 ≤ 4) : f_X6_estates M = some (nI (estS S)) := by
  have go : ∀ n i, i ≤ S 0 0 → S 0 0 - i < n → f_X6_estates_4 M n (nI (sumN (fun t => S 1 (5 * t + 4)) i)) (nI i) = some (nI (estS S)) := by
    intro n
    induction n with
    | zero => intro i _ h; omega
    | succ n ih =>
      intro i hi hn
      unfold f_X6_estates_4
      rw [rd_lit 20 (by omega) (by omega), show M 55 20 = nI (S 0 0) from h.1]
      by_cases q : i = S 0 0
      · rw [if_pos ((nI_leN (by omega) (by omega)).mpr (by omega)), q]
        rfl
      · rw [if_neg (fun z => q (by have := (nI_leN (by omega) (by omega)).mp z; omega)), show (16 : Int32) = nI 16 from rfl, nI_add, rd_ok (by omega) (by omega)]
        have e := h.2.2.2.1 i 4 (by omega) (by omega)
        rw [show 0 + 4 * 4 + i = 16 + i by omega] at e
        simp only [li]
        rw [e, nI_add, show (1 : Int32) = nI 1 from rfl, nI_add]
        exact ih (i + 1) (by omega) (by omega)
  exact go FU 0 (by omega) (FU_gt (by omega))
theorem RepM.frC {X : Nat → Nat → Prop} {M M1 : Mem} {p : Nat} {S : Sv} (h : RepM M p S) (hf : Fr X M M1) (hx : ∀ c j, 54 ≤ c → c ≤ 55 → ¬ X c j) : RepM M1 p S := by
  obtain ⟨h1, h2, h3, h4, h5, h6, h7⟩ := h
  refine ⟨?_, ?_, ?_, fun t w ht hw => ?_, fun j hj => ?_, fun j hj => ?_, fun j hj => ?_⟩
  · rw [hf _ _ (hx _ _ (by omega) (by omega)), h1]
  · rw [hf _ _ (hx _ _ (by omega) (by omega)), h2]
  · rw [hf _ _ (hx _ _ (by omega) (by omega)), h3]
  · rw [hf _ _ (hx _ _ (by omega) (by omega)), h4 t w ht hw]
  · rw [hf _ _ (hx _ _ (by omega) (by omega)), h5 j hj]
  · rw [hf _ _ (hx _ _ (by omega) (by omega)), h6 j hj]
  · rw [hf _ _ (hx _ _ (by omega) (by omega)), h7 j hj]
theorem rf19 {k : Nat} (h : k < 2) : rf 19 k = 20 + 5 * k := match k, h with
  | 0, _ => rfl
  | 1, _ => rfl
  | n + 2, h => by omega
theorem rf31 {k : Nat} (h : k < 4) : rf 31 k = 32 + 2 * k := match k, h with
  | 0, _ => rfl
  | 1, _ => rfl
  | 2, _ => rfl
  | 3, _ => rfl
  | n + 4, h => by omega
theorem nar1 : vp_nar .boolean (1 : Int32) = 1 := by decide
theorem nar0 : vp_nar .boolean (0 : Int32) = 0 := by decide
theorem RKept.old {M : Mem} {k : Nat} (h : RKept M k) : ∃ v : Int32, M 30 k = v ∧ M 71 k = v ∧ (v = 0 ∨ v = 1) := by
  rcases h with ⟨a, b⟩ | ⟨a, b, -⟩
  · exact ⟨0, a, b, Or.inl rfl⟩
  · exact ⟨1, a, b, Or.inr rfl⟩
theorem st_keep : St_keep Rel := by
  intro M a h
  obtain ⟨⟨S, hW, hC, hM⟩, -, -, -, ⟨hk0, hk1⟩, -⟩ := id h
  unfold f_X5_keep f_X6_keep
  simp only [within_lit _ 0 1 (by omega) (by omega), in_lit _ 0 1 (by omega) (by omega), Option.bind_some, ite_b2]
  by_cases h1 : ((0 : Nat) : Int) ≤ a.toInt ∧ a.toInt ≤ ((1 : Nat) : Int)
  · simp only [if_pos h1]
    obtain ⟨k, -, hk, rfl⟩ := nI_rng h1
    have hold : ∃ v : Int32, M 30 k = v ∧ M 71 k = v ∧ (v = 0 ∨ v = 1) := by
      have : k = 0 ∨ k = 1 := by omega
      rcases this with rfl | rfl
      · exact hk0.old
      · exact hk1.old
    obtain ⟨v, v1, v2, v3⟩ := hold
    obtain ⟨M1, b1, b2, b3⟩ := become_ok (M := M) (k0 := 20 + 5 * k) (k1 := 9) (by omega) hC hW.1 hW.2.1
    have hK : f_X5_keep_25 (nI k) v M = some (v, up M1 30 k 1) := by
      unfold f_X5_keep_25
      rw [inb_ok (by omega) (by omega), nI_clamp (by omega), rf19 (by omega), b1]
      simp only [Option.bind_some, lm]
      rw [inb_ok (by omega) (by omega), nar1]
    have hM1 : RepM M1 0 S := hM.frC b2 (fun c j p q => by unfold Sea5; omega)
    have hM2 : RepM (up M1 30 k 1) 0 S := hM1.upC (by omega)
    refine ⟨v, up M1 30 k 1, up (cpN (up M1 30 k 1) 0 (72 * (k + 1)) 72) 71 k 1, ?_, ?_, ?_⟩
    · rw [rd_ok (by omega) (by omega), v1]
      rcases v3 with rfl | rfl
      · rw [if_pos rfl]; exact hK
      · rw [if_neg (by decide)]; exact hK
    · rw [show (72 : Int32) = nI 72 from rfl, show (1 : Int32) = nI 1 from rfl, nI_add, nI_mulN, show (0 : Int32) = nI 0 from rfl, copies_ok (by omega) (by omega) (by omega)]
      simp only [Option.bind_some]
      rw [rd_ok (by omega) (by omega)]
      have e : cpN (up M1 30 k (nI 1)) 0 (72 * (k + 1)) 72 71 k = v := by
        rw [cpN_at, if_neg (by omega), up_cell (by omega), b2 71 k (by unfold Sea5; omega), v2]
      have hL : ∀ M0 : Mem, f_X6_keep_37 (nI k) v M0 = some (v, up M0 71 k 1) := by
        intro M0
        unfold f_X6_keep_37
        rw [inb_ok (by omega) (by omega), nI_clamp (by omega)]
        simp only [lm]
        rw [nar1]
      rw [e]
      rcases v3 with rfl | rfl
      · rw [if_pos (show (0 : Int32) = nI 0 from rfl)]; exact hL _
      · rw [if_neg (by decide)]; exact hL _
    · have fr : ∀ X : Nat → Nat → Prop, (∀ c j, Sea5 (20 + 5 * k) c j → X c j) → X 30 k → (∀ c j, Page (72 * (k + 1)) c j → X c j) → X 71 k → Fr X M (up (cpN (up M1 30 k 1) 0 (72 * (k + 1)) 72) 71 k 1) := by
        intro X x1 x2 x3 x4
        exact ((((b2.mono x1).up x2).trans (cpN_fr.mono x3))).up x4
      have hn : RKept (up (cpN (up M1 30 k 1) 0 (72 * (k + 1)) 72) 71 k 1) k := by
        refine Or.inr ⟨?_, up_same _ _ _ _, S, hW, ?_, ?_⟩
        · rw [up_cell (by omega), cpN_at, if_neg (by omega), up_same]
        · exact ((b3.upM (c := 30) (j := k) (v := 1) (by omega)).fr cpN_fr (fun c j p q => by unfold Page; omega)).upM (by omega)
        · exact (cpN_rep hM2 hW.1 hW.2.1).upC (by omega)
      have : k = 0 ∨ k = 1 := by omega
      rcases this with rfl | rfl
      · refine h.kept0 (fr _ ?_ ?_ ?_ ?_) hn
        · intro c j q; unfold Sea5 at q; unfold Loc_kept0; omega
        · unfold Loc_kept0; omega
        · intro c j q; unfold Page at q; unfold Loc_kept0; omega
        · unfold Loc_kept0; omega
      · refine h.kept1 (fr _ ?_ ?_ ?_ ?_) hn
        · intro c j q; unfold Sea5 at q; unfold Loc_kept1; omega
        · unfold Loc_kept1; omega
        · intro c j q; unfold Page at q; unfold Loc_kept1; omega
        · unfold Loc_kept1; omega
  · simp only [if_neg h1]
    exact ⟨_, _, _, rfl, rfl, h⟩
theorem st_back : St_back Rel := by
  intro M a h
  obtain ⟨⟨S, hW, hC, hM⟩, -, -, -, ⟨hk0, hk1⟩, -⟩ := id h
  unfold f_X5_back f_X6_back
  simp only [within_lit _ 0 1 (by omega) (by omega), in_lit _ 0 1 (by omega) (by omega), Option.bind_some, ite_b2]
  by_cases h1 : ((0 : Nat) : Int) ≤ a.toInt ∧ a.toInt ≤ ((1 : Nat) : Int)
  · simp only [if_pos h1]
    obtain ⟨k, -, hk, rfl⟩ := nI_rng h1
    have hold : RKept M k := by
      have : k = 0 ∨ k = 1 := by omega
      rcases this with rfl | rfl
      · exact hk0
      · exact hk1
    rw [rd_ok (by omega) (by omega)]
    rcases hold with ⟨v1, v2⟩ | ⟨v1, v2, I, wI, cI, mI⟩
    · rw [v1, if_pos rfl]
      refine ⟨_, _, _, rfl, ?_, h⟩
      rw [rd_ok (by omega) (by omega), v2, if_pos rfl]
    · rw [v1, if_neg (by decide), inb_ok (by omega) (by omega), nI_clamp (by omega), rf19 (by omega)]
      obtain ⟨M1, b1, b2, b3⟩ := become_ok (M := M) (k0 := 9) (k1 := 20 + 5 * k) (by omega) cI wI.1 wI.2.1
      rw [b1]
      simp only [Option.bind_some]
      rw [estC b3 wI.1]
      simp only [Option.bind_some]
      have mI1 : RepM M1 (72 * (k + 1)) I := mI.frC b2 (fun c j p q => by unfold Sea5; omega)
      have mI2 : RepM (cpN M1 (72 * (k + 1)) 0 72) 0 I := cpN_rep mI1 wI.1 wI.2.1
      refine ⟨_, _, cpN M1 (72 * (k + 1)) 0 72, rfl, ?_, ?_⟩
      · rw [rd_ok (by omega) (by omega), b2 71 k (by unfold Sea5; omega), v2, if_neg (by decide), show (72 : Int32) = nI 72 from rfl, show (1 : Int32) = nI 1 from rfl, nI_add, nI_mulN, show (0 : Int32) = nI 0 from rfl, copies_ok (by omega) (by omega) (by omega)]
        simp only [Option.bind_some]
        rw [estM mI2 wI.1]
        rfl
      · refine h.sea0 ((b2.mono ?_).trans (cpN_fr.mono ?_)) ⟨I, wI, b3.fr cpN_fr (fun c j p q => by unfold Page; omega), mI2⟩
        · intro c j q; unfold Sea5 at q; unfold Loc_sea0; omega
        · intro c j q; unfold Page at q; unfold Loc_sea0; omega
  · simp only [if_neg h1]
    exact ⟨_, _, _, rfl, rfl, h⟩
/-! sheets -/
def zf (M : Mem) (c b i : Nat) : Mem := upR M c (fun j => if b ≤ j ∧ j < b + i then 0 else M c j)
theorem zf_at (M : Mem) (d b i c j : Nat) : zf M d b i c j = if c = d ∧ b ≤ j ∧ j < b + i then 0 else M c j := by
  unfold zf upR
  by_cases h : c = d
  · subst h; simp
  · simp [h]
theorem zf_0 (M : Mem) (d b : Nat) : zf M d b 0 = M := by
  funext c j
  rw [zf_at, if_neg (by omega)]
theorem zf_up (M : Mem) (d b i : Nat) : up (zf M d b i) d (b + i) 0 = zf M d b (i + 1) := by
  funext c j
  simp only [up_at, zf_at]
  grind
theorem renew_ok {M : Mem} {k : Nat} {a b : Int32} : f_X3_renew k a b M = some (zf (up (up M k 1 a) k 2 b) (k + 1) 0 40) := by
  have go : ∀ n i (M : Mem), i ≤ 40 → 40 - i < n → f_X3_renew_12 k a b n (nI i) (zf M (k + 1) 0 i) = some (zf M (k + 1) 0 40) := by
    intro n
    induction n with
    | zero => intro i _ _ h; omega
    | succ n ih =>
      intro i M hi hn
      unfold f_X3_renew_12
      by_cases q : i = 40
      · subst q
        rw [if_pos (by decide)]
      · rw [if_neg (fun z => absurd ((lit_le 40 (by omega) (by omega)).mp z) (by omega)), inb_ok (by omega) (by omega)]
        simp only [lm]
        rw [nI_clamp (by omega), show (1 : Int32) = nI 1 from rfl, nI_add]
        have e := zf_up M (k + 1) 0 i
        rw [Nat.zero_add] at e
        rw [e]
        exact ih (i + 1) M (by omega) (by omega)
  unfold f_X3_renew
  simp only [lm]
  have e := go FU 0 (up (up M k 1 a) k 2 b) (by omega) (FU_gt (by omega))
  rw [zf_0] at e
  exact e
theorem sheetM_ok {M : Mem} {k : Nat} {a b : Int32} (hk : k < 4) : f_X6_sheet_56 (nI k) a b FU 0 M = some (1, zf M 74 (40 * k) 40) := by
  have go : ∀ n i (M : Mem), i ≤ 40 → 40 - i < n → f_X6_sheet_56 (nI k) a b n (nI i) (zf M 74 (40 * k) i) = some (1, zf M 74 (40 * k) 40) := by
    intro n
    induction n with
    | zero => intro i _ _ h; omega
    | succ n ih =>
      intro i M hi hn
      unfold f_X6_sheet_56
      by_cases q : i = 40
      · subst q
        rw [if_pos (by decide)]
      · rw [if_neg (fun z => absurd ((lit_le 40 (by omega) (by omega)).mp z) (by omega)), show (40 : Int32) = nI 40 from rfl, nI_mulN, nI_add, inb_ok (by omega) (by omega)]
        simp only [lm]
        rw [nI_clamp (by omega), show (1 : Int32) = nI 1 from rfl, nI_add, zf_up]
        exact ih (i + 1) M (by omega) (by omega)
  have e := go FU 0 M (by omega) (FU_gt (by omega))
  rw [zf_0] at e
  exact e
theorem st_sheet : St_sheet Rel := by
  intro M a b c h
  obtain ⟨-, -, -, -, -, hS, -⟩ := id h
  unfold f_X5_sheet f_X6_sheet
  simp only [within_lit _ 0 3 (by omega) (by omega), in_lit _ 0 3 (by omega) (by omega), within_lit _ 0 2 (by omega) (by omega), in_lit _ 0 2 (by omega) (by omega), Option.bind_some, ite_b2]
  by_cases h1 : ((0 : Nat) : Int) ≤ a.toInt ∧ a.toInt ≤ ((3 : Nat) : Int)
  · simp only [if_pos h1]
    by_cases h2 : ((0 : Nat) : Int) ≤ b.toInt ∧ b.toInt ≤ ((2 : Nat) : Int)
    · simp only [if_pos h2]
      obtain ⟨k, -, hk, rfl⟩ := nI_rng h1
      obtain ⟨l, -, hl, rfl⟩ := nI_rng h2
      by_cases h3 : c ≤ 40
      · simp only [if_pos h3]
        by_cases h4 : 0 ≤ c
        · simp only [if_pos h4]
          rw [Int32.le_iff_toInt_le, lit_toInt 40 (by omega)] at h3
          rw [Int32.le_iff_toInt_le, lit_toInt 0 (by omega)] at h4
          obtain ⟨n, -, hn, rfl⟩ := nI_rng (lo := 0) (hi := 40) (x := c) (by omega)
          rw [inb_ok (by omega) (by omega), nI_clamp (by omega), rf31 (by omega), renew_ok]
          simp only [Option.bind_some, lm]
          refine ⟨_, _, zf (up (up (zf (up (up M (32 + 2 * k) 1 (nI l)) (32 + 2 * k) 2 (nI n)) (32 + 2 * k + 1) 0 40) 72 k (nI l)) 73 k (nI n)) 74 (40 * k) 40, rfl, ?_, ?_⟩
          · rw [inb_ok (by omega) (by omega), inb_ok (by omega) (by omega)]
            exact sheetM_ok (by omega)
          · have at' : ∀ c j, zf (up (up (zf (up (up M (32 + 2 * k) 1 (nI l)) (32 + 2 * k) 2 (nI n)) (32 + 2 * k + 1) 0 40) 72 k (nI l)) 73 k (nI n)) 74 (40 * k) 40 c j = if c = 74 ∧ 40 * k ≤ j ∧ j < 40 * k + 40 then 0 else if c = 73 ∧ j = k then nI n else if c = 72 ∧ j = k then nI l else if c = 33 + 2 * k ∧ j < 40 then 0 else if c = 32 + 2 * k ∧ j = 2 then nI n else if c = 32 + 2 * k ∧ j = 1 then nI l else M c j := by
              intro c j
              simp only [zf_at, up_at]
              grind
            have off : ∀ c j, ¬ (c = 74 ∧ 40 * k ≤ j ∧ j < 40 * k + 40) → ¬ (c = 73 ∧ j = k) → ¬ (c = 72 ∧ j = k) → c ≠ 33 + 2 * k → c ≠ 32 + 2 * k → zf (up (up (zf (up (up M (32 + 2 * k) 1 (nI l)) (32 + 2 * k) 2 (nI n)) (32 + 2 * k + 1) 0 40) 72 k (nI l)) 73 k (nI n)) 74 (40 * k) 40 c j = M c j := by
              intro c j g1 g2 g3 g4 g5
              rw [at', if_neg g1, if_neg g2, if_neg g3, if_neg (fun z => g4 z.1), if_neg (fun z => g5 z.1), if_neg (fun z => g5 z.1)]
            generalize zf (up (up (zf (up (up M (32 + 2 * k) 1 (nI l)) (32 + 2 * k) 2 (nI n)) (32 + 2 * k + 1) 0 40) 72 k (nI l)) 73 k (nI n)) 74 (40 * k) 40 = M2 at at' off
            refine h.sheet0 (fun c j hc => ?_) (fun i hi => ?_)
            · rw [at']
              unfold Loc_sheet0 at hc
              rw [if_neg (by omega), if_neg (by omega), if_neg (by omega), if_neg (by omega), if_neg (by omega), if_neg (by omega)]
            · by_cases q : i = k
              · subst q
                refine ⟨?_, Or.inr ⟨l, by omega, ?_⟩, n, by omega, ?_, ?_, fun j hj => ?_⟩
                · rw [at', at']; grind
                · rw [at']; grind
                · rw [at']; grind
                · rw [at']; grind
                · rw [at', at']; grind
              · obtain ⟨e1, e2, n', e3, e4, e5, e6⟩ := hS i hi
                refine ⟨?_, ?_, n', e3, ?_, ?_, fun j hj => ?_⟩
                · rw [off _ _ (by omega) (by omega) (by omega) (by omega) (by omega), off _ _ (by omega) (by omega) (by omega) (by omega) (by omega), e1]
                · rw [off _ _ (by omega) (by omega) (by omega) (by omega) (by omega)]
                  exact e2
                · rw [off _ _ (by omega) (by omega) (by omega) (by omega) (by omega), e4]
                · rw [off _ _ (by omega) (by omega) (by omega) (by omega) (by omega), e5]
                · rw [off _ _ (by omega) (by omega) (by omega) (by omega) (by omega), off _ _ (by omega) (by omega) (by omega) (by omega) (by omega), e6 j hj]
        · simp only [if_neg h4]
          exact ⟨_, _, _, rfl, rfl, h⟩
      · simp only [if_neg h3]
        exact ⟨_, _, _, rfl, rfl, h⟩
    · simp only [if_neg h2]
      exact ⟨_, _, _, rfl, rfl, h⟩
  · simp only [if_neg h1]
    exact ⟨_, _, _, rfl, rfl, h⟩
