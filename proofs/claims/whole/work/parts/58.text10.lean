/-! text -/
def S00 : Sv := fun g _ => if g = 3 then 2 else 0
theorem wf_S00 : WF S00 := ⟨by decide, by decide, by decide, fun t ht => absurd ht (Nat.not_lt_zero t), fun i hi => absurd hi (Nat.not_lt_zero i), fun r _ => by show (2 : Nat) < 5; omega, fun h _ => by show (0 : Nat) < 5; omega⟩
theorem empty38 : ∀ f i M0, i ≤ 24 → 24 - i < f → (∀ j, j < i → M0 8 j = nI 0) → ∃ M1, f_X2_empty_38 4 f (nI i) M0 = some M1 ∧ Fr (fun c _ => c = 8) M0 M1 ∧ ∀ j, j < 24 → M1 8 j = nI 0 := by
  intro f
  induction f with
  | zero => intro i _ _ q; omega
  | succ f ih =>
    intro i M0 hi hf h0
    unfold f_X2_empty_38
    by_cases q : i = 24
    · subst q
      rw [if_pos (by decide)]
      exact ⟨M0, rfl, Fr.rfl', h0⟩
    · rw [if_neg (fun z => absurd ((lit_le 24 (by omega) (by omega)).mp z) (by omega)), inb_ok (by omega) (by omega), nI_clamp (by omega)]
      simp only [lm]
      rw [show nI i + (1 : Int32) = nI (i + 1) by rw [show (1 : Int32) = nI 1 from rfl, nI_add]]
      have g0 : Fr (fun c _ => c = 8) M0 (up M0 (4 + 4) i 0) := Fr.rfl'.up (by omega)
      obtain ⟨M1, a1, a2, a3⟩ := ih (i + 1) (up M0 (4 + 4) i 0) (by omega) (by omega) (fun j hj => by
        by_cases e : j = i
        · rw [e]; exact up_same _ _ _ _
        · rw [show (up M0 (4 + 4) i 0) 8 j = M0 8 j from up_slot e]
          exact h0 j (by omega))
      exact ⟨M1, a1, g0.trans a2, a3⟩
theorem empty17 : ∀ f i M0, i ≤ 10 → 10 - i < f → (∀ j, j < i → M0 7 j = nI 2) → ∃ M1, f_X2_empty_17 4 f (nI i) M0 = some M1 ∧ Fr (fun c _ => c = 7 ∨ c = 8) M0 M1 ∧ (∀ j, j < 10 → M1 7 j = nI 2) ∧ ∀ j, j < 24 → M1 8 j = nI 0 := by
  intro f
  induction f with
  | zero => intro i _ _ q; omega
  | succ f ih =>
    intro i M0 hi hf h0
    unfold f_X2_empty_17 f_X2_empty_36
    by_cases q : i = 10
    · subst q
      rw [if_pos (by decide)]
      obtain ⟨M1, a1, a2, a3⟩ := empty38 FU 0 M0 (by omega) (FU_gt (by omega)) (fun j hj => by omega)
      exact ⟨M1, a1, a2.mono (fun c j x => by omega), fun j hj => by rw [a2 7 j (by omega)]; exact h0 j hj, a3⟩
    · rw [if_neg (fun z => absurd ((lit_le 10 (by omega) (by omega)).mp z) (by omega)), inb_ok (by omega) (by omega), nI_clamp (by omega)]
      simp only [lm]
      rw [show nI i + (1 : Int32) = nI (i + 1) by rw [show (1 : Int32) = nI 1 from rfl, nI_add]]
      have g0 : Fr (fun c _ => c = 7 ∨ c = 8) M0 (up M0 (4 + 3) i 2) := Fr.rfl'.up (by omega)
      obtain ⟨M1, a1, a2, a3⟩ := ih (i + 1) (up M0 (4 + 3) i 2) (by omega) (by omega) (fun j hj => by
        by_cases e : j = i
        · rw [e]; exact up_same _ _ _ _
        · rw [show (up M0 (4 + 3) i 2) 7 j = M0 7 j from up_slot e]
          exact h0 j (by omega))
      exact ⟨M1, a1, g0.trans a2, a3⟩
theorem emptyC {M : Mem} : ∃ M1, f_X2_empty 4 M = some M1 ∧ Fr (fun c _ => 4 ≤ c ∧ c ≤ 8) M M1 ∧ RepC M1 4 S00 := by
  unfold f_X2_empty
  simp only [lm]
  have g0 : Fr (fun c _ => 4 ≤ c ∧ c ≤ 8) M (up (up (up M 4 4 0) 4 5 0) 4 6 0) := ((Fr.rfl'.up (by omega)).up (by omega)).up (by omega)
  have v4 : (up (up (up M 4 4 0) 4 5 0) 4 6 0) 4 4 = nI 0 := by rw [up_slot (by omega), up_slot (by omega), up_same]; rfl
  have v5 : (up (up (up M 4 4 0) 4 5 0) 4 6 0) 4 5 = nI 0 := by rw [up_slot (by omega), up_same]; rfl
  have v6 : (up (up (up M 4 4 0) 4 5 0) 4 6 0) 4 6 = nI 0 := up_same _ _ _ _
  generalize up (up (up M 4 4 0) 4 5 0) 4 6 0 = M0 at *
  obtain ⟨M1, a1, a2, a3, a4⟩ := empty17 FU 0 M0 (by omega) (FU_gt (by omega)) (fun j hj => by omega)
  refine ⟨M1, a1, g0.trans (a2.mono (fun c j x => by omega)), by rw [a2 4 4 (by omega), v4]; rfl, by rw [a2 4 5 (by omega), v5]; rfl, by rw [a2 4 6 (by omega), v6]; rfl, fun j hj => absurd hj (by show ¬ j < 5 * 0; omega), fun j hj => absurd hj (by show ¬ j < 4 * 0; omega), fun r hr => a3 r hr, fun h hh => a4 h hh⟩
theorem text34 {x : Int32} : ∀ f i M0, i ≤ 72 → 72 - i < f → (∀ j, j < i → M0 57 j = nI 0) → ∃ M1, f_X6_text_34 f x (nI i) M0 = f_X6_text_53 x M1 ∧ Fr c57 M0 M1 ∧ ∀ j, j < 72 → M1 57 j = nI 0 := by
  intro f
  induction f with
  | zero => intro i _ _ q; omega
  | succ f ih =>
    intro i M0 hi hf h0
    unfold f_X6_text_34
    by_cases q : i = 72
    · subst q
      rw [if_pos (by decide)]
      exact ⟨M0, rfl, Fr.rfl', h0⟩
    · rw [if_neg (fun z => absurd ((lit_le 72 (by omega) (by omega)).mp z) (by omega)), inb_ok (by omega) (by omega), nI_clamp (by omega)]
      simp only [lm]
      rw [show nI i + (1 : Int32) = nI (i + 1) by rw [show (1 : Int32) = nI 1 from rfl, nI_add]]
      have g0 : Fr c57 M0 (up M0 57 i 0) := fr57
      obtain ⟨M1, a1, a2, a3⟩ := ih (i + 1) (up M0 57 i 0) (by omega) (by omega) (fun j hj => by
        by_cases e : j = i
        · rw [e]; exact up_same _ _ _ _
        · rw [up_slot e]
          exact h0 j (by omega))
      exact ⟨M1, a1, g0.trans a2, a3⟩
theorem text111 {x : Int32} : ∀ f i M0, i ≤ 72 → 72 - i < f → (∀ j, j < i → M0 55 j = M0 57 j) → ∃ M1, f_X6_text_111 f x (nI i) M0 = f_X6_text_135 x M1 ∧ Fr P72 M0 M1 ∧ ∀ j, j < 72 → M1 55 j = M1 57 j := by
  intro f
  induction f with
  | zero => intro i _ _ q; omega
  | succ f ih =>
    intro i M0 hi hf h0
    unfold f_X6_text_111
    by_cases q : i = 72
    · subst q
      rw [if_pos (by decide)]
      exact ⟨M0, rfl, Fr.rfl', h0⟩
    · rw [if_neg (fun z => absurd ((lit_le 72 (by omega) (by omega)).mp z) (by omega)), rd_ok (by omega) (by omega), inb_ok (by omega) (by omega), nI_clamp (by omega)]
      simp only [lm]
      rw [show nI i + (1 : Int32) = nI (i + 1) by rw [show (1 : Int32) = nI 1 from rfl, nI_add]]
      have g0 : Fr P72 M0 (up M0 55 i (M0 57 i)) := Fr.rfl'.up ⟨rfl, by omega⟩
      obtain ⟨M1, a1, a2, a3⟩ := ih (i + 1) (up M0 55 i (M0 57 i)) (by omega) (by omega) (fun j hj => by
        rw [up_cell (show (57 : Nat) ≠ 55 by omega)]
        by_cases e : j = i
        · rw [e]; exact up_same _ _ _ _
        · rw [up_slot e]
          exact h0 j (by omega))
      exact ⟨M1, a1, g0.trans a2, a3⟩
theorem text58 {x : Int32} {M : Mem} : f_X5_text_58 FU x 0 M = some (x, up (up M 30 0 0) 30 1 0) := by
  obtain ⟨m, hm⟩ : ∃ m, FU = m + 1 + 1 + 1 := ⟨FU - 3, by have := FU_gt (show 3 < 4096 by omega); omega⟩
  rw [hm]
  unfold f_X5_text_58
  rw [if_neg (show ¬ ((2 : Int32) ≤ 0) by decide), show (0 : Int32) = nI 0 from rfl, inb_ok (by omega) (by omega), nI_clamp (by omega)]
  simp only [lm]
  unfold f_X5_text_58
  rw [show nI 0 + (1 : Int32) = nI 1 from rfl, if_neg (show ¬ ((2 : Int32) ≤ nI 1) by decide), inb_ok (by omega) (by omega), nI_clamp (by omega)]
  simp only [lm]
  unfold f_X5_text_58
  rw [show nI 1 + (1 : Int32) = nI 2 from rfl, if_pos (show ((2 : Int32) ≤ nI 2) by decide), show nI 0 = (0 : Int32) from rfl, nar0]
theorem readAll_is {M : Mem} {b : Nat → Nat} {n : Nat} (hT : TpC M b n) : ∃ M0, f_X1_readAll M = f_X1_readAll_36 FU 0 M0 ∧ Fr LnC M M0 ∧ TpC M0 b n ∧ CS M0 (.inl 0) ∧ PCi M0 (S00, 0, 0, 0) := by
  obtain ⟨E, a1, a2, a3⟩ := emptyC (M := M)
  unfold f_X1_readAll f_X4_rewind
  rw [a1]
  simp only [Option.bind_some, lm]
  have g0 : Fr (fun c j => (c = 2 ∧ j = 2) ∨ (c = 1 ∧ 2 ≤ j)) E (up (up (up (up (up E 2 2 0) 1 2 0) 1 4 0) 1 5 0) 1 6 0) := ((((Fr.rfl'.up (by omega)).up (by omega)).up (by omega)).up (by omega)).up (by omega)
  have g1 : Fr LnC M (up (up (up (up (up E 2 2 0) 1 2 0) 1 4 0) 1 5 0) 1 6 0) := (a2.mono (fun c j x => by unfold LnC; omega)).trans (g0.mono (fun c j x => by unfold LnC; omega))
  refine ⟨_, rfl, g1, hT.ln g1, ⟨?_, ?_⟩, a3.fr g0 (fun c j x y => by omega), ?_, ?_, ?_⟩
  · rw [up_slot (by omega), up_slot (by omega), up_slot (by omega), up_same]; rfl
  · rw [up_cell (by omega), up_cell (by omega), up_cell (by omega), up_cell (by omega), up_same]; rfl
  · rw [up_slot (by omega), up_slot (by omega), up_same]; rfl
  · rw [up_slot (by omega), up_same]; rfl
  · rw [up_same]; rfl
theorem textM_is {M : Mem} {b : Nat → Nat} {n : Nat} (hB : TpB b n) (hT : TpM M b n) (hK : RConst M) : ∃ M0, f_X6_text M = f_X6_text_57 FU 0 M0 ∧ Fr LnM M M0 ∧ TpM M0 b n ∧ RConst M0 ∧ MS M0 b n 0 ∧ PMi M0 (S00, 0, 0, 0) := by
  unfold f_X6_text
  simp only [lm]
  have g0 : Fr (fun c j => c = 54 ∧ (4 ≤ j ∧ j ≤ 7 ∨ 11 ≤ j ∧ j ≤ 16)) M (up (up (up (up (up (up M 54 11 0) 54 13 0) 54 4 0) 54 5 0) 54 6 0) 54 7 0) := (((((Fr.rfl'.up (by omega)).up (by omega)).up (by omega)).up (by omega)).up (by omega)).up (by omega)
  have v11 : (up (up (up (up (up (up M 54 11 0) 54 13 0) 54 4 0) 54 5 0) 54 6 0) 54 7 0) 54 11 = nI 0 := by rw [up_slot (by omega), up_slot (by omega), up_slot (by omega), up_slot (by omega), up_slot (by omega), up_same]; rfl
  have v13 : (up (up (up (up (up (up M 54 11 0) 54 13 0) 54 4 0) 54 5 0) 54 6 0) 54 7 0) 54 13 = nI 0 := by rw [up_slot (by omega), up_slot (by omega), up_slot (by omega), up_slot (by omega), up_same]; rfl
  have v4 : (up (up (up (up (up (up M 54 11 0) 54 13 0) 54 4 0) 54 5 0) 54 6 0) 54 7 0) 54 4 = nI 0 := by rw [up_slot (by omega), up_slot (by omega), up_slot (by omega), up_same]; rfl
  have v5 : (up (up (up (up (up (up M 54 11 0) 54 13 0) 54 4 0) 54 5 0) 54 6 0) 54 7 0) 54 5 = nI 0 := by rw [up_slot (by omega), up_slot (by omega), up_same]; rfl
  have v6 : (up (up (up (up (up (up M 54 11 0) 54 13 0) 54 4 0) 54 5 0) 54 6 0) 54 7 0) 54 6 = nI 0 := by rw [up_slot (by omega), up_same]; rfl
  have v7 : (up (up (up (up (up (up M 54 11 0) 54 13 0) 54 4 0) 54 5 0) 54 6 0) 54 7 0) 54 7 = nI 0 := up_same _ _ _ _
  generalize up (up (up (up (up (up M 54 11 0) 54 13 0) 54 4 0) 54 5 0) 54 6 0) 54 7 0 = N0 at *
  obtain ⟨N1, a1, a2, a3⟩ := text34 (x := 0) FU 0 N0 (by omega) (FU_gt (by omega)) (fun j hj => by omega)
  have g1 : Fr LnM M N1 := (g0.mono (fun c j x => by unfold LnM; omega)).trans (a2.mono (fun c j x => by unfold c57 at x; unfold LnM; omega))
  obtain ⟨N2, b1, b2, b3⟩ := stepM (M := N1) (p := 0) hB (hT.ln g1) (Nat.zero_le _) (by rw [a2 54 11 (by unfold c57; omega), v11]) (by rw [a2 54 13 (by unfold c57; omega), v13])
  have g2 : Fr LnM M N2 := g1.trans (b2.mono (fun _ _ => StF_LnM))
  have e57 : ∀ j, j < 72 → N2 57 j = nI 0 := fun j hj => by rw [b2 57 j (by unfold StF; omega)]; exact a3 j hj
  have o54 : ∀ j, 4 ≤ j → j ≤ 7 → N2 54 j = N0 54 j := fun j h1 h2 => by rw [b2 54 j (by unfold StF; omega), a2 54 j (by unfold c57; omega)]
  refine ⟨N2, ?_, g2, hT.ln g2, hK.fr g2 (fun j => by unfold LnM; omega) (fun j => by unfold LnM; omega) (fun j => by unfold LnM; omega) (by unfold LnM; omega), b3, ⟨e57 20 (by omega), by rw [o54 4 (by omega) (by omega), v4]; rfl, e57 71 (by omega), fun t w ht => absurd ht (Nat.not_lt_zero t), fun j hj => absurd hj (by show ¬ j < 4 * 0; omega), fun r hr => by rw [e57 _ (by omega)]; rfl, fun h hh => e57 _ (by omega)⟩, by rw [o54 5 (by omega) (by omega)]; exact v5, by rw [o54 6 (by omega) (by omega)]; exact v6, by rw [o54 7 (by omega) (by omega)]; exact v7⟩
  rw [show f_X6_text_34 FU 0 0 N0 = f_X6_text_34 FU 0 (nI 0) N0 from rfl, a1]
  unfold f_X6_text_53
  rw [b1]
  rfl
theorem RepM.ofP {M : Mem} {S : Sv} (h : RepP M S) (h0 : S 0 0 ≤ 4) (h1 : S 0 1 ≤ 4) (h2 : M 54 2 = M 54 4) (hc : ∀ j, j < 72 → M 55 j = M 57 j) : RepM M 0 S := by
  obtain ⟨a1, a2, a3, a4, a5, a6, a7⟩ := h
  refine ⟨?_, ?_, ?_, fun t w ht hw => ?_, fun j hj => ?_, fun j hj => ?_, fun j hj => ?_⟩
  · rw [hc _ (by omega)]; exact a1
  · rw [h2]; exact a2
  · rw [hc _ (by omega)]; exact a3
  · rw [hc _ (by omega), ← a4 t w ht hw]; congr 1; omega
  · rw [hc _ (by omega), ← a5 j hj]
  · rw [hc _ (by omega), ← a6 j hj]
  · rw [hc _ (by omega), ← a7 j hj]
def TxA (c j : Nat) : Prop := LnC c j ∨ LnM c j ∨ (c = 2 ∧ j = 1) ∨ (c = 54 ∧ (j = 9 ∨ j = 10))
def TxC (c j : Nat) : Prop := LnC c j ∨ (c = 2 ∧ j = 1) ∨ (9 ≤ c ∧ c ≤ 13) ∨ c = 0 ∨ c = 30
def TxB (c j : Nat) : Prop := TxA c j ∨ (9 ≤ c ∧ c ≤ 13) ∨ (c = 0 ∧ j = 15) ∨ c = 30 ∨ (c = 54 ∧ (j = 2 ∨ j = 29)) ∨ (c = 55 ∧ j < 72) ∨ c = 71
theorem st_text : St_text Rel := by
  intro M h
  obtain ⟨⟨S, hW, hC, hM⟩, ⟨n, n160, t1, t2, t3⟩, hF, hSn, ⟨hk0, hk1⟩, hSh, hTo, hK⟩ := id h
  have ex : ∀ j, ∃ y : Nat, j < n → y < 128 ∧ M 3 j = nI y ∧ M 58 j = nI y := by
    intro j
    by_cases hj : j < n
    · obtain ⟨y, a, b, c⟩ := t3 j hj
      exact ⟨y, fun _ => ⟨a, b, c⟩⟩
    · exact ⟨0, fun z => absurd z hj⟩
  obtain ⟨b, hb⟩ := Classical.axiomOfChoice ex
  have hB : TpB b n := ⟨n160, fun j hj => (hb j hj).1⟩
  have hTc : TpC M b n := ⟨t1, fun j hj => (hb j hj).2.1⟩
  have hTm : TpM M b n := ⟨t2, fun j hj => (hb j hj).2.2⟩
  obtain ⟨o, ho, oC, oM⟩ := loopBoth hB (n + 1) 0 (S00, 0, 0, 0) 0 (by omega) (Nat.zero_le _) (Nat.le_refl _) ⟨wf_S00, by show (0 : Nat) < 2 ^ 10; omega, by show (0 : Nat) < 2 ^ 24; omega, Nat.zero_le _⟩
  obtain ⟨M0, a1, a2, a3, a4, a5⟩ := readAll_is hTc
  obtain ⟨r, M1, b1, b2, b3⟩ := oC FU M0 (by have := FU_gt (show 200 < 4096 by omega); omega) a3 a4 a5
  have fC : Fr LnC M M1 := a2.trans b2
  have eT : f_X5_text M = (if (up M1 2 1 0) 1 2 = 0 then (f_X2_become 9 4 (up M1 2 1 0)).bind fun r4 => lm (up r4 0 15 0) fun M5 => f_X5_text_58 FU r 0 M5 else some ((-10) - ((up M1 2 1 0) 1 3), up M1 2 1 0)) := by
    unfold f_X5_text
    rw [a1, show f_X1_readAll_36 FU 0 M0 = f_X1_readAll_36 FU (nI 0) M0 from rfl, b1]
    rfl
  cases o with
  | inr e =>
    obtain ⟨c1, c5, cs⟩ := ho
    obtain ⟨p1, p2⟩ := b3
    have g0 : Fr TxA M (up M1 2 1 0) := (fC.mono (Y := TxA) (fun c j x => Or.inl x)).up (by unfold TxA; omega)
    have e32 : (up M1 2 1 0) 1 2 = nI e.1 := by rw [up_cell (by omega), p1]
    have e33 : (up M1 2 1 0) 1 3 = nI e.2 := by rw [up_cell (by omega), p2]
    have e11 : (up M1 2 1 0) 2 1 = nI 0 := up_same _ _ _ _
    rw [e32, if_neg (fun z => absurd ((nI_lit 0 (by omega) (by omega)).mp z) (by omega)), e33] at eT
    have hK2 : RConst (up M1 2 1 0) := hK.fr g0 (fun j => by unfold TxA LnC LnM; omega) (fun j => by unfold TxA LnC LnM; omega) (fun j => by unfold TxA LnC LnM; omega) (by unfold TxA LnC LnM; omega)
    have gm : Fr (fun c j => LnC c j ∨ (c = 2 ∧ j = 1)) M (up M1 2 1 0) := (fC.mono (fun c j x => Or.inl x)).up (Or.inr ⟨rfl, rfl⟩)
    have hT2 : TpM (up M1 2 1 0) b n := hTm.fr gm (by unfold LnC; omega) (fun j => by unfold LnC; omega)
    generalize up M1 2 1 0 = M2 at *
    obtain ⟨N0, d1, d2, d3, d4, d5, d6⟩ := textM_is hB hT2 hK2
    obtain ⟨r2, N1, k1, k2, k3⟩ := oM FU N0 (by have := FU_gt (show 200 < 4096 by omega); omega) d3 d4 d5 d6
    obtain ⟨q1, q2⟩ := k3
    have eM : f_X6_text M2 = some (-10 - nI e.2, up (up N1 54 9 0) 54 10 (nI e.1)) := by
      rw [d1, show f_X6_text_57 FU 0 N0 = f_X6_text_57 FU (nI 0) N0 from rfl, k1]
      unfold f_X6_text_81
      simp only [lm]
      rw [up_slot (show (11 : Nat) ≠ 9 by omega), q1, up_slot (show (11 : Nat) ≠ 10 by omega), up_slot (show (11 : Nat) ≠ 9 by omega), q1, if_neg (fun z => absurd ((le_lit 0 (by omega) (by omega)).mp z) (by omega)), up_slot (show (12 : Nat) ≠ 10 by omega), up_slot (show (12 : Nat) ≠ 9 by omega), q2]
    have fN : Fr LnM M2 N1 := d2.trans k2
    have g1 : Fr TxA M (up (up N1 54 9 0) 54 10 (nI e.1)) := ((g0.trans (fN.mono (fun c j x => Or.inr (Or.inl x)))).up (by unfold TxA; omega)).up (by unfold TxA; omega)
    have x11 : (up (up N1 54 9 0) 54 10 (nI e.1)) 2 1 = nI 0 := by rw [up_cell (by omega), up_cell (by omega), fN 2 1 (by unfold LnM; omega), e11]
    have x32 : (up (up N1 54 9 0) 54 10 (nI e.1)) 1 2 = nI e.1 := by rw [up_cell (by omega), up_cell (by omega), fN 1 2 (by unfold LnM; omega), e32]
    have x9 : (up (up N1 54 9 0) 54 10 (nI e.1)) 54 9 = nI 0 := by rw [up_slot (by omega), up_same]; rfl
    have x10 : (up (up N1 54 9 0) 54 10 (nI e.1)) 54 10 = nI e.1 := up_same _ _ _ _
    generalize up (up N1 54 9 0) 54 10 (nI e.1) = M3 at *
    refine ⟨_, M2, M3, eT, eM, ⟨S, hW, hC.fr g1 (fun c j x y => by unfold TxA LnC LnM; omega), hM.fr hW g1 (fun j x y => by unfold TxA LnC LnM; omega) (by unfold TxA LnC LnM; omega)⟩, ⟨0, by omega, x11, x9, fun j hj => by omega⟩, by rw [x32, x10], hSn.fr g1 (by unfold TxA LnC LnM; omega) (fun c j x y => by unfold TxA LnC LnM; omega) (by unfold TxA LnC LnM; omega) (fun j => by unfold TxA LnC LnM; omega), ⟨?_, ?_⟩, fun k hk => ?_, ?_, ?_⟩
    · exact hk0.fr g1 (by unfold TxA LnC LnM; omega) (fun c j x y => by unfold TxA LnC LnM; omega) (by unfold TxA LnC LnM; omega) (fun j x y => by unfold TxA LnC LnM; omega) (by unfold TxA LnC LnM; omega)
    · exact hk1.fr g1 (by unfold TxA LnC LnM; omega) (fun c j x y => by unfold TxA LnC LnM; omega) (by unfold TxA LnC LnM; omega) (fun j x y => by unfold TxA LnC LnM; omega) (by unfold TxA LnC LnM; omega)
    · exact (hSh k hk).fr g1 (fun j => by unfold TxA LnC LnM; omega) (fun j => by unfold TxA LnC LnM; omega) (by unfold TxA LnC LnM; omega) (by unfold TxA LnC LnM; omega) (fun j x y => by unfold TxA LnC LnM; omega)
    · rw [g1 0 16 (by unfold TxA LnC LnM; omega), g1 54 35 (by unfold TxA LnC LnM; omega), hTo]
    · exact hK.fr g1 (fun j => by unfold TxA LnC LnM; omega) (fun j => by unfold TxA LnC LnM; omega) (fun j => by unfold TxA LnC LnM; omega) (by unfold TxA LnC LnM; omega)
  | inl z =>
    have hW2 : WF z.2 := ho
    obtain ⟨pr, p1, p2⟩ := b3
    have g0 : Fr TxB M (up M1 2 1 0) := (fC.mono (Y := TxB) (fun c j x => Or.inl (Or.inl x))).up (by unfold TxB TxA; omega)
    have e32 : (up M1 2 1 0) 1 2 = nI 0 := by rw [up_cell (by omega), p1]
    have e11 : (up M1 2 1 0) 2 1 = nI 0 := up_same _ _ _ _
    have p3 : RepC (up M1 2 1 0) 4 z.2 := p2.upM (by omega)
    rw [e32, if_pos (show nI 0 = (0 : Int32) from rfl)] at eT
    have gm : Fr (fun c j => LnC c j ∨ (c = 2 ∧ j = 1)) M (up M1 2 1 0) := (fC.mono (fun c j x => Or.inl x)).up (Or.inr ⟨rfl, rfl⟩)
    generalize up M1 2 1 0 = M2 at *
    obtain ⟨M3, c1, c2, c3⟩ := become_ok (k0 := 9) (k1 := 4) (by omega) p3 hW2.1 hW2.2.1
    rw [c1] at eT
    simp only [Option.bind_some, lm] at eT
    rw [text58, pr] at eT
    have g2 : Fr TxB M (up (up (up M3 0 15 0) 30 0 0) 30 1 0) := (((g0.trans (c2.mono (fun c j x => by unfold Sea5 at x; unfold TxB; omega))).up (by unfold TxB; omega)).up (by unfold TxB; omega)).up (by unfold TxB; omega)
    have gm2 : Fr TxC M (up (up (up M3 0 15 0) 30 0 0) 30 1 0) := ((((gm.mono (Y := TxC) (fun c j x => by rcases x with x | x; exact Or.inl x; exact Or.inr (Or.inl x))).trans (c2.mono (fun c j x => by unfold Sea5 at x; unfold TxC; omega))).up (by unfold TxC; omega)).up (by unfold TxC; omega)).up (by unfold TxC; omega)
    have e11' : (up (up (up M3 0 15 0) 30 0 0) 30 1 0) 2 1 = nI 0 := by rw [up_cell (by omega), up_cell (by omega), up_cell (by omega), c2 2 1 (by unfold Sea5; omega), e11]
    have e32' : (up (up (up M3 0 15 0) 30 0 0) 30 1 0) 1 2 = nI 0 := by rw [up_cell (by omega), up_cell (by omega), up_cell (by omega), c2 1 2 (by unfold Sea5; omega), e32]
    have e15 : (up (up (up M3 0 15 0) 30 0 0) 30 1 0) 0 15 = nI 0 := by rw [up_cell (by omega), up_cell (by omega), up_same]; rfl
    have e300 : (up (up (up M3 0 15 0) 30 0 0) 30 1 0) 30 0 = 0 := by rw [up_slot (by omega), up_same]
    have e301 : (up (up (up M3 0 15 0) 30 0 0) 30 1 0) 30 1 = 0 := up_same _ _ _ _
    have c4 : RepC (up (up (up M3 0 15 0) 30 0 0) 30 1 0) 9 z.2 := ((c3.upM (by omega)).upM (by omega)).upM (by omega)
    have hK2 : RConst (up (up (up M3 0 15 0) 30 0 0) 30 1 0) := hK.fr g2 (fun j => by unfold TxB TxA LnC LnM; omega) (fun j => by unfold TxB TxA LnC LnM; omega) (fun j => by unfold TxB TxA LnC LnM; omega) (by unfold TxB TxA LnC LnM; omega)
    have hT2 : TpM (up (up (up M3 0 15 0) 30 0 0) 30 1 0) b n := hTm.fr gm2 (by unfold TxC LnC; omega) (fun j => by unfold TxC LnC; omega)
    generalize up (up (up M3 0 15 0) 30 0 0) 30 1 0 = M4 at *
    obtain ⟨N0, d1, d2, d3, d4, d5, d6⟩ := textM_is hB hT2 hK2
    obtain ⟨r2, N1, k1, k2, kr, k3, k4⟩ := oM FU N0 (by have := FU_gt (show 200 < 4096 by omega); omega) d3 d4 d5 d6
    have fN : Fr LnM M4 N1 := d2.trans k2
    have q0 : Fr (fun c j => c = 54 ∧ (j = 9 ∨ j = 10)) N1 (up (up N1 54 9 0) 54 10 (nI 0)) := (Fr.rfl'.up (by omega)).up (by omega)
    have y9 : (up (up N1 54 9 0) 54 10 (nI 0)) 54 9 = nI 0 := by rw [up_slot (by omega), up_same]; rfl
    have y10 : (up (up N1 54 9 0) 54 10 (nI 0)) 54 10 = nI 0 := up_same _ _ _ _
    have y11 : (up (up N1 54 9 0) 54 10 (nI 0)) 54 11 = nI 0 := by rw [q0 54 11 (by omega), k3]
    have eM0 : f_X6_text M4 = f_X6_text_111 FU (nI z.1) 0 (up (up N1 54 9 0) 54 10 (nI 0)) := by
      rw [d1, show f_X6_text_57 FU 0 N0 = f_X6_text_57 FU (nI 0) N0 from rfl, k1, kr]
      unfold f_X6_text_81
      simp only [lm]
      rw [up_slot (show (11 : Nat) ≠ 9 by omega), k3, y11, if_pos (show nI 0 ≤ (0 : Int32) by decide)]
    have hP2 : RepP (up (up N1 54 9 0) 54 10 (nI 0)) z.2 := k4.fr q0 (fun j => by omega) (by omega)
    generalize up (up N1 54 9 0) 54 10 (nI 0) = N2 at *
    obtain ⟨N3, m1, m2, m3⟩ := text111 (x := nI z.1) FU 0 N2 (by omega) (FU_gt (by omega)) (fun j hj => by omega)
    have hP3 : RepP N3 z.2 := hP2.fr m2 (fun j => by unfold P72; omega) (by unfold P72; omega)
    have eM : f_X6_text M4 = some (nI z.1, up (up (up (up N3 54 2 (N3 54 4)) 54 29 0) 71 0 0) 71 1 0) := by
      rw [eM0, show f_X6_text_111 FU (nI z.1) 0 N2 = f_X6_text_111 FU (nI z.1) (nI 0) N2 from rfl, m1]
      unfold f_X6_text_135
      simp only [lm]
      rw [inb_lit 0 (by omega) (by omega), inb_lit 1 (by omega) (by omega), show (0 : Int32).toNatClampNeg = 0 from rfl, show (1 : Int32).toNatClampNeg = 1 from rfl, nar0]
    have r0 : Fr (fun c j => (c = 54 ∧ (j = 2 ∨ j = 29)) ∨ c = 71) N3 (up (up (up (up N3 54 2 (N3 54 4)) 54 29 0) 71 0 0) 71 1 0) := (((Fr.rfl'.up (by omega)).up (by omega)).up (by omega)).up (by omega)
    have z2 : (up (up (up (up N3 54 2 (N3 54 4)) 54 29 0) 71 0 0) 71 1 0) 54 2 = N3 54 4 := by rw [up_cell (by omega), up_cell (by omega), up_slot (by omega), up_same]
    have z29 : (up (up (up (up N3 54 2 (N3 54 4)) 54 29 0) 71 0 0) 71 1 0) 54 29 = nI 0 := by rw [up_cell (by omega), up_cell (by omega), up_same]; rfl
    have z710 : (up (up (up (up N3 54 2 (N3 54 4)) 54 29 0) 71 0 0) 71 1 0) 71 0 = 0 := by rw [up_slot (by omega), up_same]
    have z711 : (up (up (up (up N3 54 2 (N3 54 4)) 54 29 0) 71 0 0) 71 1 0) 71 1 = 0 := up_same _ _ _ _
    generalize up (up (up (up N3 54 2 (N3 54 4)) 54 29 0) 71 0 0) 71 1 0 = N4 at *
    have fAll : Fr (fun c j => LnM c j ∨ (c = 54 ∧ (j = 9 ∨ j = 10 ∨ j = 2 ∨ j = 29)) ∨ (c = 55 ∧ j < 72) ∨ c = 71) M4 N4 := (((fN.mono (fun c j x => Or.inl x)).trans (q0.mono (fun c j x => Or.inr (Or.inl (by omega))))).trans (m2.mono (fun c j x => Or.inr (Or.inr (Or.inl x))))).trans (r0.mono (fun c j x => by rcases x with x | x; exact Or.inr (Or.inl (by omega)); exact Or.inr (Or.inr (Or.inr x))))
    have g3 : Fr TxB M N4 := g2.trans (fAll.mono (fun c j x => by unfold LnM at x; unfold TxB TxA LnC LnM; omega))
    have hP4 : RepP N4 z.2 := hP3.fr r0 (fun j => by omega) (by omega)
    have hM4 : RepM N4 0 z.2 := RepM.ofP hP4 hW2.1 hW2.2.1 (by rw [z2, r0 54 4 (by omega)]) (fun j hj => by rw [r0 55 j (by omega), r0 57 j (by omega)]; exact m3 j hj)
    refine ⟨_, M4, N4, eT, eM, ⟨z.2, hW2, c4.fr fAll (fun c j x y => by unfold LnM; omega), hM4⟩, ⟨0, by omega, by rw [fAll 2 1 (by unfold LnM; omega), e11'], by rw [r0 54 9 (by omega), m2 54 9 (by unfold P72; omega), y9], fun j hj => by omega⟩, ?_, ⟨0, by omega, by rw [fAll 0 15 (by unfold LnM; omega), e15], z29, fun j hj => by omega⟩, ⟨Or.inl ⟨by rw [fAll 30 0 (by unfold LnM; omega), e300], z710⟩, Or.inl ⟨by rw [fAll 30 1 (by unfold LnM; omega), e301], z711⟩⟩, fun k hk => ?_, ?_, ?_⟩
    · rw [fAll 1 2 (by unfold LnM; omega), e32', r0 54 10 (by omega), m2 54 10 (by unfold P72; omega), y10]
    · exact (hSh k hk).fr g3 (fun j => by unfold TxB TxA LnC LnM; omega) (fun j => by unfold TxB TxA LnC LnM; omega) (by unfold TxB TxA LnC LnM; omega) (by unfold TxB TxA LnC LnM; omega) (fun j x y => by unfold TxB TxA LnC LnM; omega)
    · rw [g3 0 16 (by unfold TxB TxA LnC LnM; omega), g3 54 35 (by unfold TxB TxA LnC LnM; omega), hTo]
    · exact hK.fr g3 (fun j => by unfold TxB TxA LnC LnM; omega) (fun j => by unfold TxB TxA LnC LnM; omega) (fun j => by unfold TxB TxA LnC LnM; omega) (by unfold TxB TxA LnC LnM; omega)
