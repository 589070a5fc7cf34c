/-! counting bits -/
def popF : Nat → Nat → Nat
  | 0, _ => 0
  | n + 1, m => m % 2 + popF n (m / 2)
theorem popF_0 : ∀ k, popF k 0 = 0
  | 0 => rfl
  | k + 1 => by
    show 0 % 2 + popF k (0 / 2) = 0
    rw [Nat.zero_div, popF_0 k]
theorem popF_add : ∀ i k a, a < 2 ^ i → i < k → popF k (a + 2 ^ i) = popF k a + 1 := by
  intro i
  induction i with
  | zero =>
    intro k a ha hk
    obtain ⟨k, rfl⟩ : ∃ q, k = q + 1 := ⟨k - 1, by omega⟩
    have : a = 0 := by simpa using ha
    subst this
    show (0 + 2 ^ 0) % 2 + popF k ((0 + 2 ^ 0) / 2) = 0 % 2 + popF k (0 / 2) + 1
    rw [show (0 + 2 ^ 0) / 2 = 0 from rfl, popF_0]
  | succ i ih =>
    intro k a ha hk
    obtain ⟨k, rfl⟩ : ∃ q, k = q + 1 := ⟨k - 1, by omega⟩
    show (a + 2 ^ (i + 1)) % 2 + popF k ((a + 2 ^ (i + 1)) / 2) = a % 2 + popF k (a / 2) + 1
    rw [Nat.pow_succ] at ha ⊢
    rw [show (a + 2 ^ i * 2) % 2 = a % 2 by omega, show (a + 2 ^ i * 2) / 2 = a / 2 + 2 ^ i by omega, ih k (a / 2) (by omega) (by omega)]
    omega
def bmask (b : Nat → Bool) (K : Nat) : Nat := sumN (fun i => if b i then 2 ^ i else 0) K
def bcnt (b : Nat → Bool) (K : Nat) : Nat := sumN (fun i => if b i then 1 else 0) K
theorem bmask_lt (b : Nat → Bool) : ∀ K, bmask b K < 2 ^ K
  | 0 => Nat.zero_lt_one
  | K + 1 => by
    have := bmask_lt b K
    show bmask b K + (if b K then 2 ^ K else 0) < 2 ^ (K + 1)
    rw [Nat.pow_succ]
    split <;> omega
theorem bcnt_le (b : Nat → Bool) : ∀ K, bcnt b K ≤ K
  | 0 => Nat.le_refl 0
  | K + 1 => by
    have := bcnt_le b K
    show bcnt b K + (if b K then 1 else 0) ≤ K + 1
    split <;> omega
theorem pop_bmask (b : Nat → Bool) (n : Nat) : ∀ K, K ≤ n → popF n (bmask b K) = bcnt b K
  | 0, _ => popF_0 n
  | K + 1, h => by
    have ih := pop_bmask b n K (by omega)
    show popF n (bmask b K + (if b K then 2 ^ K else 0)) = bcnt b K + (if b K then 1 else 0)
    by_cases q : b K = true
    · rw [if_pos q, if_pos q, popF_add K n _ (bmask_lt b K) (by omega), ih]
    · rw [if_neg q, if_neg q, Nat.add_zero, Nat.add_zero, ih]
theorem popF_le : ∀ k m, popF k m ≤ k
  | 0, _ => Nat.le_refl 0
  | k + 1, m => by
    have := popF_le k (m / 2)
    show m % 2 + popF k (m / 2) ≤ k + 1
    omega
theorem bitsOf_ok {M : Mem} {m : Nat} (h : m < 2147483648) : f_X6_bitsOf (nI m) M = some (nI (popF 31 m)) := by
  have go : ∀ k n x y, y < 2 ^ k → k ≤ 31 → k < n → f_X6_bitsOf_4 (nI m) M n (nI x) (nI y) = some (nI (x + popF k y)) := by
    intro k
    induction k with
    | zero =>
      intro n x y hy _ hn
      obtain ⟨n, rfl⟩ : ∃ q, n = q + 1 := ⟨n - 1, by omega⟩
      have : y = 0 := by simpa using hy
      subst this
      unfold f_X6_bitsOf_4
      rw [if_pos (by decide)]
      rfl
    | succ k ih =>
      intro n x y hy hk hn
      obtain ⟨n, rfl⟩ : ∃ q, n = q + 1 := ⟨n - 1, by omega⟩
      unfold f_X6_bitsOf_4
      have hy2 : y < 2 ^ 31 := Nat.lt_of_lt_of_le hy (Nat.pow_le_pow_right (by omega) hk)
      by_cases q : y = 0
      · subst q
        rw [if_pos (by decide), popF_0]
        rfl
      · rw [if_neg (fun z => q (by have := (le_lit 0 (by omega) (by omega)).mp z; omega))]
        simp only [li]
        rw [nI_and1, nI_add, show (1 : Int32) = nI 1 from rfl, nI_shr (by omega) (by omega)]
        rw [Nat.pow_one, ih n (x + y % 2) (y / 2) (by rw [Nat.pow_succ] at hy; omega) (by omega) (by omega)]
        show some (nI (x + y % 2 + popF k (y / 2))) = some (nI (x + (y % 2 + popF k (y / 2))))
        rw [Nat.add_assoc]
  have := go 31 FU 0 m (by omega) (by omega) (FU_gt (by omega))
  rw [Nat.zero_add] at this
  exact this
/-! the windy hours -/
def windB (S : Sv) (h : Nat) : Bool := decide (S 4 h ≠ 0)
theorem windB_t {S : Sv} {h : Nat} : windB S h = true ↔ S 4 h ≠ 0 := decide_eq_true_iff
theorem listC {M : Mem} {S : Sv} (h : ∀ h, h < 24 → M 13 h = nI (S 4 h)) (hw : ∀ h, h < 24 → S 4 h < 5) : ∃ M1, f_X5_listWindyHours M = some (nI (bcnt (windB S) 24), M1) ∧ Fr (fun c _ => c = 50) M M1 ∧ ∀ i, i < 24 → windB S i = true → M1 50 (bcnt (windB S) i) = nI i := by
  have go : ∀ n i (M0 : Mem), i ≤ 24 → 24 - i < n → Fr (fun c _ => c = 50) M M0 → (∀ j, j < i → windB S j = true → M0 50 (bcnt (windB S) j) = nI j) → ∃ M1, f_X5_listWindyHours_4 n (nI (bcnt (windB S) i)) (nI i) M0 = some (nI (bcnt (windB S) 24), M1) ∧ Fr (fun c _ => c = 50) M M1 ∧ ∀ i, i < 24 → windB S i = true → M1 50 (bcnt (windB S) i) = nI i := by
    intro n
    induction n with
    | zero => intro i _ _ h; omega
    | succ n ih =>
      intro i M0 hi hn hf hl
      unfold f_X5_listWindyHours_4 f_X5_listWindyHours_35
      by_cases q : i = 24
      · subst q
        rw [if_pos (by decide)]
        exact ⟨M0, rfl, hf, hl⟩
      · have hi' : i < 24 := by omega
        have w5 := hw i hi'
        rw [if_neg (fun z => q (by have := (lit_le 24 (by omega) (by omega)).mp z; omega)), rd_ok hi' (by omega), hf 13 i (by omega), h i hi', show (1 : Int32) = nI 1 from rfl, nI_add, nI_add]
        have hb := bcnt_le (windB S) i
        by_cases hz : S 4 i = 0
        · rw [if_pos ((nI_lit 0 (by omega) (by omega)).mpr hz)]
          have hbf : ¬ windB S i = true := by rw [windB_t]; omega
          have e : bcnt (windB S) (i + 1) = bcnt (windB S) i := by
            show bcnt (windB S) i + (if windB S i then 1 else 0) = _
            rw [if_neg hbf]
            rfl
          have r := ih (i + 1) M0 (by omega) (by omega) hf (fun j hj hjw => by
            by_cases qj : j = i
            · subst qj; exact absurd hjw hbf
            · exact hl j (by omega) hjw)
          rw [e] at r
          exact r
        · rw [if_neg (fun z => hz ((nI_lit 0 (by omega) (by omega)).mp z)), inb_ok (by omega) (by omega)]
          simp only [lm]
          rw [nI_clamp (by omega)]
          have hbt : windB S i = true := by rw [windB_t]; exact hz
          have e : bcnt (windB S) (i + 1) = bcnt (windB S) i + 1 := by
            show bcnt (windB S) i + (if windB S i then 1 else 0) = _
            rw [if_pos hbt]
          have mono : ∀ j, j < i → windB S j = true → bcnt (windB S) j < bcnt (windB S) i := by
            intro j hj hjt
            have aux : ∀ d, bcnt (windB S) (j + 1) ≤ bcnt (windB S) (j + 1 + d) := by
              intro d
              induction d with
              | zero => exact Nat.le_refl _
              | succ d ihd => exact Nat.le_trans ihd (Nat.le_add_right _ _)
            have e1 : bcnt (windB S) (j + 1) = bcnt (windB S) j + 1 := by
              show bcnt (windB S) j + (if windB S j then 1 else 0) = _
              rw [if_pos hjt]
            have := aux (i - (j + 1))
            rw [show j + 1 + (i - (j + 1)) = i by omega] at this
            omega
          have r := ih (i + 1) (up M0 50 (bcnt (windB S) i) (nI i)) (by omega) (by omega) (hf.up rfl) (fun j hj hjw => by
            by_cases qj : j = i
            · subst qj; exact up_same _ _ _ _
            · rw [up_slot (by have := mono j (by omega) hjw; omega)]
              exact hl j (by omega) hjw)
          rw [e] at r
          exact r
  exact go FU 0 M (by omega) (FU_gt (by omega)) Fr.rfl' (fun j hj => by omega)
theorem windyM {M : Mem} {S : Sv} (h : RepM M 0 S) (hw : ∀ h, h < 24 → S 4 h < 5) : f_X6_windyHours M = some (nI (bmask (windB S) 24)) := by
  have go : ∀ n i, i ≤ 24 → 24 - i < n → f_X6_windyHours_4 M n (nI (bmask (windB S) i)) (nI i) = some (nI (bmask (windB S) 24)) := by
    intro n
    induction n with
    | zero => intro i _ h; omega
    | succ n ih =>
      intro i hi hn
      unfold f_X6_windyHours_4 f_X6_windyHours_30
      by_cases q : i = 24
      · subst q
        rw [if_pos (by decide)]
      · have hi' : i < 24 := by omega
        have w5 := hw i hi'
        have e2 := h.2.2.2.2.2.2 i hi'
        rw [show 0 + 47 + i = 47 + i by omega] at e2
        rw [if_neg (fun z => q (by have := (lit_le 24 (by omega) (by omega)).mp z; omega)), show (47 : Int32) = nI 47 from rfl, nI_add, rd_ok (by omega) (by omega), e2, one_shl (by omega)]
        have r := ih (i + 1) (by omega) (by omega)
        simp only [li]
        by_cases hz : S 4 i = 0
        · rw [if_pos ((le_lit 0 (by omega) (by omega)).mpr (by omega)), show (0 : Int32) = nI 0 from rfl, nI_or, Nat.or_zero, show (1 : Int32) = nI 1 from rfl, nI_add]
          have hbf : ¬ windB S i = true := by rw [windB_t]; omega
          have e : bmask (windB S) (i + 1) = bmask (windB S) i := by
            show bmask (windB S) i + (if windB S i then 2 ^ i else 0) = _
            rw [if_neg hbf]
            rfl
          rw [e] at r
          exact r
        · rw [if_neg (fun z => hz (by have := (le_lit 0 (by omega) (by omega)).mp z; omega)), nI_orP (bmask_lt _ _), show (1 : Int32) = nI 1 from rfl, nI_add]
          have hbt : windB S i = true := by rw [windB_t]; exact hz
          have e : bmask (windB S) (i + 1) = bmask (windB S) i + 2 ^ i := by
            show bmask (windB S) i + (if windB S i then 2 ^ i else 0) = _
            rw [if_pos hbt]
          rw [e] at r
          exact r
  exact go FU 0 (by omega) (FU_gt (by omega))
theorem bitsWindy {M : Mem} (S : Sv) : f_X6_bitsOf (nI (bmask (windB S) 24)) M = some (nI (bcnt (windB S) 24)) := by
  have := bmask_lt (windB S) 24
  rw [bitsOf_ok (by omega), pop_bmask _ _ _ (by omega)]
theorem st_rule : St_rule Rel := by
  intro M a h
  obtain ⟨⟨S, hW, hC, hM⟩, -⟩ := id h
  unfold f_X5_rule f_X6_rule
  by_cases h0 : a = 0
  · simp only [if_pos h0]
    refine ⟨_, _, rfl, ?_, h⟩
    rw [rd_lit 20 (by omega) (by omega), show M 55 20 = nI (S 0 0) from hM.1, hC.1]
  · simp only [if_neg h0]
    by_cases h1 : a = 1
    · simp only [if_pos h1]
      refine ⟨_, _, rfl, ?_, h⟩
      rw [hM.2.1, hC.2.1]
    · simp only [if_neg h1]
      by_cases h2 : a = 2
      · simp only [if_pos h2]
        refine ⟨_, _, rfl, ?_, h⟩
        rw [rd_lit 71 (by omega) (by omega), show M 55 71 = nI (S 0 2) from hM.2.2.1, hC.2.2.1]
      · simp only [if_neg h2]
        by_cases h3 : a = 3
        · simp only [if_pos h3]
          rw [estC hC hW.1]
          refine ⟨_, _, rfl, ?_, h⟩
          rw [estM hM hW.1]
          rfl
        · simp only [if_neg h3]
          by_cases h4 : a = 4
          · simp only [if_pos h4]
            obtain ⟨M1, l1, l2, l3⟩ := listC (M := M) (S := S) hC.2.2.2.2.2.2 hW.2.2.2.2.2.2
            rw [l1]
            refine ⟨_, M1, rfl, ?_, h.scr (l2.mono (fun c j q => by unfold Scr; omega))⟩
            have hM1 : RepM M1 0 S := hM.frC l2 (fun c j p q => by omega)
            rw [windyM hM1 hW.2.2.2.2.2.2]
            simp only [Option.bind_some]
            rw [bitsWindy]
            rfl
          · simp only [if_neg h4]
            exact ⟨_, _, rfl, rfl, h⟩
/-! count -/
def hkS (S : Sv) : Nat := sumN (fun i => S 2 (4 * i + 3)) (S 0 1)
def mvS (S : Sv) (K : Nat) : Nat := bcnt (fun r => decide (S 3 r ≠ 2)) K
theorem hooksC {M : Mem} {k : Nat} {S : Sv} (h : RepC M k S) (h0 : S 0 1 ≤ 4) : f_X2_hooks k M = some (nI (hkS S)) := by
  have go : ∀ n i, i ≤ S 0 1 → S 0 1 - i < n → f_X2_hooks_4 k M n (nI (sumN (fun t => S 2 (4 * t + 3)) i)) (nI i) = some (nI (hkS S)) := by
    intro n
    induction n with
    | zero => intro i _ h; omega
    | succ n ih =>
      intro i hi hn
      unfold f_X2_hooks_4
      rw [h.2.1]
      by_cases q : i = S 0 1
      · rw [if_pos ((nI_leN (by omega) (by omega)).mpr (by omega)), q]
        rfl
      · rw [if_neg (fun z => q (by have := (nI_leN (by omega) (by omega)).mp z; omega)), show (3 : Int32) = nI 3 from rfl, ofHeirC h h0 (by omega) (by omega)]
        simp only [Option.bind_some, li]
        rw [nI_add, show (1 : Int32) = nI 1 from rfl, nI_add]
        exact ih (i + 1) (by omega) (by omega)
  exact go FU 0 (by omega) (FU_gt (by omega))
theorem movingC {M : Mem} {k : Nat} {S : Sv} (h : RepC M k S) (hw : ∀ r, r < 10 → S 3 r < 5) : f_X2_moving k M = some (nI (mvS S 10)) := by
  have go : ∀ n i, i ≤ 10 → 10 - i < n → f_X2_moving_4 k M n (nI (mvS S i)) (nI i) = some (nI (mvS S 10)) := by
    intro n
    induction n with
    | zero => intro i _ h; omega
    | succ n ih =>
      intro i hi hn
      unfold f_X2_moving_4 f_X2_moving_23
      by_cases q : i = 10
      · subst q
        rw [if_pos (by decide)]
      · have w5 := hw i (by omega)
        rw [if_neg (fun z => q (by have := (lit_le 10 (by omega) (by omega)).mp z; omega)), rd_ok (by omega) (by omega), h.2.2.2.2.2.1 i (by omega), show (1 : Int32) = nI 1 from rfl, nI_add, nI_add]
        have r := ih (i + 1) (by omega) (by omega)
        have e : mvS S (i + 1) = mvS S i + (if decide (S 3 i ≠ 2) = true then 1 else 0) := rfl
        by_cases hz : S 3 i = 2
        · rw [if_pos ((nI_lit 2 (by omega) (by omega)).mpr hz)]
          rw [e, if_neg (by simp [hz])] at r
          exact r
        · rw [if_neg (fun z => hz ((nI_lit 2 (by omega) (by omega)).mp z))]
          rw [e, if_pos (by simp [hz])] at r
          exact r
  exact go FU 0 (by omega) (FU_gt (by omega))
theorem countM7 {M : Mem} {S : Sv} (h : RepM M 0 S) (h0 : S 0 1 ≤ 4) (a : Int32) : f_X6_count a M = f_X6_count_39 a M (nI (hkS S)) 0 := by
  have go : ∀ n i, i ≤ S 0 1 → S 0 1 - i < n → f_X6_count_7 a M n (nI (sumN (fun t => S 2 (4 * t + 3)) i)) 0 (nI i) = f_X6_count_39 a M (nI (hkS S)) 0 := by
    intro n
    induction n with
    | zero => intro i _ h; omega
    | succ n ih =>
      intro i hi hn
      unfold f_X6_count_7
      rw [h.2.1]
      by_cases q : i = S 0 1
      · rw [if_pos ((nI_leN (by omega) (by omega)).mpr (by omega)), q]
        rfl
      · have e := h.2.2.2.2.1 (4 * i + 3) (by omega)
        rw [show 0 + 21 + (4 * i + 3) = 21 + 4 * i + 3 by omega] at e
        rw [if_neg (fun z => q (by have := (nI_leN (by omega) (by omega)).mp z; omega)), show (21 : Int32) = nI 21 from rfl, show (4 : Int32) = nI 4 from rfl, show (3 : Int32) = nI 3 from rfl, nI_mulN, nI_add, nI_add, rd_ok (by omega) (by omega), e]
        simp only [li]
        rw [nI_add, show (1 : Int32) = nI 1 from rfl, nI_add]
        exact ih (i + 1) (by omega) (by omega)
  exact go FU 0 (by omega) (FU_gt (by omega))
theorem countM42 {M : Mem} {S : Sv} (h : RepM M 0 S) (hw : ∀ r, r < 10 → S 3 r < 5) (a x : Int32) : f_X6_count_39 a M x 0 = f_X6_count_76 a M x (nI (mvS S 10)) := by
  have go : ∀ n i, i ≤ 10 → 10 - i < n → f_X6_count_42 a M n x (nI (mvS S i)) (nI i) = f_X6_count_76 a M x (nI (mvS S 10)) := by
    intro n
    induction n with
    | zero => intro i _ h; omega
    | succ n ih =>
      intro i hi hn
      unfold f_X6_count_42 f_X6_count_68
      by_cases q : i = 10
      · subst q
        rw [if_pos (by decide)]
      · have w5 := hw i (by omega)
        have e2 := h.2.2.2.2.2.1 i (by omega)
        rw [show 0 + 37 + i = 37 + i by omega] at e2
        rw [if_neg (fun z => q (by have := (lit_le 10 (by omega) (by omega)).mp z; omega)), show (37 : Int32) = nI 37 from rfl, nI_add, rd_ok (by omega) (by omega), e2]
        simp only [li]
        rw [show (1 : Int32) = nI 1 from rfl, nI_add]
        have r := ih (i + 1) (by omega) (by omega)
        have e : mvS S (i + 1) = mvS S i + (if decide (S 3 i ≠ 2) = true then 1 else 0) := rfl
        by_cases hz : S 3 i = 2
        · rw [if_pos (by rw [hz]; rfl), nI_add0]
          rw [e, if_neg (by simp [hz])] at r
          exact r
        · rw [if_neg (fun z => hz (by
            rw [show (0 : Int32) = iI 0 from rfl, iI_eq (by omega) (by omega)] at z
            omega)), nI_add]
          rw [e, if_pos (by simp [hz])] at r
          exact r
  exact go FU 0 (by omega) (FU_gt (by omega))
theorem st_count : St_count Rel := by
  intro M a h
  obtain ⟨⟨S, hW, hC, hM⟩, ⟨n, -, t1, t2, -⟩, -, ⟨ns, -, u1, u2, -⟩, ⟨hk0, hk1⟩, hS, -⟩ := id h
  obtain ⟨s1, s2, sn, s3, s4, s5, -⟩ := hS 0 (by omega)
  obtain ⟨v0, p1, p2, p3⟩ := hk0.old
  obtain ⟨v1, q1, q2, q3⟩ := hk1.old
  unfold f_X5_count
  rw [countM7 hM hW.2.1, countM42 hM hW.2.2.2.2.2.1]
  unfold f_X6_count_76 f_X5_count_59 f_X6_count_135
  simp only [rd_lit 0 (show 0 < 2 by omega) (by omega), rd_lit 1 (show 1 < 2 by omega) (by omega), rd_lit 0 (show 0 < 4 by omega) (by omega), u1, u2, t1, t2, p1, p2, q1, q2, s4, s5, show M 32 1 = M 72 0 from s1, show M 32 2 = nI sn from s4]
  rw [hooksC hC hW.2.1, movingC hC hW.2.2.2.2.2.1]
  simp only [Option.bind_some]
  by_cases h0 : a = 0
  · simp only [if_pos h0]; exact ⟨_, rfl, rfl, h⟩
  simp only [if_neg h0]
  by_cases h1 : a = 1
  · simp only [if_pos h1]
    by_cases y0 : v0 = 0
    · simp only [if_pos y0]
      by_cases y1 : v1 = 0
      · simp only [if_pos y1]; exact ⟨_, rfl, rfl, h⟩
      · simp only [if_neg y1]; exact ⟨_, rfl, rfl, h⟩
    · simp only [if_neg y0]
      by_cases y1 : v1 = 0
      · simp only [if_pos y1]; exact ⟨_, rfl, rfl, h⟩
      · simp only [if_neg y1]; exact ⟨_, rfl, rfl, h⟩
  simp only [if_neg h1]
  by_cases h2 : a = 2
  · simp only [if_pos h2]; exact ⟨_, rfl, rfl, h⟩
  simp only [if_neg h2]
  by_cases h3 : a = 3
  · simp only [if_pos h3]
    by_cases y1 : M 72 0 = -4
    · simp only [if_pos y1]; exact ⟨_, rfl, rfl, h⟩
    · simp only [if_neg y1]; exact ⟨_, rfl, rfl, h⟩
  simp only [if_neg h3]
  by_cases h4 : a = 4
  · simp only [if_pos h4]; exact ⟨_, rfl, rfl, h⟩
  simp only [if_neg h4]
  by_cases h5 : a = 5
  · simp only [if_pos h5]; exact ⟨_, rfl, rfl, h⟩
  simp only [if_neg h5]
  exact ⟨_, rfl, rfl, h⟩
