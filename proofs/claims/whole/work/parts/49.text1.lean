/-! TOKENS, as numbers: bytes b, n of them, from p on -/
def kn (c : Nat) : Nat := if 97 ≤ c ∧ c ≤ 122 then 1 else if 48 ≤ c ∧ c ≤ 57 then 2 else if c = 59 then 3 else 4
def skB (b : Nat → Nat) : Nat → Nat → Nat
  | 0, p => p
  | d + 1, p => if b p = 32 then skB b d (p + 1) else p
def rnB (k : Nat) (b : Nat → Nat) : Nat → Nat → Nat
  | 0, p => p
  | d + 1, p => if kn (b p) = k then rnB k b d (p + 1) else p
def vlB (b : Nat → Nat) (s : Nat) : Nat → Nat
  | 0 => 0
  | i + 1 => 10 * vlB b s i + (b (s + i) - 48)
def tS (b : Nat → Nat) (n p : Nat) : Nat := skB b (n - p) p
def tE (b : Nat → Nat) (n p : Nat) : Nat := if n ≤ tS b n p then tS b n p else if kn (b (tS b n p)) ≤ 2 then rnB (kn (b (tS b n p))) b (n - (tS b n p + 1)) (tS b n p + 1) else tS b n p + 1
def tK (b : Nat → Nat) (n p : Nat) : Nat := if n ≤ tS b n p then 0 else if kn (b (tS b n p)) = 2 ∧ 2 < tE b n p - tS b n p then 4 else kn (b (tS b n p))
def tV (b : Nat → Nat) (n p : Nat) : Nat := vlB b (tS b n p) (tE b n p - tS b n p)
theorem kn_b (c : Nat) : 1 ≤ kn c ∧ kn c ≤ 4 := by unfold kn; split; omega; split; omega; split <;> omega
theorem kn1 {c : Nat} : kn c = 1 ↔ 97 ≤ c ∧ c ≤ 122 := by unfold kn; split; omega; split; omega; split <;> omega
theorem kn2 {c : Nat} : kn c = 2 ↔ 48 ≤ c ∧ c ≤ 57 := by unfold kn; split; omega; split; omega; split <;> omega
theorem kn3 {c : Nat} : kn c = 3 ↔ c = 59 := by unfold kn; split; omega; split; omega; split <;> omega
theorem skB_b (b : Nat → Nat) : ∀ d p, p ≤ skB b d p ∧ skB b d p ≤ p + d
  | 0, p => ⟨Nat.le_refl _, Nat.le_refl _⟩
  | d + 1, p => by
    have ih := skB_b b d (p + 1)
    unfold skB
    split <;> omega
theorem rnB_b (k : Nat) (b : Nat → Nat) : ∀ d p, p ≤ rnB k b d p ∧ rnB k b d p ≤ p + d
  | 0, p => ⟨Nat.le_refl _, Nat.le_refl _⟩
  | d + 1, p => by
    have ih := rnB_b k b d (p + 1)
    unfold rnB
    split <;> omega
theorem rnB_k (k : Nat) (b : Nat → Nat) : ∀ d p j, p ≤ j → j < rnB k b d p → kn (b j) = k
  | 0, p, j, h1, h2 => by unfold rnB at h2; omega
  | d + 1, p, j, h1, h2 => by
    unfold rnB at h2
    by_cases q : kn (b p) = k
    · rw [if_pos q] at h2
      by_cases e : j = p
      · rw [e]; exact q
      · exact rnB_k k b d (p + 1) j (by omega) h2
    · rw [if_neg q] at h2
      omega
theorem tS_b {b : Nat → Nat} {n p : Nat} (h : p ≤ n) : p ≤ tS b n p ∧ tS b n p ≤ n := by
  have := skB_b b (n - p) p
  unfold tS
  omega
theorem tE_b {b : Nat → Nat} {n p : Nat} (h : p ≤ n) : tS b n p ≤ tE b n p ∧ tE b n p ≤ n ∧ (tS b n p < n → tS b n p < tE b n p) := by
  have s := tS_b (b := b) h
  unfold tE
  by_cases q : n ≤ tS b n p
  · rw [if_pos q]; omega
  · rw [if_neg q]
    by_cases z : kn (b (tS b n p)) ≤ 2
    · rw [if_pos z]
      have := rnB_b (kn (b (tS b n p))) b (n - (tS b n p + 1)) (tS b n p + 1)
      omega
    · rw [if_neg z]; omega
theorem tK_0 {b : Nat → Nat} {n p : Nat} : tK b n p = 0 ↔ n ≤ tS b n p := by
  have := kn_b (b (tS b n p))
  unfold tK
  by_cases q : n ≤ tS b n p
  · rw [if_pos q]; exact ⟨fun _ => q, fun _ => rfl⟩
  · rw [if_neg q]
    constructor
    · intro h
      split at h <;> omega
    · intro h; exact absurd h q
theorem tK_le {b : Nat → Nat} {n p : Nat} : tK b n p ≤ 4 := by
  have := kn_b (b (tS b n p))
  unfold tK
  split
  · omega
  · split <;> omega
theorem tE_lt {b : Nat → Nat} {n p : Nat} (h : p ≤ n) (hk : tK b n p ≠ 0) : p < tE b n p := by
  have s := tS_b (b := b) h
  have e := tE_b (b := b) h
  have : ¬ n ≤ tS b n p := fun z => hk (tK_0.mpr z)
  omega
/-- a NUMBER's figures -/
theorem tok_num {b : Nat → Nat} {n p : Nat} (h : p ≤ n) (hs : tS b n p < n) (hk : kn (b (tS b n p)) = 2) : ∀ j, tS b n p ≤ j → j < tE b n p → 48 ≤ b j ∧ b j ≤ 57 := by
  intro j h1 h2
  unfold tE at h2
  rw [if_neg (by omega), if_pos (by omega), hk] at h2
  by_cases e : j = tS b n p
  · rw [e]; exact kn2.mp hk
  · exact kn2.mp (rnB_k 2 b _ _ j (by omega) h2)
def TpB (b : Nat → Nat) (n : Nat) : Prop := n ≤ 160 ∧ ∀ j, j < n → b j < 128
def TpC (M : Mem) (b : Nat → Nat) (n : Nat) : Prop := M 2 1 = nI n ∧ ∀ j, j < n → M 3 j = nI (b j)
def TpM (M : Mem) (b : Nat → Nat) (n : Nat) : Prop := M 54 9 = nI n ∧ ∀ j, j < n → M 58 j = nI (b j)
theorem TpC.fr {M M1 : Mem} {b : Nat → Nat} {n : Nat} {X : Nat → Nat → Prop} (h : TpC M b n) (hf : Fr X M M1) (h1 : ¬ X 2 1) (h2 : ∀ j, ¬ X 3 j) : TpC M1 b n :=
  ⟨by rw [hf _ _ h1, h.1], fun j hj => by rw [hf _ _ (h2 j), h.2 j hj]⟩
theorem TpM.fr {M M1 : Mem} {b : Nat → Nat} {n : Nat} {X : Nat → Nat → Prop} (h : TpM M b n) (hf : Fr X M M1) (h1 : ¬ X 54 9) (h2 : ∀ j, ¬ X 58 j) : TpM M1 b n :=
  ⟨by rw [hf _ _ h1, h.1], fun j hj => by rw [hf _ _ (h2 j), h.2 j hj]⟩
/-! the class takes a TOKEN -/
theorem sortOf_ok {M : Mem} {c : Nat} (h : c < 128) : f_X4_sortOf (nI c) M = some (nI (kn c)) := by
  unfold f_X4_sortOf f_X4_sortOf_14 f_X4_sortOf_28 kn
  simp only [lt_lit 97 (show c < 2147483648 by omega) (by omega), lit_lt 122 (show c < 2147483648 by omega) (by omega), lt_lit 48 (show c < 2147483648 by omega) (by omega), lit_lt 57 (show c < 2147483648 by omega) (by omega), nI_lit 59 (show c < 2 ^ 31 by omega) (by omega)]
  by_cases h1 : c < 97
  · rw [if_pos h1, if_neg (show ¬ (97 ≤ c ∧ c ≤ 122) by omega)]
    by_cases h2 : c < 48
    · rw [if_pos h2, if_neg (show ¬ (48 ≤ c ∧ c ≤ 57) by omega), if_neg (show ¬ c = 59 by omega), if_neg (show ¬ c = 59 by omega)]; rfl
    · rw [if_neg h2]
      by_cases h3 : 57 < c
      · rw [if_pos h3, if_neg (show ¬ (48 ≤ c ∧ c ≤ 57) by omega)]
        by_cases h4 : c = 59
        · rw [if_pos h4, if_pos h4]; rfl
        · rw [if_neg h4, if_neg h4]; rfl
      · rw [if_neg h3, if_pos (show 48 ≤ c ∧ c ≤ 57 by omega)]; rfl
  · rw [if_neg h1]
    by_cases h2 : 122 < c
    · rw [if_pos h2, if_neg (show ¬ c < 48 by omega), if_pos (show 57 < c by omega), if_neg (show ¬ c = 59 by omega), if_neg (show ¬ (97 ≤ c ∧ c ≤ 122) by omega), if_neg (show ¬ (48 ≤ c ∧ c ≤ 57) by omega), if_neg (show ¬ c = 59 by omega)]; rfl
    · rw [if_neg h2, if_pos (show 97 ≤ c ∧ c ≤ 122 by omega)]; rfl
theorem skipC {b : Nat → Nat} {n : Nat} (hB : TpB b n) : ∀ d f p M0, p + d = n → d < f → TpC M0 b n → M0 2 2 = nI p → ∃ M1, f_X4_take_0 f M0 = f_X4_take_38 M1 ∧ Fr (fun c j => c = 2 ∧ j = 2) M0 M1 ∧ M1 2 2 = nI (skB b d p) := by
  have n160 := hB.1
  intro d
  induction d with
  | zero =>
    intro f p M0 hp hf hT h2
    obtain ⟨f, rfl⟩ : ∃ q, f = q + 1 := ⟨f - 1, by omega⟩
    unfold f_X4_take_0
    rw [hT.1, h2, if_pos ((nI_leN (by omega) (by omega)).mpr (by omega))]
    exact ⟨M0, rfl, Fr.rfl', h2⟩
  | succ d ih =>
    intro f p M0 hp hf hT h2
    obtain ⟨f, rfl⟩ : ∃ q, f = q + 1 := ⟨f - 1, by omega⟩
    have hb := hB.2 p (by omega)
    unfold f_X4_take_0 skB
    rw [hT.1, h2, if_neg (fun z => absurd ((nI_leN (by omega) (by omega)).mp z) (by omega)), rd_ok (by omega) (by omega), hT.2 p (by omega)]
    by_cases q : b p = 32
    · rw [if_pos ((nI_lit 32 (by omega) (by omega)).mpr q), if_pos q]
      simp only [lm]
      rw [show nI p + (1 : Int32) = nI (p + 1) by rw [show (1 : Int32) = nI 1 from rfl, nI_add]]
      have g0 : Fr (fun c j => c = 2 ∧ j = 2) M0 (up M0 2 2 (nI (p + 1))) := Fr.rfl'.up (by omega)
      obtain ⟨M1, a1, a2, a3⟩ := ih f (p + 1) _ (by omega) (by omega) (hT.fr g0 (by omega) (fun j => by omega)) (up_same _ _ _ _)
      exact ⟨M1, a1, g0.trans a2, a3⟩
    · rw [if_neg (fun z => q ((nI_lit 32 (by omega) (by omega)).mp z)), if_neg q]
      exact ⟨M0, rfl, Fr.rfl', h2⟩
theorem runC {b : Nat → Nat} {n k : Nat} (hB : TpB b n) (hk : k < 5) : ∀ d f p M0, p + d = n → d < f → TpC M0 b n → M0 2 2 = nI p → M0 2 3 = nI k → ∃ M1, f_X4_take_122 f 1 M0 = f_X4_take_169 M1 ∧ Fr (fun c j => c = 2 ∧ j = 2) M0 M1 ∧ M1 2 2 = nI (rnB k b d p) := by
  have n160 := hB.1
  intro d
  induction d with
  | zero =>
    intro f p M0 hp hf hT h2 h3
    obtain ⟨f, rfl⟩ : ∃ q, f = q + 1 := ⟨f - 1, by omega⟩
    unfold f_X4_take_122
    rw [if_neg (show ¬ ((1 : Int32) = 0) by decide), hT.1, h2, if_pos ((nI_leN (by omega) (by omega)).mpr (by omega))]
    exact ⟨M0, rfl, Fr.rfl', h2⟩
  | succ d ih =>
    intro f p M0 hp hf hT h2 h3
    obtain ⟨f, rfl⟩ : ∃ q, f = q + 1 := ⟨f - 1, by omega⟩
    have hb := hB.2 p (by omega)
    have hkn := kn_b (b p)
    unfold f_X4_take_122 rnB
    rw [if_neg (show ¬ ((1 : Int32) = 0) by decide), hT.1, h2, if_neg (fun z => absurd ((nI_leN (by omega) (by omega)).mp z) (by omega)), rd_ok (by omega) (by omega), hT.2 p (by omega), sortOf_ok hb]
    simp only [Option.bind_some]
    rw [h3]
    by_cases q : kn (b p) = k
    · rw [if_pos ((nI_eq (by omega) (by omega)).mpr q), if_pos q]
      simp only [lm]
      rw [show nI p + (1 : Int32) = nI (p + 1) by rw [show (1 : Int32) = nI 1 from rfl, nI_add]]
      have g0 : Fr (fun c j => c = 2 ∧ j = 2) M0 (up M0 2 2 (nI (p + 1))) := Fr.rfl'.up (by omega)
      obtain ⟨M1, a1, a2, a3⟩ := ih f (p + 1) _ (by omega) (by omega) (hT.fr g0 (by omega) (fun j => by omega)) (up_same _ _ _ _) (by rw [up_slot (by omega)]; exact h3)
      exact ⟨M1, a1, g0.trans a2, a3⟩
    · rw [if_neg (fun z => q ((nI_eq (by omega) (by omega)).mp z)), if_neg q]
      exact ⟨M0, rfl, Fr.rfl', h2⟩
theorem vlB_le {b : Nat → Nat} {s : Nat} : ∀ i, i ≤ 2 → (∀ j, j < i → b (s + j) ≤ 57) → vlB b s i ≤ 99 ∧ (i ≤ 1 → vlB b s i ≤ 9) ∧ (i = 0 → vlB b s i = 0)
  | 0, _, _ => ⟨by unfold vlB; omega, fun _ => by unfold vlB; omega, fun _ => rfl⟩
  | i + 1, h, g => by
    have ih := vlB_le i (by omega) (fun j hj => g j (by omega))
    have := g i (by omega)
    unfold vlB
    omega
theorem vl_step {V c : Nat} (hc : 48 ≤ c) : 10 * nI V + nI c - 48 = nI (10 * V + (c - 48)) := by
  rw [show (10 : Int32) = nI 10 from rfl, show (48 : Int32) = nI 48 from rfl, nI_mulN, nI_add, nI_subN (by omega)]
  congr 1
  omega
theorem weighC {b : Nat → Nat} {n s e L : Nat} (hB : TpB b n) (he : s + L = e) (hen : e ≤ n) (hL : L ≤ 2) (hd : ∀ j, j < L → 48 ≤ b (s + j) ∧ b (s + j) ≤ 57) : ∀ d f i M0, i + d = L → d < f → TpC M0 b n → M0 2 2 = nI e → M0 2 5 = nI (vlB b s i) → ∃ M1, f_X4_weighNumber_24 f (nI (s + i)) M0 = some M1 ∧ Fr (fun c j => c = 2 ∧ j = 5) M0 M1 ∧ M1 2 5 = nI (vlB b s L) := by
  have n160 := hB.1
  intro d
  induction d with
  | zero =>
    intro f i M0 hi hf hT h2 h5
    obtain ⟨f, rfl⟩ : ∃ q, f = q + 1 := ⟨f - 1, by omega⟩
    unfold f_X4_weighNumber_24
    rw [h2, if_pos ((nI_leN (by omega) (by omega)).mpr (by omega))]
    exact ⟨M0, rfl, Fr.rfl', by rw [show L = i by omega]; exact h5⟩
  | succ d ih =>
    intro f i M0 hi hf hT h2 h5
    obtain ⟨f, rfl⟩ : ∃ q, f = q + 1 := ⟨f - 1, by omega⟩
    have hb := hd i (by omega)
    unfold f_X4_weighNumber_24
    rw [h2, if_neg (fun z => absurd ((nI_leN (by omega) (by omega)).mp z) (by omega)), rd_ok (by omega) (by omega), hT.2 _ (by omega), h5, vl_step hb.1]
    simp only [lm]
    rw [show nI (s + i) + (1 : Int32) = nI (s + (i + 1)) by rw [show (1 : Int32) = nI 1 from rfl, nI_add, Nat.add_assoc]]
    have g0 : Fr (fun c j => c = 2 ∧ j = 5) M0 (up M0 2 5 (nI (10 * vlB b s i + (b (s + i) - 48)))) := Fr.rfl'.up (by omega)
    obtain ⟨M1, a1, a2, a3⟩ := ih f (i + 1) _ (by omega) (by omega) (hT.fr g0 (by omega) (fun j => by omega)) (by rw [up_slot (by omega)]; exact h2) (up_same _ _ _ _)
    exact ⟨M1, a1, g0.trans a2, a3⟩
def TkF (c j : Nat) : Prop := c = 2 ∧ 2 ≤ j ∧ j ≤ 5
theorem takeC {M : Mem} {b : Nat → Nat} {n p : Nat} (hB : TpB b n) (hT : TpC M b n) (hp : p ≤ n) (h2 : M 2 2 = nI p) : ∃ M1, f_X4_take M = some M1 ∧ Fr TkF M M1 ∧ M1 2 2 = nI (tE b n p) ∧ M1 2 3 = nI (tK b n p) ∧ M1 2 4 = nI (tS b n p) ∧ (tK b n p = 2 → M1 2 5 = nI (tV b n p)) := by
  have n160 := hB.1
  obtain ⟨M1, a1, a2, a3⟩ := skipC hB (n - p) FU p M (by omega) (FU_gt (by omega)) hT h2
  have sb := tS_b (b := b) hp
  have eb := tE_b (b := b) hp
  have hT1 := hT.fr a2 (by omega) (fun j => by omega)
  unfold f_X4_take
  rw [a1]
  unfold f_X4_take_38
  simp only [lm]
  rw [a3, show skB b (n - p) p = tS b n p from rfl]
  rw [show skB b (n - p) p = tS b n p from rfl] at a3
  generalize hs : tS b n p = s at *
  have g0 : Fr TkF M (up (up M1 2 4 (nI s)) 2 5 0) := ((a2.mono (fun c j x => by unfold TkF; omega)).up (by unfold TkF; omega)).up (by unfold TkF; omega)
  have g1 : (up (up M1 2 4 (nI s)) 2 5 0) 2 2 = nI s := by rw [up_slot (by omega), up_slot (by omega), a3]
  have g4 : (up (up M1 2 4 (nI s)) 2 5 0) 2 4 = nI s := by rw [up_slot (by omega), up_same]
  have g5 : (up (up M1 2 4 (nI s)) 2 5 0) 2 5 = nI 0 := up_same _ _ _ _
  have hT2 : TpC (up (up M1 2 4 (nI s)) 2 5 0) b n := hT.fr g0 (by unfold TkF; omega) (fun j => by unfold TkF; omega)
  generalize up (up M1 2 4 (nI s)) 2 5 0 = M2 at *
  rw [hT2.1, g1]
  by_cases q : n ≤ s
  · have eE : tE b n p = s := by unfold tE; rw [hs, if_pos q]
    have eK : tK b n p = 0 := tK_0.mpr (by rw [hs]; exact q)
    rw [if_pos ((nI_leN (by omega) (by omega)).mpr q)]
    unfold f_X4_take_79
    simp only [lm]
    rw [up_same, if_pos (show (0 : Int32) = 0 from rfl)]
    refine ⟨_, rfl, g0.up (by unfold TkF; omega), by rw [up_slot (by omega), g1, eE], by rw [up_same, eK]; rfl, by rw [up_slot (by omega), g4], fun z => by omega⟩
  · have hsn : s < n := by omega
    have hb := hB.2 s hsn
    have hkn := kn_b (b s)
    rw [if_neg (fun z => q ((nI_leN (by omega) (by omega)).mp z)), rd_ok (by omega) (by omega), hT2.2 s hsn, sortOf_ok hb]
    simp only [Option.bind_some]
    unfold f_X4_take_79
    simp only [lm]
    rw [up_same, if_neg (fun z => absurd ((nI_lit 0 (by omega) (by omega)).mp z) (by omega)), up_slot (show (2 : Nat) ≠ 3 by omega), g1, show nI s + (1 : Int32) = nI (s + 1) by rw [show (1 : Int32) = nI 1 from rfl, nI_add]]
    have k0 : Fr TkF M (up (up M2 2 3 (nI (kn (b s)))) 2 2 (nI (s + 1))) := (g0.up (by unfold TkF; omega)).up (by unfold TkF; omega)
    have k2 : (up (up M2 2 3 (nI (kn (b s)))) 2 2 (nI (s + 1))) 2 2 = nI (s + 1) := up_same _ _ _ _
    have k3 : (up (up M2 2 3 (nI (kn (b s)))) 2 2 (nI (s + 1))) 2 3 = nI (kn (b s)) := by rw [up_slot (by omega), up_same]
    have k4 : (up (up M2 2 3 (nI (kn (b s)))) 2 2 (nI (s + 1))) 2 4 = nI s := by rw [up_slot (by omega), up_slot (by omega), g4]
    have k5 : (up (up M2 2 3 (nI (kn (b s)))) 2 2 (nI (s + 1))) 2 5 = nI 0 := by rw [up_slot (by omega), up_slot (by omega), g5]
    have hT3 : TpC (up (up M2 2 3 (nI (kn (b s)))) 2 2 (nI (s + 1))) b n := hT.fr k0 (by unfold TkF; omega) (fun j => by unfold TkF; omega)
    generalize up (up M2 2 3 (nI (kn (b s)))) 2 2 (nI (s + 1)) = M3 at *
    rw [k3]
    unfold f_X4_take_116 f_X4_take_121
    by_cases z : kn (b s) ≤ 2
    · have eE : tE b n p = rnB (kn (b s)) b (n - (s + 1)) (s + 1) := by unfold tE; rw [hs, if_neg q, if_pos z]
      obtain ⟨M4, b1, b2, b3⟩ := runC hB (show kn (b s) < 5 by omega) (n - (s + 1)) FU (s + 1) M3 (by omega) (FU_gt (by omega)) hT3 k2 k3
      have hT4 := hT3.fr b2 (by omega) (fun j => by omega)
      rw [← eE] at b3
      have m0 : Fr TkF M M4 := k0.trans (b2.mono (fun c j x => by unfold TkF; omega))
      have m3 : M4 2 3 = nI (kn (b s)) := by rw [b2 2 3 (by omega), k3]
      have m4 : M4 2 4 = nI s := by rw [b2 2 4 (by omega), k4]
      have m5 : M4 2 5 = nI 0 := by rw [b2 2 5 (by omega), k5]
      have cc : (if nI (kn (b s)) = 1 then f_X4_take_122 FU 1 M3 else if nI (kn (b s)) = 2 then f_X4_take_122 FU 1 M3 else f_X4_take_122 FU 0 M3) = f_X4_take_122 FU 1 M3 := by
        by_cases y : kn (b s) = 1
        · rw [if_pos ((nI_lit 1 (by omega) (by omega)).mpr y)]
        · rw [if_neg (fun x => y ((nI_lit 1 (by omega) (by omega)).mp x)), if_pos ((nI_lit 2 (by omega) (by omega)).mpr (by omega))]
      rw [cc, b1]
      unfold f_X4_take_169
      rw [m3]
      by_cases y : kn (b s) = 2
      · rw [if_pos ((nI_lit 2 (by omega) (by omega)).mpr y)]
        unfold f_X4_weighNumber
        rw [b3, m4, nI_subN (by omega)]
        by_cases x : tE b n p - s ≤ 2
        · have eK : tK b n p = 2 := by unfold tK; rw [hs, if_neg q, if_neg (by omega), y]
          have eV : tV b n p = vlB b s (tE b n p - s) := by unfold tV; rw [hs]
          rw [if_pos ((le_lit 2 (by omega) (by omega)).mpr x)]
          simp only [li]
          obtain ⟨M5, c1, c2, c3⟩ := weighC (e := tE b n p) (s := s) (L := tE b n p - s) hB (by omega) (by omega) x (fun j hj => tok_num hp (by rw [hs]; exact hsn) (by rw [hs]; exact y) (s + j) (by rw [hs]; omega) (by omega)) (tE b n p - s) FU 0 M4 (by omega) (FU_gt (by omega)) hT4 b3 m5
          rw [Nat.add_zero] at c1
          rw [c1]
          simp only [Option.bind_some]
          refine ⟨M5, rfl, m0.trans (c2.mono (fun c j x => by unfold TkF; omega)), by rw [c2 2 2 (by omega), b3], by rw [c2 2 3 (by omega), m3, eK, y], by rw [c2 2 4 (by omega), m4], fun _ => by rw [c3, eV]⟩
        · have eK : tK b n p = 4 := by unfold tK; rw [hs, if_neg q, if_pos (by omega)]
          rw [if_neg (fun w => x ((le_lit 2 (by omega) (by omega)).mp w))]
          simp only [lm, Option.bind_some]
          refine ⟨_, rfl, m0.up (by unfold TkF; omega), by rw [up_slot (by omega), b3], by rw [up_same, eK]; rfl, by rw [up_slot (by omega), m4], fun w => by omega⟩
      · have eK : tK b n p = kn (b s) := by unfold tK; rw [hs, if_neg q, if_neg (by omega)]
        rw [if_neg (fun x => y ((nI_lit 2 (by omega) (by omega)).mp x))]
        exact ⟨M4, rfl, m0, b3, by rw [m3, eK], m4, fun w => by omega⟩
    · have eE : tE b n p = s + 1 := by unfold tE; rw [hs, if_neg q, if_neg z]
      have eK : tK b n p = kn (b s) := by unfold tK; rw [hs, if_neg q, if_neg (by omega)]
      obtain ⟨fm, hfm⟩ := FU_succ
      have e0 : f_X4_take_122 FU 0 M3 = f_X4_take_169 M3 := by
        rw [hfm]
        unfold f_X4_take_122
        rw [if_pos (show (0 : Int32) = 0 from rfl)]
      rw [if_neg (fun x => absurd ((nI_lit 1 (by omega) (by omega)).mp x) (by omega)), if_neg (fun x => absurd ((nI_lit 2 (by omega) (by omega)).mp x) (by omega)), e0]
      unfold f_X4_take_169
      rw [k3, if_neg (fun x => absurd ((nI_lit 2 (by omega) (by omega)).mp x) (by omega))]
      exact ⟨M3, rfl, k0, by rw [k2, eE], by rw [k3, eK], k4, fun w => by omega⟩
