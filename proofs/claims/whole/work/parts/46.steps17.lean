/-! fractions -/
theorem ll_eq {α : Type} (v : Int64) (f : Int64 → Option α) : ll v f = f v := rfl
theorem lm_eq {α : Type} (v : Mem) (f : Mem → Option α) : lm v f = f v := rfl
theorem lg_eq0 (x y : Int64) : lg_cmp x y = 0 ↔ x = y := by
  unfold lg_cmp
  by_cases h : x > y
  · rw [if_pos h]
    constructor
    · intro q; exact absurd q (by decide)
    · intro q; rw [q] at h; exact absurd h (Int64.lt_irrefl)
  · rw [if_neg h]
    by_cases h2 : x = y
    · rw [if_pos h2]
      exact ⟨fun _ => h2, fun _ => rfl⟩
    · rw [if_neg h2]
      exact ⟨fun q => absurd q (by decide), fun q => absurd q h2⟩
theorem lg_le0 {x y : Int64} : lg_cmp x y ≤ 0 ↔ x.toInt ≤ y.toInt := by
  have := lg_gt0 x y
  rw [Int32.le_iff_toInt_le]
  rw [Int32.lt_iff_toInt_lt] at this
  have e : (0 : Int32).toInt = 0 := by decide
  rw [e] at this ⊢
  omega
theorem lN0_eq {b : Nat} (h : b < 2 ^ 63) : lN b = 0 ↔ b = 0 := pk_lEQ (b := 0) h (by omega)
theorem lg_z {b : Nat} (h : b < 2 ^ 63) : lg_cmp (lN b) 0 = 0 ↔ b = 0 := (lg_eq0 _ _).trans (lN0_eq h)
theorem lg_z0 : lg_cmp (lN 0) 0 = 0 := (lg_z (by omega)).mpr rfl
theorem nzL_ok {α : Type} {k : Nat} {x : Option α} (h : 0 < k) (hk : k < 2 ^ 63) : nzL (lN k) x = x := by
  unfold nzL
  rw [if_neg (fun z => absurd ((lN0_eq hk).mp z) (by omega))]
theorem gcdC {q0 q2 : Int64} {M : Mem} : ∀ k f s a b, b < 2 ^ k → 2 * k + 1 ≤ f → s + 2 * k < 100 → a < 2 ^ 63 → b < 2 ^ 63 → f_X5_commonDivisor_9 q0 q2 M f (lN a) (lN b) (nI s) = some (lN (Nat.gcd b a)) := by
  intro k
  induction k with
  | zero =>
    intro f s a b hb hf hs ha hb2
    obtain ⟨f, rfl⟩ : ∃ g, f = g + 1 := ⟨f - 1, by omega⟩
    have : b = 0 := by simpa using hb
    subst this
    unfold f_X5_commonDivisor_9
    rw [if_neg (fun z => absurd ((lit_le 100 (by omega) (by omega)).mp z) (by omega)), if_pos lg_z0, Nat.gcd_zero_left]
  | succ k ih =>
    intro f s a b hb hf hs ha hb2
    obtain ⟨f, rfl⟩ : ∃ g, f = g + 1 + 1 := ⟨f - 2, by omega⟩
    unfold f_X5_commonDivisor_9
    rw [if_neg (fun z => absurd ((lit_le 100 (by omega) (by omega)).mp z) (by omega))]
    by_cases h0 : b = 0
    · subst h0
      rw [if_pos lg_z0, Nat.gcd_zero_left]
    · have hr := Nat.mod_lt a (show 0 < b by omega)
      rw [if_neg (fun z => h0 ((lg_z hb2).mp z)), nzL_ok (by omega) hb2, ll_eq, pk_lRem ha (by omega) hb2, show (1 : Int32) = nI 1 from rfl, nI_add]
      unfold f_X5_commonDivisor_9
      rw [if_neg (fun z => absurd ((lit_le 100 (by omega) (by omega)).mp z) (by omega)), Nat.gcd_rec b a]
      by_cases h1 : a % b = 0
      · rw [h1, if_pos lg_z0, Nat.gcd_zero_left]
      · have hr2 := Nat.mod_lt b (show 0 < a % b by omega)
        rw [if_neg (fun z => h1 ((lg_z (by omega)).mp z)), nzL_ok (by omega) (by omega), ll_eq, pk_lRem hb2 (by omega) (by omega), show (1 : Int32) = nI 1 from rfl, nI_add, Nat.gcd_rec (a % b) b]
        refine ih f (s + 1 + 1) (a % b) (b % (a % b)) ?_ (by omega) (by omega) (by omega) (by omega)
        have h2 : b % (a % b) ≤ b - a % b := by
          rw [Nat.mod_eq_sub_mod (show a % b ≤ b by omega)]
          exact Nat.mod_le _ _
        rw [Nat.pow_succ] at hb
        omega
theorem gcdM {q0 q2 : Int64} {M : Mem} {p : Int32} : ∀ k f a b, b < 2 ^ k → 2 * k + 1 ≤ f → a < 2 ^ 63 → b < 2 ^ 63 → f_X6_lowest_6 q0 q2 p M f (lN a) (lN b) = f_X6_lowest_31 q0 q2 p M (lN (Nat.gcd b a)) := by
  intro k
  induction k with
  | zero =>
    intro f a b hb hf ha hb2
    obtain ⟨f, rfl⟩ : ∃ g, f = g + 1 := ⟨f - 1, by omega⟩
    have : b = 0 := by simpa using hb
    subst this
    unfold f_X6_lowest_6
    rw [if_pos lg_z0, Nat.gcd_zero_left]
  | succ k ih =>
    intro f a b hb hf ha hb2
    obtain ⟨f, rfl⟩ : ∃ g, f = g + 1 + 1 := ⟨f - 2, by omega⟩
    unfold f_X6_lowest_6
    by_cases h0 : b = 0
    · subst h0
      rw [if_pos lg_z0, Nat.gcd_zero_left]
    · have hr := Nat.mod_lt a (show 0 < b by omega)
      rw [if_neg (fun z => h0 ((lg_z hb2).mp z)), nzL_ok (by omega) hb2, ll_eq, pk_lRem ha (by omega) hb2]
      unfold f_X6_lowest_6
      rw [Nat.gcd_rec b a]
      by_cases h1 : a % b = 0
      · rw [h1, if_pos lg_z0, Nat.gcd_zero_left]
      · have hr2 := Nat.mod_lt b (show 0 < a % b by omega)
        rw [if_neg (fun z => h1 ((lg_z (by omega)).mp z)), nzL_ok (by omega) (by omega), ll_eq, pk_lRem hb2 (by omega) (by omega), Nat.gcd_rec (a % b) b]
        refine ih f (a % b) (b % (a % b)) ?_ (by omega) (by omega) (by omega)
        have h2 : b % (a % b) ≤ b - a % b := by
          rw [Nat.mod_eq_sub_mod (show a % b ≤ b by omega)]
          exact Nat.mod_le _ _
        rw [Nat.pow_succ] at hb
        omega
def frR (up dn w : Nat) : Int64 := lN ((if w = 0 then up else dn) / Nat.gcd dn up)
theorem partC {M : Mem} {a b w : Nat} (ha : a < 2 ^ 62) (hb0 : 0 < b) (hb : b < 2 ^ 27) (hw : w < 2) : f_X5_partOfFraction (lN a) (lN b) (nI w) M = some (frR a b w) := by
  have hg : 0 < Nat.gcd b a := Nat.gcd_pos_of_pos_left a hb0
  have hg2 : Nat.gcd b a ≤ b := Nat.gcd_le_left a hb0
  unfold f_X5_partOfFraction f_X5_commonDivisor
  have e := gcdC (q0 := lN a) (q2 := lN b) (M := M) 27 FU 0 a b hb (by have := FU_gt (show 100 < 4096 by omega); omega) (by omega) (by omega) (by omega)
  rw [show f_X5_commonDivisor_9 (lN a) (lN b) M FU (lN a) (lN b) 0 = f_X5_commonDivisor_9 (lN a) (lN b) M FU (lN a) (lN b) (nI 0) from rfl, e]
  simp only [Option.bind_some]
  have fin : ∀ x : Nat, x < 2 ^ 63 → f_X5_partOfFraction_17 (lN a) (lN b) (nI w) M (lN (Nat.gcd b a)) (lN x) = some (lN (x / Nat.gcd b a)) := by
    intro x hx
    unfold f_X5_partOfFraction_17
    have e1 : (1 : Int64).toInt = 1 := by decide
    by_cases h : Nat.gcd b a = 1
    · rw [if_pos (lg_le0.mpr (by rw [pk_lT (by omega), e1]; omega)), h, Nat.div_one]
    · rw [if_neg (fun z => by have := lg_le0.mp z; rw [pk_lT (by omega), e1] at this; omega), nzL_ok hg (by omega), pk_lDiv hx hg (by omega)]
  unfold frR
  by_cases z : w = 0
  · rw [if_pos ((nI_lit 0 (by omega) (by omega)).mpr z), if_pos z]
    exact fin a (by omega)
  · rw [if_neg (fun y => z ((nI_lit 0 (by omega) (by omega)).mp y)), if_neg z]
    exact fin b (by omega)
theorem lowestM {M : Mem} {a b w : Nat} (ha : a < 2 ^ 62) (hb0 : 0 < b) (hb : b < 2 ^ 27) (hw : w < 2) : f_X6_lowest (lN a) (lN b) (nI w) M = some (frR a b w) := by
  have hg : 0 < Nat.gcd b a := Nat.gcd_pos_of_pos_left a hb0
  have hg2 : Nat.gcd b a ≤ b := Nat.gcd_le_left a hb0
  unfold f_X6_lowest
  rw [gcdM 27 FU a b hb (by have := FU_gt (show 100 < 4096 by omega); omega) (by omega) (by omega)]
  unfold f_X6_lowest_31 frR
  rw [nzL_ok hg (by omega), nzL_ok hg (by omega), pk_lDiv (by omega) hg (by omega), pk_lDiv (by omega) hg (by omega)]
  by_cases z : w = 0
  · rw [if_pos ((nI_lit 0 (by omega) (by omega)).mpr z), if_pos z]
  · rw [if_neg (fun y => z ((nI_lit 0 (by omega) (by omega)).mp y)), if_neg z]
/-! winds that drop -/
theorem bcnt_mono {b : Nat → Bool} {i : Nat} : ∀ d, bcnt b i ≤ bcnt b (i + d)
  | 0 => Nat.le_refl _
  | d + 1 => by
    have ih := bcnt_mono (b := b) (i := i) d
    by_cases q : b (i + d) = true
    · rw [← Nat.add_assoc, bcnt_t q]; omega
    · rw [← Nat.add_assoc, bcnt_f q]; exact ih
theorem bcnt_lt {b : Nat → Bool} {i j : Nat} (hi : b i = true) (h : i < j) : bcnt b i < bcnt b j := by
  have := bcnt_mono (b := b) (i := i + 1) (j - (i + 1))
  rw [show i + 1 + (j - (i + 1)) = j by omega, bcnt_t hi] at this
  omega
theorem bcnt_inj {b : Nat → Bool} {i j : Nat} (hi : b i = true) (hj : b j = true) (h : bcnt b i = bcnt b j) : i = j := by
  rcases Nat.lt_trichotomy i j with q | q | q
  · have := bcnt_lt hi q
    omega
  · exact q
  · have := bcnt_lt hj q
    omega
theorem bcnt_sur {b : Nat → Bool} {a : Nat} : ∀ K, a < bcnt b K → ∃ h, h < K ∧ b h = true ∧ bcnt b h = a
  | 0, h => absurd h (Nat.not_lt_zero _)
  | K + 1, h => by
    by_cases q : b K = true
    · rw [bcnt_t q] at h
      by_cases e : a = bcnt b K
      · exact ⟨K, by omega, q, e.symm⟩
      · obtain ⟨x, x1, x2, x3⟩ := bcnt_sur K (show a < bcnt b K by omega)
        exact ⟨x, by omega, x2, x3⟩
    · rw [bcnt_f q] at h
      obtain ⟨x, x1, x2, x3⟩ := bcnt_sur K h
      exact ⟨x, by omega, x2, x3⟩
def dpB (S : Sv) (code h : Nat) : Bool := windB S h && decide (code / 2 ^ bcnt (windB S) h % 2 = 1)
def drpS (S : Sv) (code : Nat) : Sv := fun g j => if g = 4 ∧ dpB S code j = true then 0 else S g j
theorem drpS_g {S : Sv} {code g j : Nat} (h : g ≠ 4) : drpS S code g j = S g j := if_neg (fun q => h q.1)
theorem drpS_y {S : Sv} {code h : Nat} (q : dpB S code h = true) : drpS S code 4 h = 0 := if_pos ⟨rfl, q⟩
theorem drpS_n {S : Sv} {code h : Nat} (q : ¬ dpB S code h = true) : drpS S code 4 h = S 4 h := if_neg (fun z => q z.2)
theorem WF.drp {S : Sv} (hW : WF S) (code : Nat) : WF (drpS S code) := by
  obtain ⟨a, b, c, d, e, f, g⟩ := hW
  refine ⟨?_, ?_, ?_, fun t ht => ?_, fun i hi => ?_, fun r hr => ?_, fun h hh => ?_⟩
  · rw [drpS_g (by omega)]; exact a
  · rw [drpS_g (by omega)]; exact b
  · rw [drpS_g (by omega)]; exact c
  · rw [drpS_g (by omega)] at ht
    have := d t ht
    rw [drpS_g (by omega), drpS_g (by omega), drpS_g (by omega), drpS_g (by omega), drpS_g (by omega)]
    exact this
  · rw [drpS_g (by omega)] at hi
    have := e i hi
    rw [drpS_g (by omega), drpS_g (by omega), drpS_g (by omega), drpS_g (by omega)]
    exact this
  · rw [drpS_g (by omega)]; exact f r hr
  · by_cases q : dpB S code h = true
    · rw [drpS_y q]; omega
    · rw [drpS_n q]; exact g h hh
def wtN (v code : Nat) : Nat → Nat
  | 0 => 1
  | a + 1 => wtN v code a * (if code / 2 ^ a % 2 = 1 then v else 10 - v)
theorem wtN_y {v code a : Nat} (h : code / 2 ^ a % 2 = 1) : wtN v code (a + 1) = wtN v code a * v := by
  show wtN v code a * (if _ then _ else _) = _
  rw [if_pos h]
theorem wtN_n {v code a : Nat} (h : ¬ code / 2 ^ a % 2 = 1) : wtN v code (a + 1) = wtN v code a * (10 - v) := by
  show wtN v code a * (if _ then _ else _) = _
  rw [if_neg h]
theorem wtN_le {v code : Nat} (hv : v ≤ 10) : ∀ a, wtN v code a ≤ 10 ^ a
  | 0 => Nat.le_refl 1
  | a + 1 => by
    have ih := wtN_le (v := v) (code := code) hv a
    rw [Nat.pow_succ]
    by_cases q : code / 2 ^ a % 2 = 1
    · rw [wtN_y q]; exact Nat.mul_le_mul ih hv
    · rw [wtN_n q]; exact Nat.mul_le_mul ih (by omega)
theorem p10_8 {k : Nat} (h : k ≤ 8) : 10 ^ k ≤ 100000000 := Nat.pow_le_pow_right (by omega) h
theorem p2_8 {k : Nat} (h : k ≤ 8) : 2 ^ k ≤ 256 := Nat.pow_le_pow_right (by omega) h
def WdC (S : Sv) (code a : Nat) (M : Mem) : Prop := ∀ h, h < 24 → (windB S h = true → bcnt (windB S) h < a → M 18 h = nI (drpS S code 4 h)) ∧ (¬ windB S h = true → M 18 h = nI (S 4 h))
theorem dropC {S : Sv} {v code k : Nat} (hk : bcnt (windB S) 24 = k) (k8 : k ≤ 8) (hv : v ≤ 10) (hcode : code < 2 ^ k) : ∀ f a M0, a ≤ k → k - a < f → (∀ h, h < 24 → M0 13 h = nI (S 4 h)) → (∀ h, h < 24 → windB S h = true → M0 50 (bcnt (windB S) h) = nI h) → WdC S code a M0 → ∃ M1, f_X5_dropWinds_6 (nI code) (nI k) (nI v) f (lN (wtN v code a)) (nI a) M0 = some (lN (wtN v code k), M1) ∧ Fr (fun c _ => c = 18) M0 M1 ∧ WdC S code k M1 := by
  have p2 := p2_8 k8
  intro f
  induction f with
  | zero => intro a _ _ q; omega
  | succ f ih =>
    intro a M0 ha hf h13 h50 hwd
    unfold f_X5_dropWinds_6
    by_cases q : a = k
    · subst q
      rw [if_pos ((nI_leN (by omega) (by omega)).mpr (by omega))]
      exact ⟨M0, rfl, Fr.rfl', hwd⟩
    · obtain ⟨h, hh, hb, hr⟩ := bcnt_sur (b := windB S) (a := a) 24 (by omega)
      have e50 := h50 h hh hb
      rw [hr] at e50
      rw [if_neg (fun z => q (by have := (nI_leN (by omega) (by omega)).mp z; omega)), rd_ok (by omega) (by omega), e50, nI_shr (by omega) (by omega), nI_and1]
      have go : ∀ (x : Nat), x = drpS S code 4 h → ∃ M1, f_X5_dropWinds_6 (nI code) (nI k) (nI v) f (lN (wtN v code (a + 1))) (nI (a + 1)) (up M0 18 h (nI x)) = some (lN (wtN v code k), M1) ∧ Fr (fun c _ => c = 18) M0 M1 ∧ WdC S code k M1 := by
        intro x hx
        have g0 : Fr (fun c _ => c = 18) M0 (up M0 18 h (nI x)) := Fr.rfl'.up (by omega)
        obtain ⟨M1, b1, b2, b3⟩ := ih (a + 1) (up M0 18 h (nI x)) (by omega) (by omega) (fun j hj => by rw [up_cell (by omega)]; exact h13 j hj) (fun j hj hb => by rw [up_cell (by omega)]; exact h50 j hj hb) (fun j hj => by
          obtain ⟨w1, w2⟩ := hwd j hj
          refine ⟨fun y1 y2 => ?_, fun y => ?_⟩
          · by_cases e : j = h
            · subst e
              rw [up_same, hx]
            · rw [up_slot e]
              have : bcnt (windB S) j ≠ a := fun z => e (bcnt_inj y1 hb (by omega))
              exact w1 y1 (by omega)
          · have e : j ≠ h := fun z => y (by rw [z]; exact hb)
            rw [up_slot e]
            exact w2 y)
        exact ⟨M1, b1, g0.trans b2, b3⟩
      have l2 := Nat.mod_lt (code / 2 ^ a) (show 0 < 2 by omega)
      by_cases e : code / 2 ^ a % 2 = 1
      · rw [if_pos ((nI_lit 1 (by omega) (by omega)).mpr e)]
        have g := go 0 (drpS_y (by unfold dpB; rw [hb, hr, decide_eq_true e]; rfl)).symm
        unfold f_X5_dropWinds_36 f_X5_dropWinds_66 f_X5_dropWinds_84
        rw [if_neg (show ¬ ((1 : Int32) = 0) by decide), inb_ok hh (by omega), nI_clamp (by omega), lm_eq, if_neg (show ¬ ((1 : Int32) = 0) by decide), ll_eq, nI_l (by omega), lN_mul, ← wtN_y e, show (1 : Int32) = nI 1 from rfl, nI_add]
        exact g
      · rw [if_neg (fun y => e ((nI_lit 1 (by omega) (by omega)).mp y))]
        have g := go (S 4 h) (drpS_n (by unfold dpB; rw [hb, hr, decide_eq_false e]; decide)).symm
        unfold f_X5_dropWinds_36 f_X5_dropWinds_66 f_X5_dropWinds_84
        rw [if_pos (show (0 : Int32) = 0 from rfl), rd_ok hh (by omega), h13 h hh, inb_ok hh (by omega), nI_clamp (by omega), lm_eq, if_pos (show (0 : Int32) = 0 from rfl), ll_eq, show (10 : Int32) = nI 10 from rfl, nI_subN hv, nI_l (by omega), lN_mul, ← wtN_n e, show (1 : Int32) = nI 1 from rfl, nI_add]
        exact g
def RepC0 (M : Mem) (k : Nat) (S : Sv) : Prop := M k 4 = nI (S 0 0) ∧ M k 5 = nI (S 0 1) ∧ M k 6 = nI (S 0 2) ∧ (∀ j, j < 5 * S 0 0 → M (k + 1) j = nI (S 1 j)) ∧ (∀ j, j < 4 * S 0 1 → M (k + 2) j = nI (S 2 j)) ∧ ∀ r, r < 10 → M (k + 3) r = nI (S 3 r)
theorem RepC.to0 {M : Mem} {k : Nat} {S : Sv} (h : RepC M k S) : RepC0 M k S := ⟨h.1, h.2.1, h.2.2.1, h.2.2.2.1, h.2.2.2.2.1, h.2.2.2.2.2.1⟩
theorem RepC0.drp {M : Mem} {S : Sv} {code k : Nat} (h : RepC0 M 14 S) (hk : bcnt (windB S) 24 = k) (hw : WdC S code k M) : RepC M 14 (drpS S code) := by
  obtain ⟨a, b, c, d, e, f⟩ := h
  refine ⟨?_, ?_, ?_, fun j hj => ?_, fun j hj => ?_, fun r hr => ?_, fun h hh => ?_⟩
  · rw [drpS_g (by omega)]; exact a
  · rw [drpS_g (by omega)]; exact b
  · rw [drpS_g (by omega)]; exact c
  · rw [drpS_g (by omega)] at hj ⊢; exact d j hj
  · rw [drpS_g (by omega)] at hj ⊢; exact e j hj
  · rw [drpS_g (by omega)]; exact f r hr
  · by_cases q : windB S h = true
    · have := bcnt_lt q hh
      exact (hw h hh).1 q (by omega)
    · have : drpS S code 4 h = S 4 h := drpS_n (by unfold dpB; rw [Bool.not_eq_true] at q; rw [q, Bool.false_and]; decide)
      rw [this]
      exact (hw h hh).2 q
theorem RepC0.fr {X : Nat → Nat → Prop} {M M1 : Mem} {k : Nat} {S : Sv} (h : RepC0 M k S) (hf : Fr X M M1) (hx : ∀ c j, k ≤ c → c ≤ k + 3 → ¬ X c j) : RepC0 M1 k S := by
  obtain ⟨h1, h2, h3, h4, h5, h6⟩ := h
  refine ⟨?_, ?_, ?_, fun j hj => ?_, fun j hj => ?_, fun j hj => ?_⟩
  · rw [hf _ _ (hx _ _ (by omega) (by omega)), h1]
  · rw [hf _ _ (hx _ _ (by omega) (by omega)), h2]
  · rw [hf _ _ (hx _ _ (by omega) (by omega)), h3]
  · rw [hf _ _ (hx _ _ (by omega) (by omega)), h4 j hj]
  · rw [hf _ _ (hx _ _ (by omega) (by omega)), h5 j hj]
  · rw [hf _ _ (hx _ _ (by omega) (by omega)), h6 j hj]
/-- the class's rows while winds drop -/
def DrC (S : Sv) (M : Mem) : Prop := (∀ h, h < 24 → M 13 h = nI (S 4 h)) ∧ (∀ h, h < 24 → windB S h = true → M 50 (bcnt (windB S) h) = nI h) ∧ RepC0 M 14 S ∧ ∀ h, h < 24 → ¬ windB S h = true → M 18 h = nI (S 4 h)
theorem DrC.cd {S : Sv} {M M1 : Mem} (h : DrC S M) (hf : Fr CD M M1) : DrC S M1 := by
  obtain ⟨a, b, c, d⟩ := h
  refine ⟨fun j hj => ?_, fun j hj hb => ?_, c.fr hf (fun c j x y => by unfold CD; omega), fun j hj hb => ?_⟩
  · rw [hf 13 j (by unfold CD; omega)]; exact a j hj
  · rw [hf 50 _ (by unfold CD; omega)]; exact b j hj hb
  · rw [hf 18 j (by unfold CD; omega)]; exact d j hj hb
theorem dropWinds_ok {M : Mem} {S : Sv} {v code k : Nat} (hk : bcnt (windB S) 24 = k) (k8 : k ≤ 8) (hv : v ≤ 10) (hcode : code < 2 ^ k) (hD : DrC S M) : ∃ M1, f_X5_dropWinds (nI code) (nI k) (nI v) M = some (lN (wtN v code k), M1) ∧ Fr (fun c _ => c = 18) M M1 ∧ RepC M1 14 (drpS S code) ∧ DrC S M1 := by
  obtain ⟨a, b, c, d⟩ := hD
  obtain ⟨M1, b1, b2, b3⟩ := dropC hk k8 hv hcode FU 0 M (by omega) (FU_gt (by omega)) a b (fun h hh => ⟨fun _ x => by omega, fun x => d h hh x⟩)
  have c1 : RepC0 M1 14 S := c.fr b2 (fun c j x y => by omega)
  refine ⟨M1, b1, b2, c1.drp hk b3, fun j hj => ?_, fun j hj hb => ?_, c1, fun j hj hb => (b3 j hj).2 hb⟩
  · rw [b2 13 j (by omega)]; exact a j hj
  · rw [b2 50 _ (by omega)]; exact b j hj hb
theorem allOdds_ok {M : Mem} {k : Nat} (k8 : k ≤ 8) : f_X5_allOdds (nI k) M = some (lN (10 ^ k)) := by
  have go : ∀ f a, a ≤ k → k - a < f → f_X5_allOdds_4 (nI k) M f (lN (10 ^ a)) (nI a) = some (lN (10 ^ k)) := by
    intro f
    induction f with
    | zero => intro a _ q; omega
    | succ f ih =>
      intro a ha hf
      unfold f_X5_allOdds_4
      by_cases q : a = k
      · subst q
        rw [if_pos ((nI_leN (by omega) (by omega)).mpr (by omega))]
      · rw [if_neg (fun z => q (by have := (nI_leN (by omega) (by omega)).mp z; omega)), ll_eq, show (10 : Int64) = lN 10 from rfl, lN_mul, ← Nat.pow_succ, show (1 : Int32) = nI 1 from rfl, nI_add]
        exact ih (a + 1) (by omega) (by omega)
  exact go FU 0 (by omega) (FU_gt (by omega))
def drF (S : Sv) (v k : Nat) (val : Nat → Nat) (c : Nat) : Nat := wtN v c k * val c
theorem drF_le {S : Sv} {v k : Nat} {val : Nat → Nat} (k8 : k ≤ 8) (hv : v ≤ 10) (hval : ∀ c, val c ≤ 396) {n : Nat} (hn : n ≤ 256) : sumN (drF S v k val) n ≤ 100000000 * 396 * 256 := by
  have h := sumN_le (f := drF S v k val) (b := 100000000 * 396) n (fun c _ => Nat.mul_le_mul (Nat.le_trans (wtN_le hv k) (p10_8 k8)) (hval c))
  exact Nat.le_trans h (Nat.mul_le_mul (Nat.le_refl _) hn)
def luV (S : Sv) (t i c : Nat) : Nat := if hkS1 (drpS S c) 24 t = (i : Int) then 1 else 0
def meV (S : Sv) (i c : Nat) : Nat := EH (drpS S c) i
theorem luV_le (S : Sv) (t i c : Nat) : luV S t i c ≤ 396 := by unfold luV; split <;> omega
theorem meV_le {S : Sv} (hW : WF S) (i c : Nat) : meV S i c ≤ 396 := EH_le (hW.drp c) i
theorem sum_s {f : Nat → Nat} {n : Nat} : sumN f (n + 1) = sumN f n + f n := rfl
theorem luckC {S : Sv} {v t i w k : Nat} (hW : WF S) (hv : v ≤ 10) (ht : t < S 0 0) (hi : i < 4) (hw : w < 2) (hk : bcnt (windB S) 24 = k) (k8 : k ≤ 8) : ∀ f c M0, c ≤ 2 ^ k → 2 ^ k - c < f → DrC S M0 → ∃ M1, f_X5_luck_80 (nI v) (nI t) (nI i) (nI w) f (nI k) (lN (sumN (drF S v k (luV S t i)) c)) (nI c) M0 = some (frR (sumN (drF S v k (luV S t i)) (2 ^ k)) (10 ^ k) w, M1) ∧ Fr CScr M0 M1 := by
  have p2 := p2_8 k8
  have p10 := p10_8 k8
  intro f
  induction f with
  | zero => intro a _ _ q; omega
  | succ f ih =>
    intro c M0 hc hf hD
    have sl := drF_le (S := S) (v := v) (k := k) (val := luV S t i) k8 hv (luV_le S t i) (show c ≤ 256 by omega)
    unfold f_X5_luck_80
    rw [one_shl (by omega)]
    by_cases q : c = 2 ^ k
    · rw [if_pos ((nI_leN (by omega) (by omega)).mpr (by omega)), ← q]
      unfold f_X5_luck_136
      rw [allOdds_ok k8]
      simp only [Option.bind_some]
      rw [partC (by omega) (Nat.pow_pos (by omega)) (by omega) hw]
      exact ⟨M0, rfl, Fr.rfl'⟩
    · obtain ⟨M1, a1, a2, a3, a4⟩ := dropWinds_ok hk k8 hv (show c < 2 ^ k by omega) hD
      have wl := wtN_le (v := v) (code := c) hv k
      rw [if_neg (fun z => q (by have := (nI_leN (by omega) (by omega)).mp z; omega)), a1]
      simp only [Option.bind_some]
      have e0 : (0 : Int64).toInt = 0 := by decide
      unfold f_X5_luck_130
      have g1 := a2.mono (fun c j x => (by unfold CScr; omega : CScr c j))
      have r := ih (c + 1)
      rw [sum_s] at r
      rw [show (1 : Int32) = nI 1 from rfl, nI_add]
      by_cases z : wtN v c k = 0
      · rw [if_pos (lg_le0.mpr (by rw [pk_lT (by omega), e0]; omega))]
        have : drF S v k (luV S t i) c = 0 := by unfold drF; rw [z, Nat.zero_mul]
        rw [this, Nat.add_zero] at r
        obtain ⟨M2, b1, b2⟩ := r M1 (by omega) (by omega) a4
        exact ⟨M2, b1, g1.trans b2⟩
      · obtain ⟨M2, b1, b2⟩ := gives_ok a3 (by omega) (hW.drp c) (show t < drpS S c 0 0 by rw [drpS_g (by omega)]; exact ht) hi
        rw [if_neg (fun y => by have := lg_le0.mp y; rw [pk_lT (by omega), e0] at this; omega), b1]
        simp only [Option.bind_some, ite_b2]
        rw [ll_eq, lN_add]
        by_cases y : hkS1 (drpS S c) 24 t = (i : Int)
        · have : drF S v k (luV S t i) c = wtN v c k := by unfold drF luV; rw [if_pos y, Nat.mul_one]
          rw [this] at r
          obtain ⟨M3, c1, c2⟩ := r M2 (by omega) (by omega) (a4.cd b2)
          rw [if_pos y]
          exact ⟨M3, c1, (g1.trans b2.cd).trans c2⟩
        · have : drF S v k (luV S t i) c = 0 := by unfold drF luV; rw [if_neg y, Nat.mul_zero]
          rw [this, Nat.add_zero] at r
          obtain ⟨M3, c1, c2⟩ := r M2 (by omega) (by omega) (a4.cd b2)
          rw [if_neg y]
          exact ⟨M3, c1, (g1.trans b2.cd).trans c2⟩
theorem meanC {S : Sv} {v i w k : Nat} (hW : WF S) (hv : v ≤ 10) (hi : i < 4) (hw : w < 2) (hk : bcnt (windB S) 24 = k) (k8 : k ≤ 8) : ∀ f c M0, c ≤ 2 ^ k → 2 ^ k - c < f → DrC S M0 → ∃ M1, f_X5_mean_68 (nI v) (nI i) (nI w) f (nI k) (lN (sumN (drF S v k (meV S i)) c)) (nI c) M0 = some (frR (sumN (drF S v k (meV S i)) (2 ^ k)) (10 ^ k) w, M1) ∧ Fr CScr M0 M1 := by
  have p2 := p2_8 k8
  have p10 := p10_8 k8
  intro f
  induction f with
  | zero => intro a _ _ q; omega
  | succ f ih =>
    intro c M0 hc hf hD
    have sl := drF_le (S := S) (v := v) (k := k) (val := meV S i) k8 hv (meV_le hW i) (show c ≤ 256 by omega)
    unfold f_X5_mean_68
    rw [one_shl (by omega)]
    by_cases q : c = 2 ^ k
    · rw [if_pos ((nI_leN (by omega) (by omega)).mpr (by omega)), ← q]
      unfold f_X5_mean_136
      rw [allOdds_ok k8]
      simp only [Option.bind_some]
      rw [partC (by omega) (Nat.pow_pos (by omega)) (by omega) hw]
      exact ⟨M0, rfl, Fr.rfl'⟩
    · obtain ⟨M1, a1, a2, a3, a4⟩ := dropWinds_ok hk k8 hv (show c < 2 ^ k by omega) hD
      have wl := wtN_le (v := v) (code := c) hv k
      rw [if_neg (fun z => q (by have := (nI_leN (by omega) (by omega)).mp z; omega)), a1]
      simp only [Option.bind_some]
      unfold f_X5_mean_130
      have g1 := a2.mono (fun c j x => (by unfold CScr; omega : CScr c j))
      have r := ih (c + 1)
      rw [sum_s] at r
      rw [show (1 : Int32) = nI 1 from rfl, nI_add]
      by_cases z : wtN v c k = 0
      · rw [if_pos ((lg_z (by omega)).mpr z)]
        have : drF S v k (meV S i) c = 0 := by unfold drF; rw [z, Nat.zero_mul]
        rw [this, Nat.add_zero] at r
        obtain ⟨M2, b1, b2⟩ := r M1 (by omega) (by omega) a4
        exact ⟨M2, b1, g1.trans b2⟩
      · obtain ⟨M2, b1, b2, b3⟩ := run_ok a3 (by omega) (hW.drp c)
        have el := EH_le (hW.drp c) i
        rw [if_neg (fun y => z ((lg_z (by omega)).mp y)), b1]
        simp only [Option.bind_some]
        rw [estHeirC (a3.cd (by omega) b2) (hW.drp c) b3 hi]
        simp only [Option.bind_some]
        rw [ll_eq, nI_l (by omega), lN_mul, lN_add]
        obtain ⟨M3, c1, c2⟩ := r M2 (by omega) (by omega) (a4.cd b2)
        exact ⟨M3, c1, (g1.trans b2.cd).trans c2⟩
