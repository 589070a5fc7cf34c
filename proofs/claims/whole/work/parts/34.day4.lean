/-! the model's day -/
def drB (M : Mem) (h : Nat) : Prop := ((M 54 25) >>> ((nI h) &&& 31)) &&& 1 = 1
def RepE (M : Mem) (p : Nat) (S : Sv) : Prop := M 55 (p + 20) = nI (S 0 0) ∧ M 54 2 = nI (S 0 1) ∧ M 55 (p + 71) = nI (S 0 2) ∧
  (∀ t w, t < S 0 0 → w < 5 → M 55 (p + 4 * w + t) = nI (S 1 (5 * t + w))) ∧ (∀ j, j < 4 * S 0 1 → M 55 (p + 21 + j) = nI (S 2 j)) ∧ (∀ r, r < 10 → M 55 (p + 37 + r) = iI ((S 3 r : Int) - 2)) ∧ (∀ h, h < 24 → (drB M h ∧ S 4 h = 0) ∨ (¬ drB M h ∧ M 55 (p + 47 + h) = nI (S 4 h))) ∧ (M 56 0 = 1 ∧ M 56 1 = 0 ∧ M 56 2 = 2 ∧ M 56 3 = 3)
theorem drB_0 {M : Mem} {h : Nat} (h0 : M 54 25 = 0) (hh : h < 24) : ¬ drB M h := by
  unfold drB
  rw [h0, show (0 : Int32) = nI 0 from rfl, nI_shr (by omega) (by omega), nI_and1, Nat.zero_div]
  decide
theorem RepM.E {M : Mem} {p : Nat} {S : Sv} (h : RepM M p S) (hK : RConst M) : RepE M p S := by
  obtain ⟨h1, h2, h3, h4, h5, h6, h7⟩ := h
  exact ⟨h1, h2, h3, h4, h5, h6, fun i hi => Or.inr ⟨drB_0 hK.2.2.2 hi, h7 i hi⟩, hK.1⟩
def MD (c _j : Nat) : Prop := 61 ≤ c ∧ c ≤ 66
theorem RepE.fr {M M1 : Mem} {p : Nat} {S : Sv} (h : RepE M p S) (hf : Fr MD M M1) : RepE M1 p S := by
  obtain ⟨h1, h2, h3, h4, h5, h6, h7, h8⟩ := h
  have e : ∀ c j, c ≤ 60 → M1 c j = M c j := fun c j hc => hf c j (by unfold MD; omega)
  refine ⟨?_, ?_, ?_, fun t w ht hw => ?_, fun j hj => ?_, fun j hj => ?_, fun j hj => ?_, ?_⟩
  · rw [e _ _ (by omega), h1]
  · rw [e _ _ (by omega), h2]
  · rw [e _ _ (by omega), h3]
  · rw [e _ _ (by omega), h4 t w ht hw]
  · rw [e _ _ (by omega), h5 j hj]
  · rw [e _ _ (by omega), h6 j hj]
  · unfold drB
    rw [e 54 25 (by omega), e 55 _ (by omega)]
    exact h7 j hj
  · rw [e 56 0 (by omega), e 56 1 (by omega), e 56 2 (by omega), e 56 3 (by omega)]
    exact h8
theorem wdgM {M : Mem} {p : Nat} {S : Sv} (h : RepE M p S) {k : Nat} (hk : k < 4) : M 56 k = iI (wdg k) := by
  obtain ⟨-, -, -, -, -, -, -, a, b, c, d⟩ := h
  match k, hk with
  | 0, _ => rw [a]; rfl
  | 1, _ => rw [b]; rfl
  | 2, _ => rw [c]; rfl
  | 3, _ => rw [d]; rfl
  | k + 4, h => omega
def MD4 (t c j : Nat) : Prop := 61 ≤ c ∧ c ≤ 64 ∧ j = t
def Sl4 (M : Mem) (t : Nat) (u : TS) : Prop := M 61 t = iI u.1 ∧ M 62 t = iI u.2.1 ∧ M 63 t = nI u.2.2.1 ∧ M 64 t = iI u.2.2.2
theorem drift_end {M : Mem} {p t h : Nat} {S : Sv} {u : TS} (hW : WF S) (ht : t < 4) (hu : Afl u) (hs : Sl4 M t u) {a b c : Int32} {M0 : Mem} (hM0 : M0 = up M 61 t (iI (hx S t h u))) (e : a + (b + c) = iI (hy S t h u)) : ∃ M1, f_X6_drifts_152 (nI p) (nI t) (nI h) (nI t) a b c M0 = some M1 ∧ Fr (MD4 t) M M1 ∧ Sl4 M1 t (hourS S t h u) := by
  obtain ⟨s1, s2, s3, s4⟩ := hs
  obtain ⟨⟨b1, b2⟩, b3, b4⟩ := hxy_b hW hu t h
  subst hM0
  unfold f_X6_drifts_152
  rw [e]
  unfold hourS
  generalize hx S t h u = X at *
  generalize hy S t h u = Y at *
  rw [inb_ok ht (by omega), nI_clamp (by omega)]
  simp only [lm]
  rw [rd_ok ht (by omega), up_same, show (0 : Int32) = iI 0 from rfl]
  have c3 : ∃ M1, f_X6_drifts_257 (nI p) (nI t) (nI h) (up (up M 61 t (iI X)) 62 t (iI Y)) = some M1 ∧ Fr (MD4 t) M M1 ∧ Sl4 M1 t (X, Y, 3, (h : Int)) := by
    unfold f_X6_drifts_257
    rw [inb_ok ht (by omega), nI_clamp (by omega)]
    simp only [lm]
    rw [inb_ok ht (by omega)]
    refine ⟨_, rfl, (((Fr.rfl'.up ?_).up ?_).up ?_).up ?_, ?_, ?_, ?_, ?_⟩
    · unfold MD4; omega
    · unfold MD4; omega
    · unfold MD4; omega
    · unfold MD4; omega
    · rw [up_cell (by omega), up_cell (by omega), up_cell (by omega), up_same]
    · rw [up_cell (by omega), up_cell (by omega), up_same]
    · rw [up_cell (by omega), up_same]; rfl
    · rw [up_same, iI_nI]
  by_cases q : Y ≤ 0
  · rw [if_neg (fun z => absurd ((iI_lt (by omega) (by omega)).mp z) (by omega)), if_pos q, inb_ok ht (by omega), rd_ok ht (by omega), rd_ok ht (by omega), rd_ok ht (by omega), up_cell (show (61 : Nat) ≠ 62 by omega), up_cell (show (61 : Nat) ≠ 62 by omega), up_same]
    have fin : ∀ (Z : Int32), Z = iI (max 0 (min 9 X)) → ∃ M1, f_X6_drifts_211 (nI p) (nI t) (nI h) (nI t) Z (up (up (up M 61 t (iI X)) 62 t (iI Y)) 62 t (iI 0)) = some M1 ∧ Fr (MD4 t) M M1 ∧ Sl4 M1 t (max 0 (min 9 X), 0, 2, (h : Int)) := by
      intro Z hZ
      unfold f_X6_drifts_211
      rw [inb_ok ht (by omega), nI_clamp (by omega)]
      simp only [lm]
      rw [inb_ok ht (by omega), inb_ok ht (by omega)]
      refine ⟨_, rfl, (((((Fr.rfl'.up ?_).up ?_).up ?_).up ?_).up ?_).up ?_, ?_, ?_, ?_, ?_⟩
      · unfold MD4; omega
      · unfold MD4; omega
      · unfold MD4; omega
      · unfold MD4; omega
      · unfold MD4; omega
      · unfold MD4; omega
      · rw [up_cell (by omega), up_cell (by omega), up_same, hZ]
      · rw [up_cell (by omega), up_cell (by omega), up_cell (by omega), up_same]
      · rw [up_cell (by omega), up_same]; rfl
      · rw [up_same, iI_nI]
    by_cases q1 : 0 ≤ X
    · rw [if_pos ((iI_le (by omega) (by omega)).mpr q1)]
      by_cases q2 : X ≤ 9
      · rw [show (9 : Int32) = iI 9 from rfl, if_pos ((iI_le (by omega) (by omega)).mpr q2)]
        exact fin _ (by congr 1; omega)
      · rw [show (9 : Int32) = iI 9 from rfl, if_neg (fun z => q2 ((iI_le (by omega) (by omega)).mp z))]
        exact fin _ (by congr 1; omega)
    · rw [if_neg (fun z => q1 ((iI_le (by omega) (by omega)).mp z))]
      exact fin _ (by congr 1; omega)
  · rw [if_pos ((iI_lt (by omega) (by omega)).mpr (by omega)), if_neg q, rd_ok ht (by omega), up_same, show (9 : Int32) = iI 9 from rfl, rd_ok ht (by omega), up_cell (show (61 : Nat) ≠ 62 by omega), up_same]
    by_cases q1 : 9 < Y
    · rw [if_pos ((iI_lt (by omega) (by omega)).mpr q1), if_pos (Or.inl q1)]
      exact c3
    · rw [if_neg (fun z => q1 ((iI_lt (by omega) (by omega)).mp z)), in_lit _ 0 9 (by omega) (by omega), iI_toInt (by omega) (by omega)]
      simp only [Option.bind_some]
      by_cases q2 : X < 0 ∨ 9 < X
      · rw [b2_f (by omega), if_pos (show (0 : Int32) = iI 0 from rfl), if_pos (Or.inr q2)]
        exact c3
      · rw [b2_t (by omega), if_neg (show ¬ ((1 : Int32) = iI 0) by decide), if_neg (by omega)]
        refine ⟨_, rfl, (Fr.rfl'.up ?_).up ?_, ?_, ?_, ?_, ?_⟩
        · unfold MD4; omega
        · unfold MD4; omega
        · rw [up_cell (by omega), up_same]
        · rw [up_same]
        · rw [up_cell (by omega), up_cell (by omega), s3, hu.2.2.1]
        · rw [up_cell (by omega), up_cell (by omega), s4]
theorem drift_ok {M : Mem} {p t h : Nat} {S : Sv} {u : TS} (hE : RepE M p S) (hp : p + 72 ≤ 360) (hW : WF S) (ht : t < S 0 0) (hh : h < 24) (hs : Sl4 M t u) (hu : Afl u) : ∃ M1, f_X6_drifts (nI p) (nI t) (nI h) M = some M1 ∧ Fr (MD4 t) M M1 ∧ Sl4 M1 t (hourS S t h u) := by
  have t4 : t < 4 := Nat.lt_of_lt_of_le ht hW.1
  have hkd := (hW.2.2.2.1 t ht).1
  have hwd := hW.2.2.2.2.2.2 h hh
  have hph := hW.2.2.1
  have w1 : f_X6_drifts (nI p) (nI t) (nI h) M = f_X6_drifts_27 (nI p) (nI t) (nI h) (nI (S 4 h)) M := by
    unfold f_X6_drifts
    have hz := hE.2.2.2.2.2.2.1 h hh
    unfold drB at hz
    rcases hz with ⟨a, b⟩ | ⟨a, b⟩
    · rw [if_pos a, b]; rfl
    · rw [if_neg a, show (47 : Int32) = nI 47 from rfl, nI_add, nI_add, rd_ok (by omega) (by omega), b]
  rw [w1]
  unfold f_X6_drifts_27
  have e0 := hE.2.2.2.1 t 0 ht (by omega)
  rw [show p + 4 * 0 + t = p + t by omega, Nat.add_zero] at e0
  rw [nI_add, rd_ok (by omega) (by omega), e0, rd_ok hkd (by omega), wdgM hE hkd, show (71 : Int32) = nI 71 from rfl, nI_add, rd_ok (by omega) (by omega), hE.2.2.1, nI_add]
  have e : ∀ a : Nat, a < 100 → nI a / 3 - nI a / 3 / 2 * 2 = nI (a / 3 % 2) := by
    intro a ha
    rw [show (3 : Int32) = nI 3 from rfl, show (2 : Int32) = nI 2 from rfl, nI_div (by omega) (by omega), nI_div (by omega) (by omega), nI_mulN, nI_subN (by omega)]
    congr 1
    omega
  rw [e _ (by omega)]
  have key : ∀ T : Int32, T = iI (tideS S h) → ∃ M1, f_X6_drifts_67 (nI p) (nI t) (nI h) (nI (S 4 h)) (iI (wdg (S 1 (5 * t)))) T M = some M1 ∧ Fr (MD4 t) M M1 ∧ Sl4 M1 t (hourS S t h u) := by
    intro T hT
    subst hT
    unfold f_X6_drifts_67
    have u1 := hu.1
    have u2 := hu.2.1
    have ey : M 62 t = nI u.2.1.toNat := by
      rw [hs.2.1, ← iI_nI]
      congr 1
      omega
    rw [rd_ok t4 (by omega), rd_ok t4 (by omega), ey, show (37 : Int32) = nI 37 from rfl, nI_add, nI_add, rd_ok (by omega) (by omega), hE.2.2.2.2.2.1 _ (by omega), hs.1]
    simp only [nI_lit 2 (show S 4 h < 2 ^ 31 by omega) (by omega), nI_lit 4 (show S 4 h < 2 ^ 31 by omega) (by omega)]
    have k2 : ∀ G : Int32, G = iI (wdg (S 1 (5 * t)) * wX (S 4 h)) → ∃ M1, f_X6_drifts_116 (nI p) (nI t) (nI h) (nI (S 4 h)) (iI (wdg (S 1 (5 * t)))) (iI (tideS S h)) (nI t) (iI u.1) (iI ((S 3 u.2.1.toNat : Int) - 2)) G M = some M1 ∧ Fr (MD4 t) M M1 ∧ Sl4 M1 t (hourS S t h u) := by
      intro G hG
      subst hG
      unfold f_X6_drifts_116
      rw [inb_ok t4 (by omega), nI_clamp (by omega)]
      simp only [lm]
      rw [rd_ok t4 (by omega), up_cell (show (62 : Nat) ≠ 61 by omega), hs.2.1, iI_add, iI_add]
      have eM : up M 61 t (iI (u.1 + ((S 3 u.2.1.toNat : Int) - 2 + wdg (S 1 (5 * t)) * wX (S 4 h)))) = up M 61 t (iI (hx S t h u)) := by
        congr 2
        unfold hx
        omega
      simp only [nI_lit 3 (show S 4 h < 2 ^ 31 by omega) (by omega), nI_lit 1 (show S 4 h < 2 ^ 31 by omega) (by omega)]
      have k3 : ∀ H : Int32, H = iI (wdg (S 1 (5 * t)) * wY (S 4 h)) → ∃ M1, f_X6_drifts_152 (nI p) (nI t) (nI h) (nI t) (iI u.2.1) (iI (tideS S h)) H (up M 61 t (iI (u.1 + ((S 3 u.2.1.toNat : Int) - 2 + wdg (S 1 (5 * t)) * wX (S 4 h))))) = some M1 ∧ Fr (MD4 t) M M1 ∧ Sl4 M1 t (hourS S t h u) := by
        intro H hH
        subst hH
        refine drift_end hW t4 hu hs eM ?_
        rw [iI_add, iI_add]
        congr 1
        unfold hy
        omega
      by_cases q3 : S 4 h = 3
      · rw [if_pos q3]
        exact k3 _ (by rw [q3, show wY 3 = 1 from rfl, Int.mul_one])
      · rw [if_neg q3]
        by_cases q1 : S 4 h = 1
        · rw [if_pos q1]
          exact k3 _ (by rw [q1, show wY 1 = -1 from rfl, iI_neg]; congr 1; omega)
        · rw [if_neg q1]
          exact k3 _ (by unfold wY; rw [if_neg q3, if_neg q1, Int.mul_zero]; rfl)
    by_cases q2 : S 4 h = 2
    · rw [if_pos q2]
      exact k2 _ (by rw [q2, show wX 2 = 1 from rfl, Int.mul_one])
    · rw [if_neg q2]
      by_cases q4 : S 4 h = 4
      · rw [if_pos q4]
        exact k2 _ (by rw [q4, show wX 4 = -1 from rfl, iI_neg]; congr 1; omega)
      · rw [if_neg q4]
        exact k2 _ (by unfold wX; rw [if_neg q2, if_neg q4, Int.mul_zero]; rfl)
  by_cases q : (h + S 0 2) / 3 % 2 = 0
  · rw [if_pos ((nI_lit 0 (by omega) (by omega)).mpr q)]
    exact key _ (by unfold tideS; rw [if_pos q]; rfl)
  · rw [if_neg (fun z => q ((nI_lit 0 (by omega) (by omega)).mp z))]
    exact key _ (by unfold tideS; rw [if_neg q]; rfl)
theorem hooks_ok {M : Mem} {p t h : Nat} {x : Int} {S : Sv} (hE : RepE M p S) (hp : p + 72 ≤ 360) (hW : WF S) (ht : t < 4) (hh : h < 24) (hx0 : 0 ≤ x) (hx9 : x ≤ 9) (hs : M 61 t = iI x) : f_X6_hooks (nI p) (nI t) (nI h) M = some (if (nearS S x h).1 = -4 then M else up (up (up M 63 t 1) 65 t (iI (nearS S x h).1)) 66 t (nI h)) := by
  have hH := hW.2.1
  have last : ∀ b : Int, -4 ≤ b → b < 100 → f_X6_hooks_177 (nI p) (nI t) (nI h) (iI b) M = some (if b = -4 then M else up (up (up M 63 t 1) 65 t (iI b)) 66 t (nI h)) := by
    intro b hb hb2
    unfold f_X6_hooks_177
    rw [show (-4 : Int32) = iI (-4) from rfl]
    by_cases q : b = -4
    · rw [if_pos ((iI_eq (by omega) (by omega)).mpr q), if_pos q]
    · rw [if_neg (fun z => q ((iI_eq (by omega) (by omega)).mp z)), if_neg q, inb_ok ht (by omega), nI_clamp (by omega)]
      simp only [lm]
      rw [inb_ok ht (by omega), inb_ok ht (by omega)]
  have bnd : ∀ i, i ≤ S 0 1 → (-4 ≤ (foldN (NS S x h) (dS S x) i).1 ∧ (foldN (NS S x h) (dS S x) i).1 < 100) ∧ 0 ≤ (foldN (NS S x h) (dS S x) i).2 ∧ (foldN (NS S x h) (dS S x) i).2 ≤ 100 := by
    intro i
    induction i with
    | zero =>
      intro _
      show (-4 ≤ (-4 : Int) ∧ (-4 : Int) < 100) ∧ 0 ≤ (100 : Int) ∧ (100 : Int) ≤ 100
      omega
    | succ i ih =>
      intro hi
      have := ih (by omega)
      unfold foldN
      have d0 : 0 ≤ dS S x i := by unfold dS; omega
      split
      · next c => exact ⟨⟨by simp only; omega, by simp only; omega⟩, d0, by simp only; omega⟩
      · exact this
  have go : ∀ f i, i ≤ S 0 1 → S 0 1 - i < f → f_X6_hooks_11 (nI p) (nI t) (nI h) f (iI (foldN (NS S x h) (dS S x) i).1) (iI (foldN (NS S x h) (dS S x) i).2) (nI i) M = f_X6_hooks_177 (nI p) (nI t) (nI h) (iI (nearS S x h).1) M := by
    intro f
    induction f with
    | zero => intro i _ h; omega
    | succ f ih =>
      intro i hi hf
      unfold f_X6_hooks_11
      rw [hE.2.1]
      by_cases q : i = S 0 1
      · subst q
        rw [if_pos ((nI_leN (by omega) (by omega)).mpr (by omega))]
        rfl
      · have hi' : i < S 0 1 := by omega
        have wi := hW.2.2.2.2.1 i hi'
        have bi := bnd i (by omega)
        have r0 := hE.2.2.2.2.1 (4 * i) (by omega)
        have r1 := hE.2.2.2.2.1 (4 * i + 1) (by omega)
        have r2 := hE.2.2.2.2.1 (4 * i + 2) (by omega)
        have r3 := hE.2.2.2.2.1 (4 * i + 3) (by omega)
        rw [← Nat.add_assoc] at r1 r2 r3
        rw [if_neg (fun z => q (by have := (nI_leN (by omega) (by omega)).mp z; omega)), show (21 : Int32) = nI 21 from rfl, show (4 : Int32) = nI 4 from rfl, nI_mulN, nI_add, nI_add]
        simp only [li]
        rw [rd_ok (by omega) (by omega), rd_ok ht (by omega), rd_ok ht (by omega), rd_ok (by omega) (by omega), rd_ok (by omega) (by omega), rd_ok ht (by omega), hs, r0]
        have e : foldN (NS S x h) (dS S x) (i + 1) = (if NS S x h i ∧ dS S x i < (foldN (NS S x h) (dS S x) i).2 then ((i : Int), dS S x i) else foldN (NS S x h) (dS S x) i) := rfl
        have r := ih (i + 1) (by omega) (by omega)
        rw [e] at r
        have d0 : 0 ≤ dS S x i ∧ dS S x i < 100 := by unfold dS; omega
        have step : ∀ d : Int32, d = iI (dS S x i) → f_X6_hooks_78 (nI p) (nI t) (nI h) (f_X6_hooks_11 (nI p) (nI t) (nI h) f) (iI (foldN (NS S x h) (dS S x) i).1) (iI (foldN (NS S x h) (dS S x) i).2) (nI i) (nI (p + 21 + 4 * i)) d M = f_X6_hooks_177 (nI p) (nI t) (nI h) (iI (nearS S x h).1) M := by
          intro d hd
          subst hd
          unfold f_X6_hooks_78
          rw [show (1 : Int32) = nI 1 from rfl, show (2 : Int32) = nI 2 from rfl, show (3 : Int32) = nI 3 from rfl, nI_add, nI_add, nI_add, rd_ok (by omega) (by omega), rd_ok (by omega) (by omega), rd_ok (by omega) (by omega), r1, r2, r3, in_int, nI_toInt (by omega), nI_toInt (by omega), nI_toInt (by omega)]
          simp only [Option.bind_some, ite_b2]
          have no : ¬ (NS S x h i ∧ dS S x i < (foldN (NS S x h) (dS S x) i).2) → f_X6_hooks_11 (nI p) (nI t) (nI h) f (iI (foldN (NS S x h) (dS S x) i).1) (iI (foldN (NS S x h) (dS S x) i).2) (nI i + 1) M = f_X6_hooks_177 (nI p) (nI t) (nI h) (iI (nearS S x h).1) M := by
            intro hno
            rw [if_neg hno] at r
            rw [show (1 : Int32) = nI 1 from rfl, nI_add]
            exact r
          have f0 : f_X6_hooks_126 (nI p) (nI t) (nI h) (f_X6_hooks_11 (nI p) (nI t) (nI h) f) (iI (foldN (NS S x h) (dS S x) i).1) (iI (foldN (NS S x h) (dS S x) i).2) (nI i) (iI (dS S x i)) M = f_X6_hooks_11 (nI p) (nI t) (nI h) f (iI (foldN (NS S x h) (dS S x) i).1) (iI (foldN (NS S x h) (dS S x) i).2) (nI i + 1) M := by
            unfold f_X6_hooks_126 f_X6_hooks_127 f_X6_hooks_146 f_X6_hooks_148 f_X6_hooks_167 f_X6_hooks_169
            rw [if_pos rfl, if_pos rfl]
          by_cases w1 : (S 2 (4 * i + 1) : Int) ≤ (h : Int) ∧ (h : Int) ≤ (S 2 (4 * i + 2) : Int)
          · rw [if_pos w1, ← iI_nI (S 2 (4 * i + 3))]
            by_cases w2 : (S 2 (4 * i + 3) : Int) < dS S x i
            · rw [if_pos ((iI_lt (by omega) (by omega)).mpr w2), f0]
              exact no (fun y => by have := y.1.2; omega)
            · rw [if_neg (fun y => w2 ((iI_lt (by omega) (by omega)).mp y))]
              unfold f_X6_hooks_127 f_X6_hooks_146 f_X6_hooks_148 f_X6_hooks_167 f_X6_hooks_169
              rw [if_neg (show ¬ (nI 1 = 0) by decide), if_neg (show ¬ (nI 1 = 0) by decide), if_neg (show ¬ (nI 1 = 0) by decide)]
              by_cases w3 : (foldN (NS S x h) (dS S x) i).2 ≤ dS S x i
              · rw [if_pos ((iI_le (by omega) (by omega)).mpr w3), if_pos ((iI_le (by omega) (by omega)).mpr w3)]
                exact no (fun y => by omega)
              · rw [if_neg (fun y => w3 ((iI_le (by omega) (by omega)).mp y)), if_neg (fun y => w3 ((iI_le (by omega) (by omega)).mp y))]
                rw [if_pos ⟨⟨by omega, by omega⟩, by omega⟩] at r
                rw [show (1 : Int32) = nI 1 from rfl, nI_add, ← iI_nI i]
                exact r
          · rw [if_neg w1, f0]
            exact no (fun y => by have := y.1.1; omega)
        rw [← iI_nI (S 2 (4 * i)), iI_sub, iI_sub]
        by_cases w : (S 2 (4 * i) : Int) ≤ x
        · rw [if_pos ((iI_le (by omega) (by omega)).mpr w)]
          exact step _ (by congr 1; unfold dS; omega)
        · rw [if_neg (fun y => w ((iI_le (by omega) (by omega)).mp y))]
          exact step _ (by congr 1; unfold dS; omega)
  have g := go FU 0 (by omega) (FU_gt (by omega))
  have bb := bnd (S 0 1) (Nat.le_refl _)
  unfold f_X6_hooks
  exact g.trans (last _ bb.1.1 bb.1.2)
