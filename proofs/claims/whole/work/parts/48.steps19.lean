/-! sheets are read -/
theorem in_eqL (a lo hi : Int64) (M : Mem) : f_X6_in a lo hi M = some (b2 (lo.toInt ≤ a.toInt ∧ a.toInt ≤ hi.toInt)) := by
  unfold f_X6_in b2
  simp only [lg_lt0, lg_gt0]
  by_cases h1 : a.toInt < lo.toInt
  · rw [if_pos h1, if_neg (by omega)]
  · rw [if_neg h1]
    by_cases h2 : hi.toInt < a.toInt
    · rw [if_pos h2, if_neg (by omega)]
    · rw [if_neg h2, if_pos (by omega)]
def ShC (M : Mem) (K : Nat) (L : Int32) (sz : Nat) (cv : Nat → Int32) : Prop := M (32 + 2 * K) 1 = L ∧ M (32 + 2 * K) 2 = nI sz ∧ ∀ j, j < sz → M (33 + 2 * K) j = cv j
def ShM (M : Mem) (K : Nat) (L : Int32) (sz : Nat) (cv : Nat → Int32) : Prop := M 72 K = L ∧ M 73 K = nI sz ∧ ∀ j, j < sz → M 74 (40 * K + j) = cv j
theorem ShC.fr {M M1 : Mem} {K sz : Nat} {L : Int32} {cv : Nat → Int32} {X : Nat → Nat → Prop} (h : ShC M K L sz cv) (hf : Fr X M M1) (hx : ∀ c j, 32 ≤ c → ¬ X c j) : ShC M1 K L sz cv := by
  obtain ⟨a, b, c⟩ := h
  exact ⟨by rw [hf _ _ (hx _ _ (by omega)), a], by rw [hf _ _ (hx _ _ (by omega)), b], fun j hj => by rw [hf _ _ (hx _ _ (by omega)), c j hj]⟩
theorem ShM.fr {M M1 : Mem} {K sz : Nat} {L : Int32} {cv : Nat → Int32} {X : Nat → Nat → Prop} (h : ShM M K L sz cv) (hf : Fr X M M1) (hx : ∀ c j, 72 ≤ c → ¬ X c j) : ShM M1 K L sz cv := by
  obtain ⟨a, b, c⟩ := h
  exact ⟨by rw [hf _ _ (hx _ _ (by omega)), a], by rw [hf _ _ (hx _ _ (by omega)), b], fun j hj => by rw [hf _ _ (hx _ _ (by omega)), c j hj]⟩
def flt (L l : Int32) (z : Int) (sz k : Nat) : Nat := if L = -4 then 1 else if L = l then (if 0 ≤ z + 3 * (k : Int) ∧ z + 3 * (k : Int) + 2 < (sz : Int) then 0 else 2) else 3
def flc (L l : Int32) (z : Int) (sz i : Nat) : Nat := if L = -4 then 1 else if L = l then (if 0 ≤ z + (i : Int) ∧ z + (i : Int) < (sz : Int) then 0 else 2) else 3
theorem flt_lt (L l : Int32) (z : Int) (sz k : Nat) : flt L l z sz k < 4 := by unfold flt; split; omega; split; split <;> omega; omega
theorem flc_lt (L l : Int32) (z : Int) (sz i : Nat) : flc L l z sz i < 4 := by unfold flc; split; omega; split; split <;> omega; omega
theorem flt_0 {L l : Int32} {z : Int} {sz k : Nat} (h : flt L l z sz k = 0) : L ≠ -4 ∧ L = l ∧ 0 ≤ z + 3 * (k : Int) ∧ z + 3 * (k : Int) + 2 < (sz : Int) := by
  unfold flt at h
  by_cases h1 : L = -4
  · rw [if_pos h1] at h; omega
  · rw [if_neg h1] at h
    by_cases h2 : L = l
    · rw [if_pos h2] at h
      by_cases h3 : 0 ≤ z + 3 * (k : Int) ∧ z + 3 * (k : Int) + 2 < (sz : Int)
      · exact ⟨h1, h2, h3⟩
      · rw [if_neg h3] at h; omega
    · rw [if_neg h2] at h; omega
theorem flc_in {L l : Int32} {z : Int} {sz i : Nat} (h1 : L ≠ -4) (h2 : L = l) (h3 : 0 ≤ z + (i : Int) ∧ z + (i : Int) < (sz : Int)) : flc L l z sz i = 0 := by
  unfold flc
  rw [if_neg h1, if_pos h2, if_pos h3]
theorem flc_flt {L l : Int32} {z : Int} {sz k i : Nat} (h : flt L l z sz k ≠ 0) (h' : flc L l z sz i ≠ 0) : flc L l z sz i = flt L l z sz k := by
  unfold flt flc at *
  by_cases h1 : L = -4
  · rw [if_pos h1, if_pos h1]
  · rw [if_neg h1] at h h' ⊢
    rw [if_neg h1]
    by_cases h2 : L = l
    · rw [if_pos h2] at h h' ⊢
      rw [if_pos h2]
      by_cases h3 : 0 ≤ z + 3 * (k : Int) ∧ z + 3 * (k : Int) + 2 < (sz : Int)
      · rw [if_pos h3] at h; exact absurd rfl h
      · by_cases h4 : 0 ≤ z + (i : Int) ∧ z + (i : Int) < (sz : Int)
        · rw [if_pos h4] at h'; exact absurd rfl h'
        · rw [if_neg h3, if_neg h4]
    · rw [if_neg h2, if_neg h2]
theorem flc_some {L l : Int32} {z : Int} {sz k : Nat} (h : flt L l z sz k ≠ 0) (a : flc L l z sz (3 * k) = 0) (b : flc L l z sz (3 * k + 1) = 0) : flc L l z sz (3 * k + 2) ≠ 0 := by
  intro c
  apply h
  unfold flt flc at *
  by_cases h1 : L = -4
  · rw [if_pos h1] at a; omega
  · rw [if_neg h1] at a b c ⊢
    by_cases h2 : L = l
    · rw [if_pos h2] at a b c ⊢
      by_cases h4 : 0 ≤ z + ((3 * k : Nat) : Int) ∧ z + ((3 * k : Nat) : Int) < (sz : Int)
      · by_cases h5 : 0 ≤ z + ((3 * k + 2 : Nat) : Int) ∧ z + ((3 * k + 2 : Nat) : Int) < (sz : Int)
        · rw [if_pos (by omega)]
        · rw [if_neg h5] at c; omega
      · rw [if_neg h4] at a; omega
    · rw [if_neg h2] at a; omega
theorem iI_big {w : Int} (h1 : 2147483648 ≤ w) (h2 : w < 4294967296) : (iI w).toInt < 0 := by
  unfold iI
  rw [Int32.toInt_ofInt]
  show w.bmod (4294967296 : Nat) < 0
  rw [Int.bmod_def]
  split <;> omega
theorem first_is (f : Int32) (k : Nat) : f + 3 * nI k = iI (f.toInt + 3 * (k : Int)) := by
  rw [show (3 : Int32) = nI 3 from rfl, nI_mulN, ← iI_nI]
  have := toInt_iI f
  rw [← this, iI_add, this]
  congr 1
theorem faultC {M : Mem} {K sz k : Nat} {L l f : Int32} {cv : Nat → Int32} (hs : ShC M K L sz cv) (hk : k ≤ 12) (hsz : sz ≤ 40) : f_X3_faultOf (32 + 2 * K) l (f + 3 * nI k) 3 M = some (nI (flt L l f.toInt sz k)) := by
  have b1 := Int32.toInt_lt f
  have b2 := Int32.le_toInt f
  have m1 : (0 : Int32).toInt = 0 := by decide
  unfold f_X3_faultOf f_X3_faultOf_35 flt
  rw [hs.1, hs.2.1, first_is]
  by_cases h1 : L = -4
  · rw [if_pos h1, if_pos h1]; rfl
  · rw [if_neg h1, if_neg h1]
    by_cases h2 : L = l
    · rw [if_pos h2, if_pos h2]
      have e3 : nI sz - 3 = iI ((sz : Int) - 3) := by rw [← iI_nI, show (3 : Int32) = iI 3 from rfl, iI_sub]
      have lt0 : iI (f.toInt + 3 * (k : Int)) < 0 ↔ (iI (f.toInt + 3 * (k : Int))).toInt < 0 := by rw [Int32.lt_iff_toInt_lt, m1]
      have le3 : iI (f.toInt + 3 * (k : Int)) ≤ iI ((sz : Int) - 3) ↔ (iI (f.toInt + 3 * (k : Int))).toInt ≤ (sz : Int) - 3 := by rw [Int32.le_iff_toInt_le, iI_toInt (z := (sz : Int) - 3) (by omega) (by omega)]
      rw [e3]
      by_cases hb : f.toInt + 3 * (k : Int) < 2147483648
      · rw [iI_toInt (by omega) hb] at lt0 le3
        by_cases h3 : 0 ≤ f.toInt + 3 * (k : Int) ∧ f.toInt + 3 * (k : Int) + 2 < (sz : Int)
        · rw [if_neg (fun z => by have := lt0.mp z; omega), if_pos (le3.mpr (by omega)), if_pos h3]; rfl
        · rw [if_neg h3]
          by_cases h4 : f.toInt + 3 * (k : Int) < 0
          · rw [if_pos (lt0.mpr h4)]; rfl
          · rw [if_neg (fun z => h4 (lt0.mp z)), if_neg (fun z => by have := le3.mp z; omega)]; rfl
      · have := iI_big (w := f.toInt + 3 * (k : Int)) (by omega) (by omega)
        rw [if_pos (lt0.mpr this), if_neg (by omega)]; rfl
    · rw [if_neg h2, if_neg h2]; rfl
def RdC (n c j : Nat) : Prop := (c = 9 ∧ j = 4) ∨ (c = 10 ∧ 5 * n ≤ j)
def P72 (c j : Nat) : Prop := c = 55 ∧ j < 72
theorem RdC.mono {n m c j : Nat} (h : m ≤ n) (hc : RdC n c j) : RdC m c j := by unfold RdC at *; omega
theorem castBoth {S : Sv} (hW : WF S) (a b c : Int32) : (∃ S', WF S' ∧ S' 0 0 = S 0 0 + 1 ∧ (∀ M0, RepC M0 9 S → ∃ M1, f_X5_putIn a b c M0 = some (nI (S 0 0 + 1), M1) ∧ RepC M1 9 S' ∧ Fr (RdC (S 0 0)) M0 M1) ∧ ∀ M0, RepM M0 0 S → ∃ M1, f_X6_casts a b c M0 = some (nI (S 0 0 + 1), M1) ∧ RepM M1 0 S' ∧ Fr P72 M0 M1) ∨ ∃ e : Int32, ¬ (0 ≤ e) ∧ (∀ M0, RepC M0 9 S → f_X5_putIn a b c M0 = some (e, M0)) ∧ ∀ M0, RepM M0 0 S → f_X6_casts a b c M0 = some (e, M0) := by
  by_cases h : castOK a b c
  · by_cases hn : S 0 0 < 4
    · obtain ⟨x, y, s, h1, h2, h3, h4, rfl, rfl, rfl⟩ := castNat h
      refine Or.inl ⟨addS S x y s, hW.add hn h1 h2 h3 h4, rfl, fun M0 hC => ⟨_, putIn_ok hC hn h1 h2 h3 h4, hC.add hn x y s, ?_⟩, fun M0 hM => ⟨_, casts_ok hM hn h1 h2 h3 h4, hM.add hn hW.2.1 x y s, Fr.rfl'.ptM (fun j hj => ⟨rfl, hj⟩) hn x y s⟩⟩
      unfold putC
      exact (((((Fr.rfl'.up (by unfold RdC; omega)).up (by unfold RdC; omega)).up (by unfold RdC; omega)).up (by unfold RdC; omega)).up (by unfold RdC; omega)).up (by unfold RdC; omega)
    · have h4 : S 0 0 = 4 := by have := hW.1; omega
      exact Or.inr ⟨-3, by decide, fun M0 hC => putIn_full hC h h4, fun M0 hM => casts_full hM h h4⟩
  · exact Or.inr ⟨-1, by decide, fun M0 _ => putIn_bad h, fun M0 _ => casts_bad h⟩
theorem nI_mod3 {c : Nat} (h : c < 1000) : nI c - nI c / 3 * 3 = nI (c % 3) := by
  rw [show (3 : Int32) = nI 3 from rfl, nI_div (by omega) (by omega), nI_mulN, nI_subN (by omega)]
  congr 1
  omega
theorem cellM {M : Mem} {K n g w i sz : Nat} {L l f : Int32} {cv : Nat → Int32} (hK : K < 4) (hn : n ≤ 13) (hsz : sz ≤ 40) (hs : ShM M K L sz cv) (hi : i < 3 * n) : f_X6_read_56 (nI K) l f (nI n) (g + 1) 0 (nI w) (nI i) M = f_X6_read_126 (nI K) l f (nI n) (f_X6_read_56 (nI K) l f (nI n) g) (nI w) (nI i) (nI (flc L l f.toInt sz i)) M := by
  have b1 := Int32.toInt_lt f
  have b2' := Int32.le_toInt f
  have e0 : (0 : Int64).toInt = 0 := by decide
  unfold f_X6_read_56
  rw [show (3 : Int32) = nI 3 from rfl, nI_mulN, if_neg (fun z => absurd ((nI_leN (by omega) (by omega)).mp z) (by omega)), if_pos (show (0 : Int32) = 0 from rfl), rd_ok hK (by omega), hs.1, rd_ok hK (by omega), hs.1, rd_ok hK (by omega), hs.2.1, in_eqL, pred_toInt (by omega), e0]
  have es : (f.toInt64 + (nI i).toInt64).toInt = f.toInt + (i : Int) := by
    rw [Int64.toInt_add, Int32.toInt_toInt64, Int32.toInt_toInt64, nI_toInt (by omega)]
    exact Int.bmod_eq_of_le (by omega) (by omega)
  rw [es]
  simp only [Option.bind_some, ite_b2]
  unfold flc
  by_cases h1 : L = -4
  · rw [if_pos h1, if_pos h1]; rfl
  · rw [if_neg h1, if_neg h1]
    by_cases h2 : L = l
    · rw [if_pos h2, if_pos h2]
      by_cases h3 : 0 ≤ f.toInt + (i : Int) ∧ f.toInt + (i : Int) < (sz : Int)
      · rw [if_pos (by omega), if_pos h3]; rfl
      · rw [if_neg (by omega), if_neg h3]; rfl
    · rw [if_neg h2, if_neg h2]
theorem skipM {M : Mem} {K l f n : Int32} {w i s : Nat} {T : Int32 → Int32 → Int32 → Mem → Option (Int32 × Mem)} (hi : i < 1000) (hs : s < 4) (h : s ≠ 0 ∨ i % 3 ≠ 2) : f_X6_read_126 K l f n T (nI w) (nI i) (nI s) M = T (nI s) (nI w) (nI (i + 1)) M := by
  unfold f_X6_read_126 f_X6_read_201
  rw [nI_mod3 hi, show nI i + (1 : Int32) = nI (i + 1) by rw [show (1 : Int32) = nI 1 from rfl, nI_add]]
  by_cases q : s = 0
  · rw [if_pos ((nI_lit 0 (by omega) (by omega)).mpr q), if_neg (fun z => by have := (nI_lit 2 (by omega) (by omega)).mp z; omega)]
  · rw [if_neg (fun z => q ((nI_lit 0 (by omega) (by omega)).mp z))]
theorem stopM {M : Mem} {K l f n : Int32} {g w s : Nat} {i : Int32} (hs : s < 4) (h0 : s ≠ 0) : f_X6_read_56 K l f n (g + 1) (nI s) (nI w) i M = some (nI w, up M 54 35 (nI s)) := by
  unfold f_X6_read_56
  rw [if_neg (show ¬ (nI s = 0) from fun z => h0 ((nI_lit 0 (by omega) (by omega)).mp z))]
  simp only [lm]
  split <;> rfl
theorem tripleM {M : Mem} {K n g k sz : Nat} {L l f : Int32} {cv : Nat → Int32} (hK : K < 4) (hn : n ≤ 13) (hsz : sz ≤ 40) (hs : ShM M K L sz cv) (hk : k < n) (h0 : flt L l f.toInt sz k = 0) : f_X6_read_56 (nI K) l f (nI n) (g + 1 + 1 + 1) 0 (nI k) (nI (3 * k)) M = (f_X6_casts (cv (f.toInt + 3 * (k : Int)).toNat) (cv ((f.toInt + 3 * (k : Int)).toNat + 1)) (cv ((f.toInt + 3 * (k : Int)).toNat + 2)) M).bind fun r10 => if 0 ≤ r10.1 then f_X6_read_56 (nI K) l f (nI n) g 0 (nI (k + 1)) (nI (3 * k + 3)) r10.2 else (f_X6_copies 216 0 r10.2).bind fun r1 => some (-20 - nI k, r1) := by
  obtain ⟨h1, h2, h3, h4⟩ := flt_0 h0
  rw [cellM hK hn hsz hs (by omega), flc_in h1 h2 (by omega), skipM (by omega) (by omega) (Or.inr (by omega))]
  rw [show nI 0 = (0 : Int32) from rfl, cellM hK hn hsz hs (by omega), flc_in h1 h2 (by omega), skipM (by omega) (by omega) (Or.inr (by omega))]
  rw [show nI 0 = (0 : Int32) from rfl, cellM hK hn hsz hs (by omega), flc_in h1 h2 (by omega)]
  unfold f_X6_read_126 f_X6_read_201 f_X6_read_184
  rw [nI_mod3 (by omega), if_pos (show nI 0 = (0 : Int32) from rfl), if_pos ((nI_lit 2 (by omega) (by omega)).mpr (by omega))]
  simp only [li]
  have ey : 40 * nI K + f + nI (3 * k + 1 + 1) = nI (40 * K + (f.toInt + 3 * (k : Int)).toNat + 2) := by
    have := toInt_iI f
    rw [show (40 : Int32) = nI 40 from rfl, nI_mulN, ← iI_nI, ← iI_nI, ← iI_nI]
    rw [← this, iI_add, iI_add, this]
    congr 1
    omega
  rw [ey, show (2 : Int32) = nI 2 from rfl, show (1 : Int32) = nI 1 from rfl, nI_subN (by omega), nI_subN (by omega), nI_add, nI_add]
  rw [rd_ok (by omega) (by omega), rd_ok (by omega) (by omega), rd_ok (by omega) (by omega)]
  rw [show 40 * K + (f.toInt + 3 * (k : Int)).toNat + 2 - 2 = 40 * K + (f.toInt + 3 * (k : Int)).toNat by omega, show 40 * K + (f.toInt + 3 * (k : Int)).toNat + 2 - 1 = 40 * K + ((f.toInt + 3 * (k : Int)).toNat + 1) by omega, Nat.add_assoc (40 * K), hs.2.2 _ (by omega), hs.2.2 _ (by omega), hs.2.2 _ (by omega)]
  rfl
def RdF (c j : Nat) : Prop := (c = 9 ∧ j = 4) ∨ c = 10 ∨ (c = 0 ∧ j = 16)
def RdG (c j : Nat) : Prop := (c = 55 ∧ j < 72) ∨ (c = 54 ∧ j = 35)
theorem RdC_F {n c j : Nat} (h : RdC n c j) : RdF c j := by unfold RdC at h; unfold RdF; omega
theorem P72_G {c j : Nat} (h : P72 c j) : RdG c j := Or.inl h
theorem RepM.torn {M : Mem} {S : Sv} {v : Int32} (h : RepM M 0 S) (hW : WF S) : RepM (up M 54 35 v) 0 S :=
  h.fr (X := fun c j => c = 54 ∧ j = 35) hW (Fr.rfl'.up (by omega)) (fun j a b => by omega) (by omega)
theorem readGo {K n : Nat} {l f L : Int32} {sz : Nat} {cv : Nat → Int32} {S0 : Sv} (hK : K < 4) (hn : n ≤ 13) (hsz : sz ≤ 40) (hW0 : WF S0) : ∀ d k S, k + d = n → WF S → S0 0 0 ≤ S 0 0 → ∃ (r : Int32) (S' : Sv) (tn : Option Int32), WF S' ∧ (∀ g M M0, d < g → RepC M 9 S0 → RepC M0 9 S → Fr (RdC (S0 0 0)) M M0 → ShC M0 K L sz cv → ∃ M1, f_X5_read_54 (nI K) l f (nI n) g (32 + 2 * K) (nI (S0 0 0)) (nI k) 0 M0 = some (r, M1) ∧ RepC M1 9 S' ∧ Fr RdF M M1 ∧ M1 0 16 = tn.getD (M 0 16)) ∧ (∀ g M M0, 3 * d + 1 < g → RepM M0 0 S → RepM M0 216 S0 → Fr P72 M M0 → ShM M0 K L sz cv → ∃ M1, f_X6_read_56 (nI K) l f (nI n) g 0 (nI k) (nI (3 * k)) M0 = some (r, M1) ∧ RepM M1 0 S' ∧ Fr RdG M M1 ∧ M1 54 35 = tn.getD (M 54 35)) := by
  intro d
  induction d with
  | zero =>
    intro k S hk hW hle
    refine ⟨nI k, S, some 0, hW, fun g M M0 hg hC hC0 hfr hs => ?_, fun g M M0 hg hM hM2 hfr hs => ?_⟩
    · obtain ⟨g, rfl⟩ : ∃ q, g = q + 1 := ⟨g - 1, by omega⟩
      unfold f_X5_read_54
      rw [if_pos ((nI_leN (by omega) (by omega)).mpr (by omega))]
      simp only [lm]
      refine ⟨_, rfl, hC0.upM (by omega), (hfr.mono (fun _ _ => RdC_F)).up (by unfold RdF; omega), up_same _ _ _ _⟩
    · obtain ⟨g, rfl⟩ : ∃ q, g = q + 1 := ⟨g - 1, by omega⟩
      unfold f_X6_read_56
      rw [show (3 : Int32) = nI 3 from rfl, nI_mulN, if_pos ((nI_leN (by omega) (by omega)).mpr (by omega))]
      simp only [lm]
      exact ⟨_, rfl, hM.torn hW, (hfr.mono (fun _ _ => P72_G)).up (by unfold RdG; omega), up_same _ _ _ _⟩
  | succ d ih =>
    intro k S hk hW hle
    have fl4 := flt_lt L l f.toInt sz k
    by_cases h0 : flt L l f.toInt sz k = 0
    · obtain ⟨h1, h2, h3, h4⟩ := flt_0 h0
      have ef : f + 3 * nI k = nI (f.toInt + 3 * (k : Int)).toNat := by
        rw [first_is, ← iI_nI, Int.toNat_of_nonneg h3]
      -- the class up to the cast
      have hcl : ∀ g M0, ShC M0 K L sz cv → f_X5_read_54 (nI K) l f (nI n) (g + 1) (32 + 2 * K) (nI (S0 0 0)) (nI k) 0 M0 = (f_X5_putIn (cv (f.toInt + 3 * (k : Int)).toNat) (cv ((f.toInt + 3 * (k : Int)).toNat + 1)) (cv ((f.toInt + 3 * (k : Int)).toNat + 2)) M0).bind fun r12 => if 0 ≤ r12.1 then f_X5_read_54 (nI K) l f (nI n) g (32 + 2 * K) (nI (S0 0 0)) (nI (k + 1)) 0 r12.2 else f_X5_read_123 (nI K) l f (nI n) (nI (S0 0 0)) (nI k) r12.2 := by
        intro g M0 hs
        conv => lhs; unfold f_X5_read_54
        rw [if_neg (fun z => absurd ((nI_leN (by omega) (by omega)).mp z) (by omega))]
        simp only [li]
        rw [faultC hs (by omega) hsz, h0]
        simp only [Option.bind_some]
        rw [if_pos (show nI 0 = (0 : Int32) from rfl), ef, show (1 : Int32) = nI 1 from rfl, show (2 : Int32) = nI 2 from rfl, nI_add, nI_add, nI_add, show 32 + 2 * K + 1 = 33 + 2 * K by omega, rd_ok (by omega) (by omega), rd_ok (by omega) (by omega), rd_ok (by omega) (by omega), hs.2.2 _ (by omega), hs.2.2 _ (by omega), hs.2.2 _ (by omega)]
        rfl
      rcases castBoth hW (cv (f.toInt + 3 * (k : Int)).toNat) (cv ((f.toInt + 3 * (k : Int)).toNat + 1)) (cv ((f.toInt + 3 * (k : Int)).toNat + 2)) with ⟨S1, w1, w2, w3, w4⟩ | ⟨e, w1, w2, w3⟩
      · obtain ⟨r, S', tn, i1, i2, i3⟩ := ih (k + 1) S1 (by omega) w1 (by omega)
        have s4 := hW.1
        refine ⟨r, S', tn, i1, fun g M M0 hg hC hC0 hfr hs => ?_, fun g M M0 hg hM hM2 hfr hs => ?_⟩
        · obtain ⟨g, rfl⟩ : ∃ q, g = q + 1 := ⟨g - 1, by omega⟩
          obtain ⟨M1, a1, a2, a3⟩ := w3 M0 hC0
          rw [hcl g M0 hs, a1]
          simp only [Option.bind_some]
          rw [if_pos (show (0 : Int32) ≤ nI (S 0 0 + 1) from (nI_leN (a := 0) (by omega) (by omega)).mpr (Nat.zero_le _))]
          exact i2 g M M1 (by omega) hC a2 (hfr.trans (a3.mono (fun c j => RdC.mono hle))) (hs.fr a3 (fun c j x => by unfold RdC; omega))
        · obtain ⟨g, rfl⟩ : ∃ q, g = q + 1 + 1 + 1 := ⟨g - 3, by omega⟩
          obtain ⟨M1, a1, a2, a3⟩ := w4 M0 hM
          rw [tripleM hK hn hsz hs (by omega) h0, a1]
          simp only [Option.bind_some]
          rw [if_pos (show (0 : Int32) ≤ nI (S 0 0 + 1) from (nI_leN (a := 0) (by omega) (by omega)).mpr (Nat.zero_le _))]
          have := i3 g M M1 (by omega) a2 (hM2.fr hW0 a3 (fun j x y => by unfold P72; omega) (by unfold P72; omega)) (hfr.trans a3) (hs.fr a3 (fun c j x => by unfold P72; omega))
          rw [show 3 * (k + 1) = 3 * k + 3 by omega] at this
          exact this
      · refine ⟨-20 - nI k, S0, none, hW0, fun g M M0 hg hC hC0 hfr hs => ?_, fun g M M0 hg hM hM2 hfr hs => ?_⟩
        · obtain ⟨g, rfl⟩ : ∃ q, g = q + 1 := ⟨g - 1, by omega⟩
          rw [hcl g M0 hs, w2 M0 hC0]
          simp only [Option.bind_some]
          rw [if_neg w1]
          unfold f_X5_read_123
          simp only [lm]
          refine ⟨_, rfl, ?_, (hfr.mono (fun _ _ => RdC_F)).up (by unfold RdF; omega), by rw [up_cell (by omega), hfr 0 16 (by unfold RdC; omega)]; rfl⟩
          obtain ⟨c1, c2, c3, c4, c5, c6, c7⟩ := hC
          refine ⟨up_same _ _ _ _, ?_, ?_, fun j hj => ?_, fun j hj => ?_, fun j hj => ?_, fun j hj => ?_⟩
          · rw [up_slot (by omega), hfr 9 5 (by unfold RdC; omega), c2]
          · rw [up_slot (by omega), hfr 9 6 (by unfold RdC; omega), c3]
          · rw [up_cell (by omega), hfr (9 + 1) j (by unfold RdC; omega), c4 j hj]
          · rw [up_cell (by omega), hfr (9 + 2) j (by unfold RdC; omega), c5 j hj]
          · rw [up_cell (by omega), hfr (9 + 3) j (by unfold RdC; omega), c6 j hj]
          · rw [up_cell (by omega), hfr (9 + 4) j (by unfold RdC; omega), c7 j hj]
        · obtain ⟨g, rfl⟩ : ∃ q, g = q + 1 + 1 + 1 := ⟨g - 3, by omega⟩
          rw [tripleM hK hn hsz hs (by omega) h0, w3 M0 hM]
          simp only [Option.bind_some]
          rw [if_neg w1, show f_X6_copies 216 0 M0 = f_X6_copies (nI 216) (nI 0) M0 from rfl, copies_ok (by omega) (by omega) (by omega)]
          simp only [Option.bind_some]
          refine ⟨_, rfl, cpN_rep hM2 hW0.1 hW0.2.1, ?_, ?_⟩
          · exact (hfr.trans (cpN_fr.mono (fun c j x => by unfold Page at x; unfold P72; omega))).mono (fun _ _ => P72_G)
          · rw [cpN_fr 54 35 (by unfold Page; omega), hfr 54 35 (by unfold P72; omega)]
            rfl
    · refine ⟨nI k, S, some (nI (flt L l f.toInt sz k)), hW, fun g M M0 hg hC hC0 hfr hs => ?_, fun g M M0 hg hM hM2 hfr hs => ?_⟩
      · obtain ⟨g, rfl⟩ : ∃ q, g = q + 1 := ⟨g - 1, by omega⟩
        unfold f_X5_read_54
        rw [if_neg (fun z => absurd ((nI_leN (by omega) (by omega)).mp z) (by omega))]
        simp only [li]
        rw [faultC hs (by omega) hsz]
        simp only [Option.bind_some]
        rw [if_neg (fun z => h0 ((nI_lit 0 (by omega) (by omega)).mp z))]
        unfold f_X5_read_85
        simp only [lm]
        refine ⟨_, rfl, hC0.upM (by omega), (hfr.mono (fun _ _ => RdC_F)).up (by unfold RdF; omega), up_same _ _ _ _⟩
      · obtain ⟨g, rfl⟩ : ∃ q, g = q + 1 + 1 + 1 + 1 := ⟨g - 4, by omega⟩
        have out : ∃ M1, (some (nI k, up M0 54 35 (nI (flt L l f.toInt sz k))) : Option (Int32 × Mem)) = some (nI k, M1) ∧ RepM M1 0 S ∧ Fr RdG M M1 ∧ M1 54 35 = (some (nI (flt L l f.toInt sz k)) : Option Int32).getD (M 54 35) :=
          ⟨_, rfl, hM.torn hW, (hfr.mono (fun _ _ => P72_G)).up (by unfold RdG; omega), up_same _ _ _ _⟩
        have l0 := flc_lt L l f.toInt sz (3 * k)
        have l1 := flc_lt L l f.toInt sz (3 * k + 1)
        have l2 := flc_lt L l f.toInt sz (3 * k + 2)
        rw [cellM hK hn hsz hs (by omega)]
        by_cases q0 : flc L l f.toInt sz (3 * k) = 0
        · rw [q0, skipM (by omega) (by omega) (Or.inr (by omega)), show nI 0 = (0 : Int32) from rfl, cellM hK hn hsz hs (by omega)]
          by_cases q1 : flc L l f.toInt sz (3 * k + 1) = 0
          · have q2 := flc_some h0 q0 q1
            rw [q1, skipM (by omega) (by omega) (Or.inr (by omega)), show nI 0 = (0 : Int32) from rfl, cellM hK hn hsz hs (by omega), skipM (by omega) l2 (Or.inl q2), stopM l2 q2, flc_flt h0 q2]
            exact out
          · rw [skipM (by omega) l1 (Or.inl q1), stopM l1 q1, flc_flt h0 q1]
            exact out
        · rw [skipM (by omega) l0 (Or.inl q0), stopM l0 q0, flc_flt h0 q0]
          exact out
theorem st_read : St_read Rel := by
  intro M a l f c h
  obtain ⟨⟨S, hW, hC, hM⟩, h2, h3, h4, h5, h6, h7, h8⟩ := id h
  by_cases ha : ((0 : Nat) : Int) ≤ a.toInt ∧ a.toInt ≤ ((3 : Nat) : Int)
  · by_cases hl : ((0 : Nat) : Int) ≤ l.toInt ∧ l.toInt ≤ ((2 : Nat) : Int)
    · by_cases hc : ((0 : Nat) : Int) ≤ c.toInt ∧ c.toInt ≤ ((13 : Nat) : Int)
      · obtain ⟨K, -, hK, rfl⟩ := nI_rng ha
        obtain ⟨n, -, hn, rfl⟩ := nI_rng hc
        obtain ⟨s1, s2, sz, s3, s4, s5, s6⟩ := h6 K (by omega)
        obtain ⟨r, S', tn, g1, g2, g3⟩ := readGo (K := K) (n := n) (l := l) (f := f) (L := M 72 K) (sz := sz) (cv := fun j => M 74 (40 * K + j)) (by omega) hn s3 hW n 0 S (by omega) hW (Nat.le_refl _)
        obtain ⟨M1, a1, a2, a3, a4⟩ := g2 FU M M (FU_gt (by omega)) hC hC Fr.rfl' ⟨s1, s4, fun j hj => s6 j hj⟩
        have hM1 : RepM M1 0 S := hM.frC a3 (fun c j x y => by unfold RdF; omega)
        obtain ⟨M3, c1, c2, c3, c4⟩ := g3 FU (cpN M1 0 216 72) (cpN M1 0 216 72) (FU_gt (by omega)) (hM1.fr hW cpN_fr (fun j x y => by unfold Page; omega) (by unfold Page; omega)) (cpN_rep hM1 hW.1 hW.2.1) Fr.rfl' ⟨by rw [cpN_fr 72 K (by unfold Page; omega), a3 72 K (by unfold RdF; omega)], by rw [cpN_fr 73 K (by unfold Page; omega), a3 73 K (by unfold RdF; omega), s5], fun j hj => by rw [cpN_fr 74 _ (by unfold Page; omega), a3 74 _ (by unfold RdF; omega)]⟩
        have f1 : Fr Loc_read0 M M1 := a3.mono (fun c j x => by unfold RdF at x; unfold Loc_read0 Scr; omega)
        have f2 : Fr Loc_read0 M1 (cpN M1 0 216 72) := cpN_fr.mono (fun c j x => by unfold Page at x; unfold Loc_read0 Scr; omega)
        have f3 : Fr Loc_read0 (cpN M1 0 216 72) M3 := c3.mono (fun c j x => by unfold RdG at x; unfold Loc_read0 Scr; omega)
        refine ⟨r, M1, M3, ?_, ?_, h.read0 ((f1.trans f2).trans f3) ⟨S', g1, (a2.fr cpN_fr (fun c j x y => by unfold Page; omega)).fr c3 (fun c j x y => by unfold RdG; omega), c2⟩ ?_⟩
        · unfold f_X5_read
          simp only [within_lit _ 0 3 (by omega) (by omega), within_lit _ 0 2 (by omega) (by omega), within_lit _ 0 13 (by omega) (by omega), Option.bind_some, ite_b2, if_pos ha, if_pos hl, if_pos hc, li]
          rw [inb_ok (by omega) (by omega), nI_clamp (by omega), rf31 (by omega), hC.1]
          exact a1
        · unfold f_X6_read
          simp only [in_lit _ 0 3 (by omega) (by omega), in_lit _ 0 2 (by omega) (by omega), in_lit _ 0 13 (by omega) (by omega), Option.bind_some, ite_b2, if_pos ha, if_pos hl, if_pos hc]
          rw [show f_X6_copies 0 216 M1 = f_X6_copies (nI 0) (nI 216) M1 from rfl, copies_ok (by omega) (by omega) (by omega)]
          exact c1
        · rw [c3 0 16 (by unfold RdG; omega), cpN_fr 0 16 (by unfold Page; omega), a4, c4, cpN_fr 54 35 (by unfold Page; omega), a3 54 35 (by unfold RdF; omega), h7]
      · refine ⟨-1, M, M, ?_, ?_, h⟩
        · unfold f_X5_read
          simp only [within_lit _ 0 3 (by omega) (by omega), within_lit _ 0 2 (by omega) (by omega), within_lit _ 0 13 (by omega) (by omega), Option.bind_some, ite_b2, if_pos ha, if_pos hl, if_neg hc]
        · unfold f_X6_read
          simp only [in_lit _ 0 3 (by omega) (by omega), in_lit _ 0 2 (by omega) (by omega), in_lit _ 0 13 (by omega) (by omega), Option.bind_some, ite_b2, if_pos ha, if_pos hl, if_neg hc]
    · refine ⟨-1, M, M, ?_, ?_, h⟩
      · unfold f_X5_read
        simp only [within_lit _ 0 3 (by omega) (by omega), within_lit _ 0 2 (by omega) (by omega), Option.bind_some, ite_b2, if_pos ha, if_neg hl]
      · unfold f_X6_read
        simp only [in_lit _ 0 3 (by omega) (by omega), in_lit _ 0 2 (by omega) (by omega), Option.bind_some, ite_b2, if_pos ha, if_neg hl]
  · refine ⟨-1, M, M, ?_, ?_, h⟩
    · unfold f_X5_read
      simp only [within_lit _ 0 3 (by omega) (by omega), Option.bind_some, ite_b2, if_neg ha]
    · unfold f_X6_read
      simp only [in_lit _ 0 3 (by omega) (by omega), Option.bind_some, ite_b2, if_neg ha]
