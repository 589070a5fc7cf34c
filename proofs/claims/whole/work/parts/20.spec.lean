/-! numbers -/
theorem lit32 (k : Nat) : (@OfNat.ofNat Int32 k Int32.instOfNat) = nI (@OfNat.ofNat Nat k (instOfNatNat k)) := rfl
theorem nI_mulN (a b : Nat) : nI a * nI b = nI (a * b) := (Int32.ofNat_mul a b).symm
def iI (z : Int) : Int32 := Int32.ofInt z
theorem iI_nI (n : Nat) : iI (n : Int) = nI n := Int32.ofInt_eq_ofNat
theorem iI_toInt {z : Int} (h1 : -2147483648 ≤ z) (h2 : z < 2147483648) : (iI z).toInt = z := Int32.toInt_ofInt_of_le (by omega) (by omega)
theorem toInt_iI (x : Int32) : iI x.toInt = x := Int32.ofInt_toInt x
theorem iI_add (a b : Int) : iI a + iI b = iI (a + b) := (Int32.ofInt_add a b).symm
theorem iI_sub (a b : Int) : iI a - iI b = iI (a - b) := (Int32.ofInt_sub a b).symm
theorem iI_mul (a b : Int) : iI a * iI b = iI (a * b) := (Int32.ofInt_mul a b).symm
theorem iI_neg (a : Int) : -iI a = iI (-a) := Int32.neg_ofInt
theorem iI_lt {a b : Int} (h1 : -2147483648 ≤ a ∧ a < 2147483648) (h2 : -2147483648 ≤ b ∧ b < 2147483648) : iI a < iI b ↔ a < b := by
  rw [Int32.lt_iff_toInt_lt, iI_toInt h1.1 h1.2, iI_toInt h2.1 h2.2]
theorem iI_le {a b : Int} (h1 : -2147483648 ≤ a ∧ a < 2147483648) (h2 : -2147483648 ≤ b ∧ b < 2147483648) : iI a ≤ iI b ↔ a ≤ b := by
  rw [Int32.le_iff_toInt_le, iI_toInt h1.1 h1.2, iI_toInt h2.1 h2.2]
theorem iI_eq {a b : Int} (h1 : -2147483648 ≤ a ∧ a < 2147483648) (h2 : -2147483648 ≤ b ∧ b < 2147483648) : iI a = iI b ↔ a = b := by
  rw [← Int32.toInt_inj, iI_toInt h1.1 h1.2, iI_toInt h2.1 h2.2]
theorem nI_subN {a b : Nat} (h : b ≤ a) : nI a - nI b = nI (a - b) := by
  rw [← iI_nI, ← iI_nI, ← iI_nI, iI_sub]
  congr 1
  omega
theorem nI_neN {a k : Nat} (ha : a < 2147483648) (hk : 0 < k) (hk2 : k < 2147483648) : nI a = -nI k ↔ False := by
  rw [← iI_nI, ← iI_nI, iI_neg, iI_eq (by omega) (by omega)]
  constructor
  · intro h; omega
  · intro h; exact h.elim
theorem nI_inj2 {a b : Nat} (ha : a < 2147483648) (hb : b < 2147483648) : nI a = nI b ↔ a = b := nI_eq ha hb
/-- an int between two numbers -/
theorem nI_rng {x : Int32} {lo hi : Nat} (h : (lo : Int) ≤ x.toInt ∧ x.toInt ≤ (hi : Int)) : ∃ k : Nat, lo ≤ k ∧ k ≤ hi ∧ x = nI k := by
  refine ⟨x.toInt.toNat, by omega, by omega, ?_⟩
  rw [← iI_nI, Int.toNat_of_nonneg (by omega), toInt_iI]
def b2 (p : Prop) [Decidable p] : Int32 := if p then 1 else 0
theorem b2_0 (p : Prop) [Decidable p] : b2 p = 0 ↔ ¬ p := by
  unfold b2
  by_cases h : p <;> simp [h]
theorem b2_t {p : Prop} [Decidable p] (h : p) : b2 p = 1 := if_pos h
theorem b2_f {p : Prop} [Decidable p] (h : ¬ p) : b2 p = 0 := if_neg h
theorem b2_nar (p : Prop) [Decidable p] : vp_nar .boolean (b2 p) = b2 p := by
  unfold b2
  by_cases h : p
  · rw [if_pos h]; decide
  · rw [if_neg h]; decide
theorem ck_b2 {α : Type} (p : Prop) [Decidable p] (x : Option α) : ck .boolean (b2 p) x = x := if_pos (b2_nar p)
theorem within_eq (a lo hi : Int32) (M : Mem) : f_X5_within a lo hi M = some (b2 (lo.toInt ≤ a.toInt ∧ a.toInt ≤ hi.toInt)) := by
  unfold f_X5_within b2
  by_cases h1 : a < lo
  · rw [if_pos h1, if_neg]
    rw [Int32.lt_iff_toInt_lt] at h1
    omega
  · rw [if_neg h1]
    rw [Int32.lt_iff_toInt_lt] at h1
    by_cases h2 : hi < a
    · rw [if_pos h2, if_neg]
      rw [Int32.lt_iff_toInt_lt] at h2
      omega
    · rw [if_neg h2, if_pos]
      rw [Int32.lt_iff_toInt_lt] at h2
      omega
theorem lg_lt0 (x y : Int64) : lg_cmp x y < 0 ↔ x.toInt < y.toInt := by
  unfold lg_cmp
  simp only [gt_iff_lt, Int64.lt_iff_toInt_lt, ← Int64.toInt_inj]
  by_cases h : y.toInt < x.toInt
  · rw [if_pos h]
    constructor
    · intro q; exact absurd q (by decide)
    · intro q; omega
  · rw [if_neg h]
    by_cases h2 : x.toInt = y.toInt
    · rw [if_pos h2]
      constructor
      · intro q; exact absurd q (by decide)
      · intro q; omega
    · rw [if_neg h2]
      constructor
      · intro q; omega
      · intro q; decide
theorem lg_gt0 (x y : Int64) : 0 < lg_cmp x y ↔ y.toInt < x.toInt := by
  unfold lg_cmp
  simp only [gt_iff_lt, Int64.lt_iff_toInt_lt, ← Int64.toInt_inj]
  by_cases h : y.toInt < x.toInt
  · rw [if_pos h]
    constructor
    · intro q; exact h
    · intro q; decide
  · rw [if_neg h]
    by_cases h2 : x.toInt = y.toInt
    · rw [if_pos h2]
      constructor
      · intro q; exact absurd q (by decide)
      · intro q; omega
    · rw [if_neg h2]
      constructor
      · intro q; exact absurd q (by decide)
      · intro q; omega
theorem in_eq (a : Int32) (lo hi : Int64) (M : Mem) : f_X6_in a.toInt64 lo hi M = some (b2 (lo.toInt ≤ a.toInt ∧ a.toInt ≤ hi.toInt)) := by
  unfold f_X6_in b2
  simp only [lg_lt0, lg_gt0, Int32.toInt_toInt64]
  by_cases h1 : a.toInt < lo.toInt
  · rw [if_pos h1, if_neg (by omega)]
  · rw [if_neg h1]
    by_cases h2 : hi.toInt < a.toInt
    · rw [if_pos h2, if_neg (by omega)]
    · rw [if_neg h2, if_pos (by omega)]
theorem toInt_lit (k : Nat) (h : k < 2147483648) : (nI k).toInt = (k : Int) := nI_toInt h
theorem lit64T (k : Nat) (h : k < 2147483648) : (@OfNat.ofNat Int64 k Int64.instOfNat).toInt = (k : Int) := lN_toInt h
/-! THE SEA as numbers: group 0: tubs, heirs, phase; 1: 5 t + w; 2: 4 i + w; 3: currents; 4: winds -/
abbrev Sv : Type := Nat → Nat → Nat
def setS (S : Sv) (g j v : Nat) : Sv := fun g' j' => if g' = g ∧ j' = j then v else S g' j'
theorem setS_same (S : Sv) (g j v : Nat) : setS S g j v g j = v := if_pos ⟨rfl, rfl⟩
theorem setS_ne {S : Sv} {g j v g' j' : Nat} (h : ¬ (g' = g ∧ j' = j)) : setS S g j v g' j' = S g' j' := if_neg h
def WF (S : Sv) : Prop := S 0 0 ≤ 4 ∧ S 0 1 ≤ 4 ∧ S 0 2 < 6 ∧
  (∀ t, t < S 0 0 → S 1 (5 * t) < 4 ∧ S 1 (5 * t + 1) < 10 ∧ 1 ≤ S 1 (5 * t + 2) ∧ S 1 (5 * t + 2) < 10 ∧ S 1 (5 * t + 3) < 24 ∧ 1 ≤ S 1 (5 * t + 4) ∧ S 1 (5 * t + 4) < 100) ∧
  (∀ i, i < S 0 1 → S 2 (4 * i) < 10 ∧ S 2 (4 * i + 1) ≤ S 2 (4 * i + 2) ∧ S 2 (4 * i + 2) < 24 ∧ S 2 (4 * i + 3) < 10) ∧
  (∀ r, r < 10 → S 3 r < 5) ∧ ∀ h, h < 24 → S 4 h < 5
def RepC (M : Mem) (k : Nat) (S : Sv) : Prop := M k 4 = nI (S 0 0) ∧ M k 5 = nI (S 0 1) ∧ M k 6 = nI (S 0 2) ∧
  (∀ j, j < 5 * S 0 0 → M (k + 1) j = nI (S 1 j)) ∧ (∀ j, j < 4 * S 0 1 → M (k + 2) j = nI (S 2 j)) ∧ (∀ r, r < 10 → M (k + 3) r = nI (S 3 r)) ∧ ∀ h, h < 24 → M (k + 4) h = nI (S 4 h)
def RepM (M : Mem) (p : Nat) (S : Sv) : Prop := M 55 (p + 20) = nI (S 0 0) ∧ M 54 2 = nI (S 0 1) ∧ M 55 (p + 71) = nI (S 0 2) ∧
  (∀ t w, t < S 0 0 → w < 5 → M 55 (p + 4 * w + t) = nI (S 1 (5 * t + w))) ∧ (∀ j, j < 4 * S 0 1 → M 55 (p + 21 + j) = nI (S 2 j)) ∧ (∀ r, r < 10 → M 55 (p + 37 + r) = iI ((S 3 r : Int) - 2)) ∧ ∀ h, h < 24 → M 55 (p + 47 + h) = nI (S 4 h)
/-- frames: what is written lies in X -/
def Fr (X : Nat → Nat → Prop) (M M1 : Mem) : Prop := ∀ c j, ¬ X c j → M1 c j = M c j
theorem Fr.rfl' {X : Nat → Nat → Prop} {M : Mem} : Fr X M M := fun _ _ _ => rfl
theorem Fr.trans {X : Nat → Nat → Prop} {M M1 M2 : Mem} (h1 : Fr X M M1) (h2 : Fr X M1 M2) : Fr X M M2 := fun c j h => (h2 c j h).trans (h1 c j h)
theorem Fr.mono {X Y : Nat → Nat → Prop} {M M1 : Mem} (h : Fr X M M1) (hxy : ∀ c j, X c j → Y c j) : Fr Y M M1 := fun c j hc => h c j (fun q => hc (hxy c j q))
theorem Fr.up {X : Nat → Nat → Prop} {M M1 : Mem} {c j : Nat} {v : Int32} (h : Fr X M M1) (hx : X c j) : Fr X M (up M1 c j v) := fun c' j' hc => by
  rw [up_at, if_neg (fun q => hc (by rw [q.1, q.2]; exact hx))]
  exact h c' j' hc
theorem RepC.fr {X : Nat → Nat → Prop} {M M1 : Mem} {k : Nat} {S : Sv} (h : RepC M k S) (hf : Fr X M M1) (hx : ∀ c j, k ≤ c → c ≤ k + 4 → ¬ X c j) : RepC M1 k S := by
  obtain ⟨h1, h2, h3, h4, h5, h6, h7⟩ := h
  refine ⟨?_, ?_, ?_, fun j hj => ?_, fun j hj => ?_, fun j hj => ?_, fun j hj => ?_⟩
  · rw [hf _ _ (hx _ _ (by omega) (by omega)), h1]
  · rw [hf _ _ (hx _ _ (by omega) (by omega)), h2]
  · rw [hf _ _ (hx _ _ (by omega) (by omega)), h3]
  · rw [hf _ _ (hx _ _ (by omega) (by omega)), h4 j hj]
  · rw [hf _ _ (hx _ _ (by omega) (by omega)), h5 j hj]
  · rw [hf _ _ (hx _ _ (by omega) (by omega)), h6 j hj]
  · rw [hf _ _ (hx _ _ (by omega) (by omega)), h7 j hj]
theorem RepM.fr {X : Nat → Nat → Prop} {M M1 : Mem} {p : Nat} {S : Sv} (h : RepM M p S) (hw : WF S) (hf : Fr X M M1) (hx : ∀ j, p ≤ j → j < p + 72 → ¬ X 55 j) (hx2 : ¬ X 54 2) : RepM M1 p S := by
  obtain ⟨h1, h2, h3, h4, h5, h6, h7⟩ := h
  have w0 := hw.1
  have w1 := hw.2.1
  refine ⟨?_, ?_, ?_, fun t w ht hw => ?_, fun j hj => ?_, fun j hj => ?_, fun j hj => ?_⟩
  · rw [hf _ _ (hx _ (by omega) (by omega)), h1]
  · rw [hf _ _ hx2, h2]
  · rw [hf _ _ (hx _ (by omega) (by omega)), h3]
  · rw [hf _ _ (hx _ (by omega) (by omega)), h4 t w ht hw]
  · rw [hf _ _ (hx _ (by omega) (by omega)), h5 j hj]
  · rw [hf _ _ (hx _ (by omega) (by omega)), h6 j hj]
  · rw [hf _ _ (hx _ (by omega) (by omega)), h7 j hj]
/-! THE RELATION between the class's cells and the model's -/
def cutsL : List Int32 := [0, 3, 9, 14, 18, 22, 29, 33, 38]
def lettersL : List Int32 := [116, 117, 98, 98, 111, 116, 116, 108, 101, 112, 105, 97, 110, 111, 99, 111, 111, 112, 104, 101, 105, 114, 99, 117, 114, 114, 101, 110, 116, 119, 105, 110, 100, 112, 104, 97, 115, 101]
def RTape (M : Mem) : Prop := ∃ n, n ≤ 160 ∧ M 2 1 = nI n ∧ M 54 9 = nI n ∧ ∀ j, j < n → ∃ b, b < 128 ∧ M 3 j = nI b ∧ M 58 j = nI b
def RSeen (M : Mem) : Prop := ∃ n, n ≤ 6 ∧ M 0 15 = nI n ∧ M 54 29 = nI n ∧ ∀ j, j < n → ∃ t b e, t < 4 ∧ b ≤ 24 ∧ e ≤ 30 ∧ M 47 j = nI t ∧ M 48 j = nI b ∧ M 49 j = nI e ∧ M 69 (3 * j) = nI t ∧ M 69 (3 * j + 1) = nI b ∧ M 69 (3 * j + 2) = nI e
def RKept (M : Mem) (k : Nat) : Prop := (M 30 k = 0 ∧ M 71 k = 0) ∨ (M 30 k = 1 ∧ M 71 k = 1 ∧ ∃ I, WF I ∧ RepC M (20 + 5 * k) I ∧ RepM M (72 * (k + 1)) I)
def RSheet (M : Mem) (k : Nat) : Prop := M (32 + 2 * k) 1 = M 72 k ∧ (M 72 k = -4 ∨ ∃ l, l < 3 ∧ M 72 k = nI l) ∧ ∃ n, n ≤ 40 ∧ M (32 + 2 * k) 2 = nI n ∧ M 73 k = nI n ∧ ∀ j, j < n → M (33 + 2 * k) j = M 74 (40 * k + j)
def RConst (M : Mem) : Prop := (M 56 0 = 1 ∧ M 56 1 = 0 ∧ M 56 2 = 2 ∧ M 56 3 = 3) ∧ (∀ j, j < 9 → M 59 j = cutsL.getD j 0) ∧ (∀ j, j < 38 → M 60 j = lettersL.getD j 0) ∧ M 54 25 = 0
def RSea (M : Mem) (S : Sv) : Prop := WF S ∧ RepC M 9 S ∧ RepM M 0 S
def Rel (M : Mem) : Prop := (∃ S, RSea M S) ∧ RTape M ∧ M 1 2 = M 54 10 ∧ RSeen M ∧ (RKept M 0 ∧ RKept M 1) ∧ (∀ k, k < 4 → RSheet M k) ∧ M 0 16 = M 54 35 ∧ RConst M
/-- scratch: the trial sea, the day, small rows; the model's day, its page tried -/
def Scr (c j : Nat) : Prop := (14 ≤ c ∧ c ≤ 18) ∨ (40 ≤ c ∧ c ≤ 46) ∨ (50 ≤ c ∧ c ≤ 53) ∨ (61 ≤ c ∧ c ≤ 68) ∨ c = 70 ∨ (c = 55 ∧ 216 ≤ j)
theorem RTape.fr {X : Nat → Nat → Prop} {M M1 : Mem} (h : RTape M) (hf : Fr X M M1) (h1 : ¬ X 2 1) (h2 : ∀ j, ¬ X 3 j) (h3 : ¬ X 54 9) (h4 : ∀ j, ¬ X 58 j) : RTape M1 := by
  obtain ⟨n, a, b, c, d⟩ := h
  refine ⟨n, a, by rw [hf _ _ h1, b], by rw [hf _ _ h3, c], fun j hj => ?_⟩
  rw [hf _ _ (h2 j), hf _ _ (h4 j)]
  exact d j hj
theorem RSeen.fr {X : Nat → Nat → Prop} {M M1 : Mem} (h : RSeen M) (hf : Fr X M M1) (h1 : ¬ X 0 15) (h2 : ∀ c j, 47 ≤ c → c ≤ 49 → ¬ X c j) (h3 : ¬ X 54 29) (h4 : ∀ j, ¬ X 69 j) : RSeen M1 := by
  obtain ⟨n, a, b, c, d⟩ := h
  refine ⟨n, a, by rw [hf _ _ h1, b], by rw [hf _ _ h3, c], fun j hj => ?_⟩
  rw [hf 47 _ (h2 _ _ (by omega) (by omega)), hf 48 _ (h2 _ _ (by omega) (by omega)), hf 49 _ (h2 _ _ (by omega) (by omega)), hf _ _ (h4 _), hf _ _ (h4 _), hf _ _ (h4 _)]
  exact d j hj
theorem RKept.fr {X : Nat → Nat → Prop} {M M1 : Mem} {k : Nat} (h : RKept M k) (hf : Fr X M M1) (h1 : ¬ X 30 k) (h2 : ∀ c j, 20 + 5 * k ≤ c → c ≤ 24 + 5 * k → ¬ X c j) (h3 : ¬ X 71 k) (h4 : ∀ j, 72 * (k + 1) ≤ j → j < 72 * (k + 1) + 72 → ¬ X 55 j) (h5 : ¬ X 54 2) : RKept M1 k := by
  rcases h with ⟨a, b⟩ | ⟨a, b, I, w, rc, rm⟩
  · exact Or.inl ⟨by rw [hf _ _ h1, a], by rw [hf _ _ h3, b]⟩
  · exact Or.inr ⟨by rw [hf _ _ h1, a], by rw [hf _ _ h3, b], I, w, rc.fr hf (fun c j q1 q2 => h2 c j q1 (by omega)), rm.fr w hf h4 h5⟩
theorem RSheet.fr {X : Nat → Nat → Prop} {M M1 : Mem} {k : Nat} (h : RSheet M k) (hf : Fr X M M1) (h1 : ∀ j, ¬ X (32 + 2 * k) j) (h2 : ∀ j, ¬ X (33 + 2 * k) j) (h3 : ¬ X 72 k) (h4 : ¬ X 73 k) (h5 : ∀ j, 40 * k ≤ j → j < 40 * k + 40 → ¬ X 74 j) : RSheet M1 k := by
  obtain ⟨a, b, n, c, d, e, f⟩ := h
  refine ⟨by rw [hf _ _ (h1 _), hf _ _ h3, a], by rw [hf _ _ h3]; exact b, n, c, by rw [hf _ _ (h1 _), d], by rw [hf _ _ h4, e], fun j hj => ?_⟩
  rw [hf _ _ (h2 _), hf _ _ (h5 _ (by omega) (by omega))]
  exact f j hj
theorem RConst.fr {X : Nat → Nat → Prop} {M M1 : Mem} (h : RConst M) (hf : Fr X M M1) (h1 : ∀ j, ¬ X 56 j) (h2 : ∀ j, ¬ X 59 j) (h3 : ∀ j, ¬ X 60 j) (h4 : ¬ X 54 25) : RConst M1 := by
  obtain ⟨⟨a, b, c, d⟩, e, f, g⟩ := h
  refine ⟨⟨by rw [hf _ _ (h1 _), a], by rw [hf _ _ (h1 _), b], by rw [hf _ _ (h1 _), c], by rw [hf _ _ (h1 _), d]⟩, fun j hj => by rw [hf _ _ (h2 j)]; exact e j hj, fun j hj => by rw [hf _ _ (h3 j)]; exact f j hj, by rw [hf _ _ h4, g]⟩
theorem RSea.fr {X : Nat → Nat → Prop} {M M1 : Mem} {S : Sv} (h : RSea M S) (hf : Fr X M M1) (h1 : ∀ c j, 9 ≤ c → c ≤ 13 → ¬ X c j) (h2 : ∀ j, j < 72 → ¬ X 55 j) (h3 : ¬ X 54 2) : RSea M1 S :=
  ⟨h.1, h.2.1.fr hf (fun c j a b => h1 c j a b), h.2.2.fr h.1 hf (fun j _ b => h2 j (by omega)) h3⟩
theorem Rel.scr {M M1 : Mem} (h : Rel M) (hf : Fr Scr M M1) : Rel M1 := by
  obtain ⟨⟨S, h1⟩, h2, h3, h4, ⟨h5, h6⟩, h7, h8, h9⟩ := h
  refine ⟨⟨S, h1.fr hf (fun c j a b => by unfold Scr; omega) (fun j a => by unfold Scr; omega) (by unfold Scr; omega)⟩, h2.fr hf (by unfold Scr; omega) (fun j => by unfold Scr; omega) (by unfold Scr; omega) (fun j => by unfold Scr; omega), ?_, h4.fr hf (by unfold Scr; omega) (fun c j a b => by unfold Scr; omega) (by unfold Scr; omega) (fun j => by unfold Scr; omega), ⟨?_, ?_⟩, fun k hk => ?_, ?_, ?_⟩
  · rw [hf _ _ (by unfold Scr; omega), hf _ _ (by unfold Scr; omega), h3]
  · exact h5.fr hf (by unfold Scr; omega) (fun c j a b => by unfold Scr; omega) (by unfold Scr; omega) (fun j a b => by unfold Scr; omega) (by unfold Scr; omega)
  · exact h6.fr hf (by unfold Scr; omega) (fun c j a b => by unfold Scr; omega) (by unfold Scr; omega) (fun j a b => by unfold Scr; omega) (by unfold Scr; omega)
  · exact (h7 k hk).fr hf (fun j => by unfold Scr; omega) (fun j => by unfold Scr; omega) (by unfold Scr; omega) (by unfold Scr; omega) (fun j a b => by unfold Scr; omega)
  · rw [hf _ _ (by unfold Scr; omega), hf _ _ (by unfold Scr; omega), h8]
  · exact h9.fr hf (fun j => by unfold Scr; omega) (fun j => by unfold Scr; omega) (fun j => by unfold Scr; omega) (by unfold Scr; omega)
