theorem nI_div {a b : Nat} (ha : a < 2147483648) (hb : b < 2147483648) : nI a / nI b = nI (a / b) := by
  rw [← iI_nI, ← iI_nI, ← iI_nI]
  unfold iI
  have m1 : Int32.minValue.toInt = -2147483648 := by decide
  have m2 : Int32.maxValue.toInt = 2147483647 := by decide
  rw [← Int32.ofInt_tdiv (by omega) (by omega) (by omega) (by omega), Int.ofNat_tdiv]
/-! ONE DAY, as numbers: x, y, course, hour over -/
abbrev TS : Type := Int × Int × Nat × Int
def wdg (k : Nat) : Int := if k = 0 then 1 else if k = 1 then 0 else if k = 2 then 2 else 3
def wX (w : Nat) : Int := if w = 2 then 1 else if w = 4 then -1 else 0
def wY (w : Nat) : Int := if w = 3 then 1 else if w = 1 then -1 else 0
def tideS (S : Sv) (h : Nat) : Int := if (h + S 0 2) / 3 % 2 = 0 then 1 else -1
def hx (S : Sv) (t h : Nat) (u : TS) : Int := u.1 + (S 3 u.2.1.toNat : Int) - 2 + wdg (S 1 (5 * t)) * wX (S 4 h)
def hy (S : Sv) (t h : Nat) (u : TS) : Int := u.2.1 + tideS S h + wdg (S 1 (5 * t)) * wY (S 4 h)
def hourS (S : Sv) (t h : Nat) (u : TS) : TS :=
  if hy S t h u ≤ 0 then (max 0 (min 9 (hx S t h u)), 0, 2, (h : Int)) else if 9 < hy S t h u ∨ hx S t h u < 0 ∨ 9 < hx S t h u then (hx S t h u, hy S t h u, 3, (h : Int)) else (hx S t h u, hy S t h u, 0, u.2.2.2)
def initS (S : Sv) (t : Nat) : TS := ((S 1 (5 * t + 1) : Int), (S 1 (5 * t + 2) : Int), 0, -4)
def sailS (S : Sv) (t : Nat) : Nat → TS
  | 0 => initS S t
  | n + 1 => if (sailS S t n).2.2.1 = 0 ∧ S 1 (5 * t + 3) ≤ n then hourS S t n (sailS S t n) else sailS S t n
theorem wdg_b (k : Nat) : 0 ≤ wdg k ∧ wdg k ≤ 3 := by unfold wdg; split; omega; split; omega; split <;> omega
theorem wXY_b (w : Nat) : (wX w = 0 ∨ wX w = 1 ∨ wX w = -1) ∧ (wY w = 0 ∨ wY w = 1 ∨ wY w = -1) := by
  unfold wX wY
  constructor
  · split; omega; split <;> omega
  · split; omega; split <;> omega
theorem tide_b (S : Sv) (h : Nat) : tideS S h = 1 ∨ tideS S h = -1 := by unfold tideS; split <;> omega
/-- afloat -/
def Afl (u : TS) : Prop := (0 ≤ u.1 ∧ u.1 ≤ 9) ∧ (1 ≤ u.2.1 ∧ u.2.1 ≤ 9) ∧ u.2.2.1 = 0 ∧ u.2.2.2 = -4
theorem hxy_b {S : Sv} (hW : WF S) {u : TS} (hu : Afl u) (t h : Nat) : (-5 ≤ hx S t h u ∧ hx S t h u ≤ 14) ∧ -3 ≤ hy S t h u ∧ hy S t h u ≤ 13 := by
  obtain ⟨a, b, -⟩ := hu
  have c := hW.2.2.2.2.2.1 u.2.1.toNat (by omega)
  have g := wdg_b (S 1 (5 * t))
  have w := wXY_b (S 4 h)
  have ti := tide_b S h
  unfold hx hy
  generalize wdg (S 1 (5 * t)) = q at *
  obtain ⟨w1, w2⟩ := w
  constructor
  · rcases w1 with e | e | e <;> rw [e] <;> omega
  · rcases w2 with e | e | e <;> rw [e] <;> omega
/-- what a tub is after n hours -/
def TOK (n : Nat) (u : TS) : Prop := (u.2.2.1 = 0 ∧ Afl u) ∨ (u.2.2.1 = 2 ∧ (0 ≤ u.1 ∧ u.1 ≤ 9) ∧ u.2.1 = 0 ∧ 0 ≤ u.2.2.2 ∧ u.2.2.2 < n) ∨ (u.2.2.1 = 3 ∧ (-5 ≤ u.1 ∧ u.1 ≤ 14) ∧ (1 ≤ u.2.1 ∧ u.2.1 ≤ 13) ∧ 0 ≤ u.2.2.2 ∧ u.2.2.2 < n)
theorem TOK.mono {n m : Nat} {u : TS} (h : TOK n u) (hn : n ≤ m) : TOK m u := by
  rcases h with h | ⟨a, b, c, d, e⟩ | ⟨a, b, c, d, e⟩
  · exact Or.inl h
  · exact Or.inr (Or.inl ⟨a, b, c, d, by omega⟩)
  · exact Or.inr (Or.inr ⟨a, b, c, d, by omega⟩)
theorem hour_ok {S : Sv} (hW : WF S) {u : TS} (hu : Afl u) (t h : Nat) : TOK (h + 1) (hourS S t h u) := by
  obtain ⟨⟨b1, b2⟩, b3, b4⟩ := hxy_b hW hu t h
  unfold hourS
  split
  · refine Or.inr (Or.inl ⟨rfl, ⟨?_, ?_⟩, rfl, ?_, ?_⟩) <;> simp only <;> omega
  · split
    · refine Or.inr (Or.inr ⟨rfl, ⟨?_, ?_⟩, ⟨?_, ?_⟩, ?_, ?_⟩) <;> simp only <;> omega
    · refine Or.inl ⟨rfl, ⟨?_, ?_⟩, ⟨?_, ?_⟩, rfl, ?_⟩
      · simp only; omega
      · simp only; omega
      · simp only; omega
      · simp only; omega
      · exact hu.2.2.2
theorem init_ok {S : Sv} (hW : WF S) {t : Nat} (ht : t < S 0 0) : Afl (initS S t) := by
  have := hW.2.2.2.1 t ht
  refine ⟨⟨?_, ?_⟩, ⟨?_, ?_⟩, rfl, rfl⟩ <;> unfold initS <;> simp only <;> omega
theorem sail_ok {S : Sv} (hW : WF S) {t : Nat} (ht : t < S 0 0) : ∀ n, TOK n (sailS S t n)
  | 0 => Or.inl ⟨rfl, init_ok hW ht⟩
  | n + 1 => by
    have ih := sail_ok hW ht n
    unfold sailS
    split
    · next h =>
      have : Afl (sailS S t n) := by
        rcases ih with h1 | ⟨h1, -⟩ | ⟨h1, -⟩
        · exact h1.2
        · rw [h1] at h; omega
        · rw [h1] at h; omega
      exact hour_ok hW this t n
    · exact ih.mono (by omega)
theorem sail_init {S : Sv} {t : Nat} : ∀ n, n ≤ S 1 (5 * t + 3) → sailS S t n = initS S t
  | 0, _ => rfl
  | n + 1, h => by
    unfold sailS
    rw [if_neg (by omega)]
    exact sail_init n (by omega)
theorem sail_stop {S : Sv} {t i : Nat} (h : (sailS S t i).2.2.1 ≠ 0) : ∀ d, sailS S t (i + d) = sailS S t i
  | 0 => rfl
  | d + 1 => by
    have ih := sail_stop h d
    show (if (sailS S t (i + d)).2.2.1 = 0 ∧ S 1 (5 * t + 3) ≤ i + d then hourS S t (i + d) (sailS S t (i + d)) else sailS S t (i + d)) = _
    rw [ih, if_neg (fun q => h q.1)]
/-- before it is over it floats -/
theorem sail_before {S : Sv} (hW : WF S) {t : Nat} (ht : t < S 0 0) : ∀ n, (sailS S t n).2.2.1 ≠ 0 → ∃ o : Nat, (sailS S t n).2.2.2 = (o : Int) ∧ o < n ∧ (∀ j, j ≤ o → (sailS S t j).2.2.1 = 0) ∧ ∀ j, o < j → sailS S t j = sailS S t n
  | 0, h => absurd rfl h
  | n + 1, h => by
    by_cases q : (sailS S t n).2.2.1 = 0
    · have ih := sail_ok hW ht n
      refine ⟨n, ?_, by omega, fun j hj => ?_, fun j hj => ?_⟩
      · unfold sailS at h ⊢
        by_cases c : (sailS S t n).2.2.1 = 0 ∧ S 1 (5 * t + 3) ≤ n
        · rw [if_pos c] at h ⊢
          unfold hourS at h ⊢
          split
          · rfl
          · split
            · rfl
            · next c1 c2 => rw [if_neg c1, if_neg c2] at h; exact absurd rfl h
        · rw [if_neg c] at h
          exact absurd q h
      · -- float at all earlier hours
        have : ∀ d, (sailS S t (n - d)).2.2.1 = 0 := by
          intro d
          apply Classical.byContradiction
          intro hd
          have := sail_stop hd (n - (n - d))
          rw [show n - d + (n - (n - d)) = n by omega] at this
          rw [← this] at hd
          exact hd q
        have e := this (n - j)
        rw [show n - (n - j) = j by omega] at e
        exact e
      · have := sail_stop h (j - (n + 1))
        rw [show n + 1 + (j - (n + 1)) = j by omega] at this
        exact this
    · have e : sailS S t (n + 1) = sailS S t n := sail_stop q 1
      obtain ⟨o, o1, o2, o3, o4⟩ := sail_before hW ht n q
      rw [e]
      exact ⟨o, o1, by omega, o3, o4⟩
/-! the class's hour -/
theorem tideC {M : Mem} {k h : Nat} {S : Sv} (hC : RepC M k S) (hp : S 0 2 < 6) (hh : h < 24) : f_X2_tideAt k (nI h) M = some (iI (tideS S h)) := by
  unfold f_X2_tideAt tideS
  have e : ∀ a : Nat, a < 100 → nI a / 3 - nI a / 3 / 2 * 2 = nI (a / 3 % 2) := by
    intro a ha
    rw [show (3 : Int32) = nI 3 from rfl, show (2 : Int32) = nI 2 from rfl, nI_div (by omega) (by omega), nI_div (by omega) (by omega), nI_mulN, nI_subN (by omega)]
    congr 1
    omega
  rw [hC.2.2.1, nI_add, e _ (by omega)]
  by_cases q : (h + S 0 2) / 3 % 2 = 0
  · rw [if_pos ((nI_lit 0 (by omega) (by omega)).mpr q), if_pos q]
    rfl
  · rw [if_neg (fun z => q ((nI_lit 0 (by omega) (by omega)).mp z)), if_neg q]
    rfl
def SlC (M : Mem) (t : Nat) (u : TS) : Prop := M 41 t = iI u.1 ∧ M 42 t = iI u.2.1 ∧ M 43 t = nI u.2.2.1 ∧ M 44 t = iI u.2.2.2
def Day4 (t c j : Nat) : Prop := 41 ≤ c ∧ c ≤ 44 ∧ j = t
def Day6 (t c j : Nat) : Prop := 41 ≤ c ∧ c ≤ 46 ∧ j = t
theorem tbW {k : Nat} (h : k < 4) : tbV 3 k = iI (wdg k) := match k, h with
  | 0, _ => rfl
  | 1, _ => rfl
  | 2, _ => rfl
  | 3, _ => rfl
  | n + 4, h => by omega
theorem tbX {w : Nat} (h : w < 5) : tbV 4 w = iI (wX w) := match w, h with
  | 0, _ => rfl
  | 1, _ => rfl
  | 2, _ => rfl
  | 3, _ => rfl
  | 4, _ => rfl
  | n + 5, h => by omega
theorem tbY {w : Nat} (h : w < 5) : tbV 5 w = iI (wY w) := match w, h with
  | 0, _ => rfl
  | 1, _ => rfl
  | 2, _ => rfl
  | 3, _ => rfl
  | 4, _ => rfl
  | n + 5, h => by omega
theorem sail158 {M : Mem} {k t : Nat} {h x y : Int32} (ht : t < 4) : f_X0_sailHour_158 k (nI t) h x y M = some (up (up M 41 t x) 42 t y) := by
  unfold f_X0_sailHour_158
  rw [inb_ok ht (by omega), nI_clamp (by omega)]
  simp only [lm]
  rw [inb_ok ht (by omega)]
theorem sail142_0 {M : Mem} {k t : Nat} {h x y : Int32} (ht : t < 4) (h0 : M 43 t = 0) : f_X0_sailHour_142 k (nI t) h x y M = some (up (up M 41 t x) 42 t y) := by
  unfold f_X0_sailHour_142
  rw [rd_ok ht (by omega), h0, if_pos rfl, sail158 ht]
theorem sail142_1 {M : Mem} {k t : Nat} {h x y : Int32} (ht : t < 4) (h0 : M 43 t ≠ 0) : f_X0_sailHour_142 k (nI t) h x y M = some (up (up (up M 44 t h) 41 t x) 42 t y) := by
  unfold f_X0_sailHour_142
  rw [rd_ok ht (by omega), if_neg h0, inb_ok ht (by omega), nI_clamp (by omega)]
  simp only [lm]
  rw [sail158 ht]
theorem sailHour_ok {M : Mem} {k t h : Nat} {S : Sv} {u : TS} (hC : RepC M k S) (hk : k + 4 < 41) (hW : WF S) (ht : t < S 0 0) (hh : h < 24) (hs : SlC M t u) (hu : Afl u) : ∃ M1, f_X0_sailHour k (nI t) (nI h) M = some M1 ∧ Fr (Day4 t) M M1 ∧ SlC M1 t (hourS S t h u) := by
  obtain ⟨s1, s2, s3, s4⟩ := hs
  have t4 : t < 4 := Nat.lt_of_lt_of_le ht hW.1
  have hkd := (hW.2.2.2.1 t ht).1
  have hwd := hW.2.2.2.2.2.2 h hh
  obtain ⟨⟨b1, b2⟩, b3, b4⟩ := hxy_b hW hu t h
  obtain ⟨u1, u2, u3, u4⟩ := hu
  have hcu := hW.2.2.2.2.2.1 u.2.1.toNat (by omega)
  unfold f_X0_sailHour
  rw [show (0 : Int32) = nI 0 from rfl, rd_ok hh (by omega), ofTubC hC hW.1 ht (by omega)]
  simp only [Option.bind_some, Nat.add_zero]
  have ey : M 42 t = nI u.2.1.toNat := by
    rw [s2, ← iI_nI]
    congr 1
    omega
  rw [rd_ok hkd (by omega), rd_ok t4 (by omega), rd_ok t4 (by omega), ey, rd_ok (by omega) (by omega), hC.2.2.2.2.2.2 h hh, rd_ok hwd (by omega), hC.2.2.2.2.2.1 _ (by omega), tideC hC hW.2.2.1 hh]
  simp only [li, Option.bind_some]
  rw [rd_ok t4 (by omega), ey, rd_ok hwd (by omega), tbW hkd, tbX hwd, tbY hwd, s1]
  have ex : iI u.1 + nI (S 3 u.2.1.toNat) - 2 + iI (wX (S 4 h)) * iI (wdg (S 1 (5 * t))) = iI (hx S t h u) := by
    rw [← iI_nI, show (2 : Int32) = iI 2 from rfl, iI_add, iI_sub, iI_mul, iI_add]
    congr 1
    unfold hx
    rw [Int.mul_comm]
  have ey2 : nI u.2.1.toNat + iI (tideS S h) + iI (wY (S 4 h)) * iI (wdg (S 1 (5 * t))) = iI (hy S t h u) := by
    rw [← iI_nI, iI_add, iI_mul, iI_add]
    congr 1
    unfold hy
    rw [Int.mul_comm]
    congr 2
    omega
  rw [ex, ey2, show nI 0 = iI 0 from rfl]
  unfold hourS
  generalize hx S t h u = X at *
  generalize hy S t h u = Y at *
  have c3 : ∀ (X Y : Int), ∃ M1, f_X0_sailHour_135 k (nI t) (nI h) (iI X) (iI Y) M = some M1 ∧ Fr (Day4 t) M M1 ∧ SlC M1 t (X, Y, 3, (h : Int)) := by
    intro X Y
    unfold f_X0_sailHour_135
    rw [inb_ok t4 (by omega), nI_clamp (by omega)]
    simp only [lm]
    rw [sail142_1 t4 (by rw [up_same]; decide)]
    refine ⟨_, rfl, (((Fr.rfl'.up ?_).up ?_).up ?_).up ?_, ?_, ?_, ?_, ?_⟩
    · unfold Day4; omega
    · unfold Day4; omega
    · unfold Day4; omega
    · unfold Day4; omega
    · rw [up_cell (by omega), up_same]
    · rw [up_same]
    · rw [up_cell (by omega), up_cell (by omega), up_cell (by omega), up_same]; rfl
    · rw [up_cell (by omega), up_cell (by omega), up_same, iI_nI]
  by_cases q : Y ≤ 0
  · rw [if_neg (fun z => by have := (iI_lt (by omega) (by omega)).mp z; omega), if_pos q, inb_ok t4 (by omega), nI_clamp (by omega)]
    simp only [lm]
    rw [rd_lit 1 (by omega) (by omega), show tbV 1 1 = iI 9 from rfl]
    have em : (if iI 0 < (if iI X < iI 9 then iI X else iI 9) then (if iI X < iI 9 then iI X else iI 9) else iI 0) = iI (max 0 (min 9 X)) := by
      by_cases q1 : X < 9
      · rw [if_pos ((iI_lt (by omega) (by omega)).mpr q1)]
        by_cases q2 : 0 < X
        · rw [if_pos ((iI_lt (by omega) (by omega)).mpr q2)]
          congr 1
          omega
        · rw [if_neg (fun z => q2 ((iI_lt (by omega) (by omega)).mp z))]
          congr 1
          omega
      · rw [if_neg (fun z => q1 ((iI_lt (by omega) (by omega)).mp z)), if_pos ((iI_lt (by omega) (by omega)).mpr (by omega))]
        congr 1
        omega
    rw [em, sail142_1 t4 (by rw [up_same]; decide)]
    refine ⟨_, rfl, (((Fr.rfl'.up ?_).up ?_).up ?_).up ?_, ?_, ?_, ?_, ?_⟩
    · unfold Day4; omega
    · unfold Day4; omega
    · unfold Day4; omega
    · unfold Day4; omega
    · rw [up_cell (by omega), up_same]
    · rw [up_same]
    · rw [up_cell (by omega), up_cell (by omega), up_cell (by omega), up_same]; rfl
    · rw [up_cell (by omega), up_cell (by omega), up_same, iI_nI]
  · rw [if_pos ((iI_lt (by omega) (by omega)).mpr (by omega)), if_neg q, rd_lit 2 (by omega) (by omega), show tbV 1 2 = iI 9 from rfl, rd_lit 1 (by omega) (by omega), show tbV 1 1 = iI 9 from rfl]
    by_cases q1 : 9 < Y
    · rw [if_pos ((iI_lt (by omega) (by omega)).mpr q1), if_pos (Or.inl q1)]
      exact c3 X Y
    · rw [if_neg (fun z => q1 ((iI_lt (by omega) (by omega)).mp z))]
      by_cases q2 : X < 0
      · rw [if_pos ((iI_lt (by omega) (by omega)).mpr q2), if_pos (Or.inr (Or.inl q2))]
        exact c3 X Y
      · rw [if_neg (fun z => q2 ((iI_lt (by omega) (by omega)).mp z))]
        by_cases q3 : 9 < X
        · rw [if_neg (fun z => absurd ((iI_le (by omega) (by omega)).mp z) (by omega)), if_pos (Or.inr (Or.inr q3))]
          exact c3 X Y
        · rw [if_pos ((iI_le (by omega) (by omega)).mpr (by omega)), if_neg (by omega), sail142_0 t4 (by rw [s3, u3]; rfl)]
          refine ⟨_, rfl, (Fr.rfl'.up ?_).up ?_, ?_, ?_, ?_, ?_⟩
          · unfold Day4; omega
          · unfold Day4; omega
          · rw [up_cell (by omega), up_same]
          · rw [up_same]
          · rw [up_cell (by omega), up_cell (by omega), s3, u3]
          · rw [up_cell (by omega), up_cell (by omega), s4]
