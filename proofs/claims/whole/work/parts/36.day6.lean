theorem sumN_congr {f g : Nat → Nat} : ∀ n, (∀ i, i < n → f i = g i) → sumN f n = sumN g n
  | 0, _ => rfl
  | n + 1, h => by
    show sumN f n + f n = sumN g n + g n
    rw [sumN_congr n (fun i hi => h i (by omega)), h n (by omega)]
def sumW (S : Sv) (b : Nat → Bool) (T : Nat) : Nat := sumN (fun t => if b t then S 1 (5 * t + 4) else 0) T
theorem sumW_congr {S : Sv} {b c : Nat → Bool} {T : Nat} (h : ∀ t, t < T → b t = c t) : sumW S b T = sumW S c T := sumN_congr T (fun i hi => by rw [h i hi])
theorem bmask_congr {b c : Nat → Bool} {T : Nat} (h : ∀ t, t < T → b t = c t) : bmask b T = bmask c T := sumN_congr T (fun i hi => by rw [h i hi])
theorem sumW_t {S : Sv} {b : Nat → Bool} {t : Nat} (h : b t = true) : sumW S b (t + 1) = sumW S b t + S 1 (5 * t + 4) := by
  show sumW S b t + (if b t = true then _ else _) = _
  rw [if_pos h]
theorem sumW_f {S : Sv} {b : Nat → Bool} {t : Nat} (h : ¬ b t = true) : sumW S b (t + 1) = sumW S b t := by
  show sumW S b t + (if b t = true then _ else _) = _
  rw [if_neg h]
  rfl
theorem bmask_t {b : Nat → Bool} {t : Nat} (h : b t = true) : bmask b (t + 1) = bmask b t + 2 ^ t := by
  show bmask b t + (if b t = true then _ else _) = _
  rw [if_pos h]
theorem bmask_f {b : Nat → Bool} {t : Nat} (h : ¬ b t = true) : bmask b (t + 1) = bmask b t := by
  show bmask b t + (if b t = true then _ else _) = _
  rw [if_neg h]
  rfl
theorem sumW_le {S : Sv} (hW : WF S) (b : Nat → Bool) : ∀ T, T ≤ S 0 0 → sumW S b T ≤ 99 * T
  | 0, _ => Nat.zero_le _
  | T + 1, h => by
    have ih := sumW_le hW b T (by omega)
    have := hW.2.2.2.1 T (by omega)
    by_cases q : b T = true
    · rw [sumW_t q]; omega
    · rw [sumW_f q]; omega
/-- the heir of a tub after n hours -/
def hkS1 (S : Sv) (n t : Nat) : Int := (hookS S t n).1
theorem hk_b {S : Sv} (hW : WF S) (n t : Nat) : -4 ≤ hkS1 S n t ∧ hkS1 S n t ≤ 4 := by
  have := hW.2.1
  unfold hkS1
  rcases hook_rng hW (t := t) n with ⟨a, -⟩ | ⟨i, -, a, -, b, -⟩ <;> omega
theorem hd_b {S : Sv} (hW : WF S) {n : Nat} (t : Nat) (hn : n ≤ 24) : -4 ≤ (hookS S t n).2 ∧ (hookS S t n).2 ≤ 24 := by
  rcases hook_rng hW (t := t) n with ⟨-, a⟩ | ⟨i, h, -, a, -, b⟩ <;> omega
theorem way1 {S : Sv} (hW : WF S) {n t : Nat} (ht : t < S 0 0) : wayM S t n n = 1 ↔ hkS1 S n t ≠ -4 := by
  unfold wayM hkS1
  have := sail_ok hW ht n
  constructor
  · intro h
    split at h
    · rcases this with ⟨q, -⟩ | ⟨q, -⟩ | ⟨q, -⟩ <;> omega
    · assumption
  · intro h
    rw [if_neg h]
theorem wayOf_ok {M : Mem} {S : Sv} {t n : Nat} (hW : WF S) (ht : t < S 0 0) (hd : DayC M t S n) : f_X0_wayOf (nI t) M = some (nI (wayM S t n n)) := by
  have t4 : t < 4 := Nat.lt_of_lt_of_le ht hW.1
  have hb := hk_b hW n t
  unfold hkS1 at hb
  unfold f_X0_wayOf wayM
  rw [rd_ok t4 (by omega), hd.2.1, rd_ok t4 (by omega), hd.1.2.2.1, show (-4 : Int32) = iI (-4) from rfl]
  by_cases q : (hookS S t n).1 = -4
  · rw [if_pos ((iI_eq (by omega) (by omega)).mpr q), if_pos q]
  · rw [if_neg (fun z => q ((iI_eq (by omega) (by omega)).mp z)), if_neg q]
    rfl
def CD (c _j : Nat) : Prop := 41 ≤ c ∧ c ≤ 46
theorem DayC.fr {M M1 : Mem} {S : Sv} {t n : Nat} {X : Nat → Nat → Prop} (h : DayC M t S n) (hf : Fr X M M1) (hx : ∀ c, ¬ X c t) : DayC M1 t S n := by
  obtain ⟨⟨a, b, c, d⟩, e, f⟩ := h
  exact ⟨⟨by rw [hf _ _ (hx _), a], by rw [hf _ _ (hx _), b], by rw [hf _ _ (hx _), c], by rw [hf _ _ (hx _), d]⟩, by rw [hf _ _ (hx _), e], by rw [hf _ _ (hx _), f]⟩
theorem run_ok {M : Mem} {k : Nat} {S : Sv} (hC : RepC M k S) (hk : k + 4 < 41) (hW : WF S) : ∃ M1, f_X0_run k M = some M1 ∧ Fr CD M M1 ∧ ∀ t, t < S 0 0 → DayC M1 t S 24 := by
  have hT := hW.1
  have go : ∀ f i M0, i ≤ S 0 0 → S 0 0 - i < f → Fr CD M M0 → (∀ t, t < i → DayC M0 t S 24) → ∃ M1, f_X0_run_2 k f (nI i) M0 = some M1 ∧ Fr CD M M1 ∧ ∀ t, t < S 0 0 → DayC M1 t S 24 := by
    intro f
    induction f with
    | zero => intro i _ _ h; omega
    | succ f ih =>
      intro i M0 hi hf hfr hd
      have hC0 := hC.fr hfr (fun c j a b => by unfold CD; omega)
      unfold f_X0_run_2
      rw [hC0.1]
      by_cases q : i = S 0 0
      · subst q
        rw [if_pos ((nI_leN (by omega) (by omega)).mpr (by omega))]
        exact ⟨M0, rfl, hfr, hd⟩
      · rw [if_neg (fun z => q (by have := (nI_leN (by omega) (by omega)).mp z; omega))]
        obtain ⟨M1, a1, a2, a3⟩ := runTub_ok hC0 hk hW (show i < S 0 0 by omega) (show 24 ≤ 24 by omega)
        rw [show (24 : Int32) = nI 24 from rfl, a1]
        simp only [Option.bind_some]
        rw [show (1 : Int32) = nI 1 from rfl, nI_add]
        refine ih (i + 1) M1 (by omega) (by omega) (hfr.trans (a2.mono (fun c j z => by unfold Day6 at z; unfold CD; omega))) (fun t ht => ?_)
        by_cases qt : t = i
        · subst qt; exact a3
        · exact (hd t (by omega)).fr a2 (fun c => by unfold Day6; omega)
  exact go FU 0 M (by omega) (FU_gt (by omega)) Fr.rfl' (fun t ht => by omega)
/-! sums over the tubs: the class -/
theorem estOfC {M : Mem} {k : Nat} {S : Sv} {hk : Nat → Int} {v : Int} (hC : RepC M k S) (hW : WF S) (h45 : ∀ t, t < S 0 0 → M 45 t = iI (hk t)) (hb : ∀ t, -4 ≤ hk t ∧ hk t ≤ 4) (hv : -4 ≤ v ∧ v ≤ 100) : f_X0_estatesOf k (iI v) M = some (nI (sumW S (fun t => decide (hk t = v)) (S 0 0))) := by
  have hT := hW.1
  have go : ∀ f i, i ≤ S 0 0 → S 0 0 - i < f → f_X0_estatesOf_5 k (iI v) M f (nI (sumW S (fun t => decide (hk t = v)) i)) (nI i) = some (nI (sumW S (fun t => decide (hk t = v)) (S 0 0))) := by
    intro f
    induction f with
    | zero => intro i _ h; omega
    | succ f ih =>
      intro i hi hf
      unfold f_X0_estatesOf_5 f_X0_estatesOf_35
      rw [hC.1]
      by_cases q : i = S 0 0
      · rw [if_pos ((nI_leN (by omega) (by omega)).mpr (by omega)), q]
      · have hbi := hb i
        rw [if_neg (fun z => q (by have := (nI_leN (by omega) (by omega)).mp z; omega)), rd_ok (by omega) (by omega), h45 i (by omega), show (4 : Int32) = nI 4 from rfl, ofTubC hC hW.1 (by omega) (by omega), show (1 : Int32) = nI 1 from rfl, nI_add]
        simp only [Option.bind_some, li]
        have r := ih (i + 1) (by omega) (by omega)
        by_cases w : hk i = v
        · rw [if_pos ((iI_eq (by omega) (by omega)).mpr w), nI_add]
          rw [sumW_t (by simpa using w)] at r
          exact r
        · rw [if_neg (fun z => w ((iI_eq (by omega) (by omega)).mp z))]
          rw [sumW_f (by simpa using w)] at r
          exact r
  exact go FU 0 (by omega) (FU_gt (by omega))
theorem estHkC {M : Mem} {k : Nat} {S : Sv} {hk : Nat → Int} (hC : RepC M k S) (hW : WF S) (h45 : ∀ t, t < S 0 0 → M 45 t = iI (hk t)) (hb : ∀ t, -4 ≤ hk t ∧ hk t ≤ 4) : f_X0_estatesHooked k M = some (nI (sumW S (fun t => decide (hk t ≠ -4)) (S 0 0))) := by
  have hT := hW.1
  have go : ∀ f i, i ≤ S 0 0 → S 0 0 - i < f → f_X0_estatesHooked_4 k M f (nI (sumW S (fun t => decide (hk t ≠ -4)) i)) (nI i) = some (nI (sumW S (fun t => decide (hk t ≠ -4)) (S 0 0))) := by
    intro f
    induction f with
    | zero => intro i _ h; omega
    | succ f ih =>
      intro i hi hf
      unfold f_X0_estatesHooked_4 f_X0_estatesHooked_32
      rw [hC.1]
      by_cases q : i = S 0 0
      · rw [if_pos ((nI_leN (by omega) (by omega)).mpr (by omega)), q]
      · have hbi := hb i
        rw [if_neg (fun z => q (by have := (nI_leN (by omega) (by omega)).mp z; omega)), rd_ok (by omega) (by omega), h45 i (by omega), show (-4 : Int32) = iI (-4) from rfl, show (4 : Int32) = nI 4 from rfl, ofTubC hC hW.1 (by omega) (by omega), show (1 : Int32) = nI 1 from rfl, nI_add]
        simp only [Option.bind_some, li]
        have r := ih (i + 1) (by omega) (by omega)
        by_cases w : hk i = -4
        · rw [if_pos ((iI_eq (by omega) (by omega)).mpr w)]
          rw [sumW_f (by simpa using w)] at r
          exact r
        · rw [if_neg (fun z => w ((iI_eq (by omega) (by omega)).mp z)), nI_add]
          rw [sumW_t (by simpa using w)] at r
          exact r
  exact go FU 0 (by omega) (FU_gt (by omega))
theorem tubsOfC {M : Mem} {k : Nat} {S : Sv} {hk : Nat → Int} {v : Int} (hC : RepC M k S) (hW : WF S) (h45 : ∀ t, t < S 0 0 → M 45 t = iI (hk t)) (hb : ∀ t, -4 ≤ hk t ∧ hk t ≤ 4) (hv : -4 ≤ v ∧ v ≤ 100) : f_X0_tubsOf k (iI v) M = some (nI (bmask (fun t => decide (hk t = v)) (S 0 0))) := by
  have hT := hW.1
  have go : ∀ f i, i ≤ S 0 0 → S 0 0 - i < f → f_X0_tubsOf_5 k (iI v) M f (nI (bmask (fun t => decide (hk t = v)) i)) (nI i) = some (nI (bmask (fun t => decide (hk t = v)) (S 0 0))) := by
    intro f
    induction f with
    | zero => intro i _ h; omega
    | succ f ih =>
      intro i hi hf
      unfold f_X0_tubsOf_5 f_X0_tubsOf_32
      rw [hC.1]
      by_cases q : i = S 0 0
      · rw [if_pos ((nI_leN (by omega) (by omega)).mpr (by omega)), q]
      · have hbi := hb i
        rw [if_neg (fun z => q (by have := (nI_leN (by omega) (by omega)).mp z; omega)), rd_ok (by omega) (by omega), h45 i (by omega), one_shl (by omega), nI_orP (bmask_lt _ _)]
        simp only [li]
        rw [show (1 : Int32) = nI 1 from rfl, nI_add]
        have r := ih (i + 1) (by omega) (by omega)
        by_cases w : hk i = v
        · rw [if_pos ((iI_eq (by omega) (by omega)).mpr w)]
          rw [bmask_t (by simpa using w)] at r
          exact r
        · rw [if_neg (fun z => w ((iI_eq (by omega) (by omega)).mp z))]
          rw [bmask_f (by simpa using w)] at r
          exact r
  exact go FU 0 (by omega) (FU_gt (by omega))
theorem tubsWayC {M : Mem} {k w n : Nat} {S : Sv} (hC : RepC M k S) (hW : WF S) (hd : ∀ t, t < S 0 0 → DayC M t S n) (hw : w < 100) : f_X0_tubsOfWay k (nI w) M = some (nI (bmask (fun t => decide (wayM S t n n = w)) (S 0 0))) := by
  have hT := hW.1
  have go : ∀ f i, i ≤ S 0 0 → S 0 0 - i < f → f_X0_tubsOfWay_5 k (nI w) M f (nI (bmask (fun t => decide (wayM S t n n = w)) i)) (nI i) = some (nI (bmask (fun t => decide (wayM S t n n = w)) (S 0 0))) := by
    intro f
    induction f with
    | zero => intro i _ h; omega
    | succ f ih =>
      intro i hi hf
      unfold f_X0_tubsOfWay_5 f_X0_tubsOfWay_31
      rw [hC.1]
      by_cases q : i = S 0 0
      · rw [if_pos ((nI_leN (by omega) (by omega)).mpr (by omega)), q]
      · have wl := wayM_lt hW (show i < S 0 0 by omega) n n
        rw [if_neg (fun z => q (by have := (nI_leN (by omega) (by omega)).mp z; omega)), wayOf_ok hW (by omega) (hd i (by omega)), one_shl (by omega), nI_orP (bmask_lt _ _)]
        simp only [li, Option.bind_some]
        rw [show (1 : Int32) = nI 1 from rfl, nI_add]
        have r := ih (i + 1) (by omega) (by omega)
        by_cases z : wayM S i n n = w
        · rw [if_pos ((nI_eq (by omega) (by omega)).mpr z)]
          rw [bmask_t (by simpa using z)] at r
          exact r
        · rw [if_neg (fun y => z ((nI_eq (by omega) (by omega)).mp y))]
          rw [bmask_f (by simpa using z)] at r
          exact r
  exact go FU 0 (by omega) (FU_gt (by omega))
/-! the model's -/
def selM (S : Sv) (n w : Nat) (v : Int) (t : Nat) : Bool := decide (wayM S t n n = w ∧ (v = -4 ∨ hkS1 S n t = v))
theorem estOfM {M : Mem} {p n : Nat} {S : Sv} {v : Int} (hE : RepE M p S) (hp : p + 72 ≤ 360) (hW : WF S) (hd : ∀ t, t < S 0 0 → MidM M S t n n) (hv : -4 ≤ v ∧ v ≤ 100) : f_X6_estatesOf (nI p) (iI v) M = some (nI (sumW S (selM S n 1 v) (S 0 0))) := by
  have hT := hW.1
  have go : ∀ f i, i ≤ S 0 0 → S 0 0 - i < f → f_X6_estatesOf_5 (nI p) (iI v) M f (nI (sumW S (selM S n 1 v) i)) (nI i) = some (nI (sumW S (selM S n 1 v) (S 0 0))) := by
    intro f
    induction f with
    | zero => intro i _ h; omega
    | succ f ih =>
      intro i hi hf
      unfold f_X6_estatesOf_5 f_X6_estatesOf_48 f_X6_estatesOf_63 f_X6_estatesOf_64
      rw [show (20 : Int32) = nI 20 from rfl, nI_add, rd_ok (by omega) (by omega), hE.1]
      by_cases q : i = S 0 0
      · rw [if_pos ((nI_leN (by omega) (by omega)).mpr (by omega)), q]
      · have hi' : i < S 0 0 := by omega
        have wl := wayM_lt hW hi' n n
        have hbi := hk_b hW n i
        unfold hkS1 at hbi
        have r4 := hE.2.2.2.1 i 4 hi' (by omega)
        rw [show p + 4 * 4 + i = p + 16 + i by omega] at r4
        rw [if_neg (fun z => q (by have := (nI_leN (by omega) (by omega)).mp z; omega)), rd_ok (by omega) (by omega), (hd i hi').2.1, rd_ok (by omega) (by omega), (hd i hi').2.2.2.1, show (16 : Int32) = nI 16 from rfl, nI_add, nI_add, rd_ok (by omega) (by omega), r4]
        simp only [li]
        rw [show (1 : Int32) = nI 1 from rfl, nI_add, nI_add, show (0 : Int32) = nI 0 from rfl, nI_add, show (-4 : Int32) = iI (-4) from rfl, Nat.add_zero]
        have r := ih (i + 1) (by omega) (by omega)
        have yes : selM S n 1 v i = true → f_X6_estatesOf_5 (nI p) (iI v) M f (nI (sumW S (selM S n 1 v) i + S 1 (5 * i + 4))) (nI (i + 1)) = some (nI (sumW S (selM S n 1 v) (S 0 0))) := by
          intro z
          rw [sumW_t z] at r
          exact r
        have no : ¬ selM S n 1 v i = true → f_X6_estatesOf_5 (nI p) (iI v) M f (nI (sumW S (selM S n 1 v) i)) (nI (i + 1)) = some (nI (sumW S (selM S n 1 v) (S 0 0))) := by
          intro z
          rw [sumW_f z] at r
          exact r
        unfold selM hkS1 at yes no
        rw [decide_eq_true_iff] at yes no
        by_cases w : wayM S i n n = 1
        · rw [if_pos ((nI_eq (by omega) (by omega)).mpr w)]
          by_cases z : v = -4
          · rw [if_pos ((iI_eq (by omega) (by omega)).mpr z)]
            exact yes ⟨w, Or.inl z⟩
          · rw [if_neg (fun y => z ((iI_eq (by omega) (by omega)).mp y))]
            by_cases z2 : (hookS S i n).1 = v
            · rw [if_pos ((iI_eq (by omega) (by omega)).mpr z2)]
              exact yes ⟨w, Or.inr z2⟩
            · rw [if_neg (fun y => z2 ((iI_eq (by omega) (by omega)).mp y))]
              exact no (fun y => by rcases y.2 with y | y; exact z y; exact z2 y)
        · rw [if_neg (fun y => w ((nI_eq (by omega) (by omega)).mp y))]
          exact no (fun y => w y.1)
  exact go FU 0 (by omega) (FU_gt (by omega))
theorem tubsOfM {M : Mem} {n w : Nat} {S : Sv} {v : Int} (h20 : M 55 20 = nI (S 0 0)) (hW : WF S) (hd : ∀ t, t < S 0 0 → MidM M S t n n) (hv : -4 ≤ v ∧ v ≤ 100) (hw : w < 100) : f_X6_tubsOf (nI w) (iI v) M = some (nI (bmask (selM S n w v) (S 0 0))) := by
  have hT := hW.1
  have go : ∀ f i, i ≤ S 0 0 → S 0 0 - i < f → f_X6_tubsOf_5 (nI w) (iI v) M f (nI (bmask (selM S n w v) i)) (nI i) = some (nI (bmask (selM S n w v) (S 0 0))) := by
    intro f
    induction f with
    | zero => intro i _ h; omega
    | succ f ih =>
      intro i hi hf
      unfold f_X6_tubsOf_5 f_X6_tubsOf_46 f_X6_tubsOf_53 f_X6_tubsOf_54
      rw [rd_lit 20 (by omega) (by omega), h20]
      by_cases q : i = S 0 0
      · rw [if_pos ((nI_leN (by omega) (by omega)).mpr (by omega)), q]
      · have hi' : i < S 0 0 := by omega
        have wl := wayM_lt hW hi' n n
        have hbi := hk_b hW n i
        unfold hkS1 at hbi
        rw [if_neg (fun z => q (by have := (nI_leN (by omega) (by omega)).mp z; omega)), rd_ok (by omega) (by omega), (hd i hi').2.1, rd_ok (by omega) (by omega), (hd i hi').2.2.2.1, one_shl (by omega), nI_orP (bmask_lt _ _)]
        simp only [li]
        rw [show (1 : Int32) = nI 1 from rfl, nI_add, show (0 : Int32) = nI 0 from rfl, nI_or, Nat.or_zero, show (-4 : Int32) = iI (-4) from rfl]
        have r := ih (i + 1) (by omega) (by omega)
        have yes : selM S n w v i = true → f_X6_tubsOf_5 (nI w) (iI v) M f (nI (bmask (selM S n w v) i + 2 ^ i)) (nI (i + 1)) = some (nI (bmask (selM S n w v) (S 0 0))) := by
          intro z
          rw [bmask_t z] at r
          exact r
        have no : ¬ selM S n w v i = true → f_X6_tubsOf_5 (nI w) (iI v) M f (nI (bmask (selM S n w v) i)) (nI (i + 1)) = some (nI (bmask (selM S n w v) (S 0 0))) := by
          intro z
          rw [bmask_f z] at r
          exact r
        unfold selM hkS1 at yes no
        rw [decide_eq_true_iff] at yes no
        by_cases x : wayM S i n n = w
        · rw [if_pos ((nI_eq (by omega) (by omega)).mpr x)]
          by_cases z : v = -4
          · rw [if_pos ((iI_eq (by omega) (by omega)).mpr z)]
            exact yes ⟨x, Or.inl z⟩
          · rw [if_neg (fun y => z ((iI_eq (by omega) (by omega)).mp y))]
            by_cases z2 : (hookS S i n).1 = v
            · rw [if_pos ((iI_eq (by omega) (by omega)).mpr z2)]
              exact yes ⟨x, Or.inr z2⟩
            · rw [if_neg (fun y => z2 ((iI_eq (by omega) (by omega)).mp y))]
              exact no (fun y => by rcases y.2 with y | y; exact z y; exact z2 y)
        · rw [if_neg (fun y => x ((nI_eq (by omega) (by omega)).mp y))]
          exact no (fun y => x y.1)
  exact go FU 0 (by omega) (FU_gt (by omega))
/-! the two agree -/
theorem sel_heir {S : Sv} (hW : WF S) {n i t : Nat} (ht : t < S 0 0) : selM S n 1 (i : Int) t = decide (hkS1 S n t = (i : Int)) := by
  unfold selM
  rw [decide_eq_decide, way1 hW ht]
  omega
theorem sel_any {S : Sv} (hW : WF S) {n t : Nat} (ht : t < S 0 0) : selM S n 1 (-4) t = decide (hkS1 S n t ≠ -4) := by
  unfold selM
  rw [decide_eq_decide, way1 hW ht]
  omega
theorem sel_way {S : Sv} {n w t : Nat} : selM S n w (-4) t = decide (wayM S t n n = w) := by
  unfold selM
  rw [decide_eq_decide]
  omega
