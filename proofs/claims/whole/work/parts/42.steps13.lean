theorem MidM.fr' {M M1 : Mem} {S : Sv} {t a b : Nat} {X : Nat → Nat → Prop} (h : MidM M S t a b) (hf : Fr X M M1) (hx : ∀ c j, 61 ≤ c → c ≤ 66 → ¬ X c j) : MidM M1 S t a b := by
  obtain ⟨⟨h1, h2⟩, h3, h4, h5, h6⟩ := h
  exact ⟨⟨by rw [hf _ _ (hx _ _ (by omega) (by omega)), h1], by rw [hf _ _ (hx _ _ (by omega) (by omega)), h2]⟩, by rw [hf _ _ (hx _ _ (by omega) (by omega)), h3], by rw [hf _ _ (hx _ _ (by omega) (by omega)), h4], by rw [hf _ _ (hx _ _ (by omega) (by omega)), h5], by rw [hf _ _ (hx _ _ (by omega) (by omega)), h6]⟩
/-! two heirs' places -/
def rsS (S : Sv) (i k a b : Nat) : Sv := setS (setS S 2 (4 * i) a) 2 (4 * k) b
theorem rsS_0 {S : Sv} {i k a b j : Nat} : rsS S i k a b 0 j = S 0 j := by
  unfold rsS
  rw [setS_0 (by omega), setS_0 (by omega)]
theorem rsS_b (S : Sv) (i k a b b' : Nat) : setS (rsS S i k a b) 2 (4 * k) b' = rsS S i k a b' := by
  unfold rsS
  rw [setS_setS]
theorem rsS_a (S : Sv) {i k : Nat} (h : i ≠ k) (a b a' : Nat) : setS (rsS S i k a b) 2 (4 * i) a' = rsS S i k a' b := by
  unfold rsS
  rw [setS_comm _ _ _ _ _ _ (by omega), setS_setS]
theorem rsS_id (S : Sv) (i k : Nat) (h : i ≠ k) : rsS S i k (S 2 (4 * i)) (S 2 (4 * k)) = S := by
  unfold rsS
  rw [setS_id, setS_id]
theorem WF.rs {S : Sv} (hW : WF S) {i k a b : Nat} (ha : a < 10) (hb : b < 10) : WF (rsS S i k a b) := (hW.pl ha).pl hb
theorem sail_rs (S : Sv) (i k a b t n : Nat) : sailS (rsS S i k a b) t n = sailS S t n := by
  unfold rsS
  rw [sail_heir, sail_heir]
def miS (S : Sv) (i k c : Nat) : Nat := EH (rsS S i k (c / 10) (c % 10)) i
def otS (S : Sv) (i k c : Nat) : Nat := EH (rsS S i k (c / 10) (c % 10)) k
theorem mi_le {S : Sv} (hW : WF S) (i k : Nat) {c : Nat} (hc : c < 100) : miS S i k c ≤ 396 := EH_le (hW.rs (by omega) (by omega)) i
theorem ot_le {S : Sv} (hW : WF S) (i k : Nat) {c : Nat} (hc : c < 100) : otS S i k c ≤ 396 := EH_le (hW.rs (by omega) (by omega)) k
theorem mi_is (S : Sv) (i k : Nat) {a b : Nat} (hb : b < 10) : miS S i k (10 * a + b) = EH (rsS S i k a b) i := by
  unfold miS
  rw [show (10 * a + b) / 10 = a by omega, show (10 * a + b) % 10 = b by omega]
theorem ot_is (S : Sv) (i k : Nat) {a b : Nat} (hb : b < 10) : otS S i k (10 * a + b) = EH (rsS S i k a b) k := by
  unfold otS
  rw [show (10 * a + b) / 10 = a by omega, show (10 * a + b) % 10 = b by omega]
def PrC (M : Mem) (S : Sv) (i k n : Nat) : Prop := ∀ c, c < n → M 52 c = nI (miS S i k c) ∧ M 53 c = nI (otS S i k c)
def PrM (M : Mem) (S : Sv) (i k n : Nat) : Prop := ∀ c, c < n → M 67 c = nI (miS S i k c) ∧ M 68 c = nI (otS S i k c)
theorem weigh43 {S : Sv} {i k a : Nat} (hW : WF S) (hi : i < 4) (hk : k < 4) (ha : a < 10) {T : Int32 → Mem → Option Mem} (hT : ∀ M0, (∃ b, RepC M0 14 (rsS S i k a b)) → (∀ t, t < S 0 0 → SlC M0 t (sailS S t 24)) → PrC M0 S i k (10 * (a + 1)) → ∃ M1, T (nI (a + 1)) M0 = some M1 ∧ Fr CScr M0 M1 ∧ PrC M1 S i k 100) : ∀ f b M0, b ≤ 10 → 10 - b < f → (∃ b', RepC M0 14 (rsS S i k a b')) → (∀ t, t < S 0 0 → SlC M0 t (sailS S t 24)) → PrC M0 S i k (10 * a + b) → ∃ M1, f_X5_weighPairs_43 (nI i) (nI k) T f (nI a) (nI b) M0 = some M1 ∧ Fr CScr M0 M1 ∧ PrC M1 S i k 100 := by
  intro f
  induction f with
  | zero => intro h _ _ q; omega
  | succ f ih =>
    intro b M0 hb hf hC hs hp
    unfold f_X5_weighPairs_43
    by_cases q : b = 10
    · subst q
      rw [if_pos (by decide)]
      unfold f_X5_weighPairs_126
      rw [show (1 : Int32) = nI 1 from rfl, nI_add]
      exact hT M0 hC hs (by rw [show 10 * (a + 1) = 10 * a + 10 by omega]; exact hp)
    · obtain ⟨b', hC⟩ := hC
      rw [if_neg (fun z => absurd ((lit_le 10 (by omega) (by omega)).mp z) (by omega)), putHeirC0 hk]
      simp only [Option.bind_some]
      have hC1 := hC.heirU (4 * k) b
      rw [rsS_b] at hC1
      have hW1 : WF (rsS S i k a b) := hW.rs (by omega) (by omega)
      have g0 : Fr CScr M0 (up M0 (14 + 2) (4 * k) (nI b)) := Fr.rfl'.up (by unfold CScr; omega)
      obtain ⟨M1, a1, a2, a3⟩ := meetAll_ok hC1 (by omega) hW1 (fun t ht => by
        rw [rsS_0] at ht
        rw [sail_rs]
        obtain ⟨p1, p2, p3, p4⟩ := hs t ht
        exact ⟨by rw [up_cell (by omega), p1], by rw [up_cell (by omega), p2], by rw [up_cell (by omega), p3], by rw [up_cell (by omega), p4]⟩)
      have aCD := a2.mono (fun _ _ => CM_CD)
      have hC2 := hC1.cd (by omega) aCD
      rw [a1]
      simp only [Option.bind_some]
      rw [estHeirC hC2 hW1 a3 hi]
      simp only [Option.bind_some]
      rw [show (10 : Int32) = nI 10 from rfl, nI_mulN, nI_add, inb_ok (by omega) (by omega), nI_clamp (by omega)]
      simp only [lm]
      have f2 : Fr (fun c j => 50 ≤ c ∧ c ≤ 53) M1 (up M1 52 (10 * a + b) (nI (EH (rsS S i k a b) i))) := Fr.rfl'.up (by omega)
      have hC3 := hC2.fr f2 (fun c j x y => by omega)
      have d3 : ∀ t, t < rsS S i k a b 0 0 → DayC (up M1 52 (10 * a + b) (nI (EH (rsS S i k a b) i))) t (rsS S i k a b) 24 := by
        intro t ht
        obtain ⟨⟨p1, p2, p3, p4⟩, p5, p6⟩ := a3 t ht
        exact ⟨⟨by rw [up_cell (by omega), p1], by rw [up_cell (by omega), p2], by rw [up_cell (by omega), p3], by rw [up_cell (by omega), p4]⟩, by rw [up_cell (by omega), p5], by rw [up_cell (by omega), p6]⟩
      rw [estHeirC hC3 hW1 d3 hk]
      simp only [Option.bind_some]
      rw [inb_ok (by omega) (by omega), show (1 : Int32) = nI 1 from rfl, nI_add]
      have f3 : Fr (fun c j => 50 ≤ c ∧ c ≤ 53) M1 (up (up M1 52 (10 * a + b) (nI (EH (rsS S i k a b) i))) 53 (10 * a + b) (nI (EH (rsS S i k a b) k))) := f2.up (by omega)
      have f4 : Fr CScr M0 (up (up M1 52 (10 * a + b) (nI (EH (rsS S i k a b) i))) 53 (10 * a + b) (nI (EH (rsS S i k a b) k))) := (g0.trans aCD.cd).trans (f3.mono (fun c j x => by unfold CScr; omega))
      obtain ⟨M2, b1, b2, b3⟩ := ih (b + 1) _ (by omega) (by omega) ⟨b, hC2.fr f3 (fun c j x y => by omega)⟩ (fun t ht => by
        have := (a3 t (by rw [rsS_0]; exact ht)).1
        rw [sail_rs] at this
        exact this.fr f3 (fun c x y => by omega)) (fun c hc => by
        by_cases z : c = 10 * a + b
        · subst z
          rw [up_cell (show (52 : Nat) ≠ 53 by omega), up_same, up_same, mi_is S i k (by omega), ot_is S i k (by omega)]
          exact ⟨rfl, rfl⟩
        · rw [up_cell (show (52 : Nat) ≠ 53 by omega), up_slot z, up_slot z, up_cell (show (53 : Nat) ≠ 52 by omega), a2 52 c (by unfold CM; omega), a2 53 c (by unfold CM; omega), up_cell (by omega), up_cell (by omega)]
          exact hp c (by omega))
      exact ⟨M2, b1, f4.trans b2, b3⟩
theorem weigh24 {S : Sv} {i k : Nat} (hW : WF S) (hi : i < 4) (hk : k < 4) (hik : i ≠ k) : ∀ f a M0, a ≤ 10 → 10 - a < f → (∃ a' b', RepC M0 14 (rsS S i k a' b')) → (∀ t, t < S 0 0 → SlC M0 t (sailS S t 24)) → PrC M0 S i k (10 * a) → ∃ M1, f_X5_weighPairs_24 (nI i) (nI k) f (nI a) M0 = some M1 ∧ Fr CScr M0 M1 ∧ PrC M1 S i k 100 := by
  intro f
  induction f with
  | zero => intro h _ _ q; omega
  | succ f ih =>
    intro a M0 ha hf hC hs hp
    unfold f_X5_weighPairs_24
    by_cases q : a = 10
    · subst q
      rw [if_pos (by decide)]
      exact ⟨M0, rfl, Fr.rfl', hp⟩
    · obtain ⟨a', b', hC⟩ := hC
      rw [if_neg (fun z => absurd ((lit_le 10 (by omega) (by omega)).mp z) (by omega)), putHeirC0 hi]
      simp only [Option.bind_some]
      have hC1 := hC.heirU (4 * i) a
      rw [rsS_a S hik] at hC1
      have g1 : Fr (fun c j => c = 16) M0 (up M0 (14 + 2) (4 * i) (nI a)) := Fr.rfl'.up (by omega)
      obtain ⟨M1, b1, b2, b3⟩ := weigh43 hW hi hk (show a < 10 by omega) (fun M0 ⟨b, h1⟩ h2 h3 => ih (a + 1) M0 (by omega) (by omega) ⟨a, b, h1⟩ h2 h3) FU 0 _ (by omega) (FU_gt (by omega)) ⟨b', hC1⟩ (fun t ht => (hs t ht).fr g1 (fun c x y => by omega)) (fun c hc => by rw [g1 52 c (by omega), g1 53 c (by omega)]; exact hp c (by omega))
      exact ⟨M1, b1, (g1.mono (fun c j x => by unfold CScr; omega)).trans b2, b3⟩
/-! neither would go -/
def ngB (mi ot : Nat → Nat) (a b : Nat) : Nat → Bool
  | 0 => true
  | n + 1 => ngB mi ot a b n && decide (mi (10 * n + b) ≤ mi (10 * a + b) ∧ ot (10 * a + n) ≤ ot (10 * a + b))
theorem ngB_no {mi ot : Nat → Nat} {a b n : Nat} (h : ngB mi ot a b n = false) : ∀ d, ngB mi ot a b (n + d) = false
  | 0 => h
  | d + 1 => by
    show (ngB mi ot a b (n + d) && _) = false
    rw [ngB_no h d, Bool.false_and]
theorem nwgC {M : Mem} {mi ot : Nat → Nat} {a b : Nat} (ha : a < 10) (hb : b < 10) (hm : ∀ c, c < 100 → M 52 c = nI (mi c) ∧ M 53 c = nI (ot c)) (h1 : ∀ c, c < 100 → mi c ≤ 396) (h2 : ∀ c, c < 100 → ot c ≤ 396) : f_X5_neitherWouldGo (nI a) (nI b) M = some (b2 (ngB mi ot a b 10 = true)) := by
  have go : ∀ f p, p ≤ 10 → 10 - p < f → ngB mi ot a b p = true → f_X5_neitherWouldGo_10 (nI a) (nI b) M f (nI (10 * a + b)) (nI p) = some (b2 (ngB mi ot a b 10 = true)) := by
    intro f
    induction f with
    | zero => intro h _ q; omega
    | succ f ih =>
      intro p hp hf hn
      unfold f_X5_neitherWouldGo_10
      by_cases q : p = 10
      · subst q
        rw [if_pos (by decide), b2_t hn]
      · have no : ¬ (mi (10 * p + b) ≤ mi (10 * a + b) ∧ ot (10 * a + p) ≤ ot (10 * a + b)) → some (0 : Int32) = some (b2 (ngB mi ot a b 10 = true)) := by
          intro z
          have : ngB mi ot a b (p + 1) = false := by
            show (ngB mi ot a b p && decide _) = false
            rw [decide_eq_false z, Bool.and_false]
          have := ngB_no this (10 - (p + 1))
          rw [show p + 1 + (10 - (p + 1)) = 10 by omega] at this
          rw [b2_f (by rw [this]; decide)]
        have e1 := h1 (10 * p + b) (by omega)
        have e2 := h1 (10 * a + b) (by omega)
        have e3 := h2 (10 * a + p) (by omega)
        have e4 := h2 (10 * a + b) (by omega)
        rw [if_neg (fun z => absurd ((lit_le 10 (by omega) (by omega)).mp z) (by omega)), show (10 : Int32) = nI 10 from rfl, nI_mulN, nI_mulN, nI_add, nI_add, rd_ok (by omega) (by omega), rd_ok (by omega) (by omega), rd_ok (by omega) (by omega), rd_ok (by omega) (by omega), (hm (10 * p + b) (by omega)).1, (hm (10 * a + b) (by omega)).1, (hm (10 * a + p) (by omega)).2, (hm (10 * a + b) (by omega)).2]
        by_cases z1 : mi (10 * p + b) ≤ mi (10 * a + b)
        · rw [if_pos ((nI_leN (by omega) (by omega)).mpr z1)]
          by_cases z2 : ot (10 * a + p) ≤ ot (10 * a + b)
          · rw [if_pos ((nI_leN (by omega) (by omega)).mpr z2), show (1 : Int32) = nI 1 from rfl, nI_add]
            refine ih (p + 1) (by omega) (by omega) ?_
            show (ngB mi ot a b p && decide _) = true
            rw [hn, decide_eq_true ⟨z1, z2⟩]
            rfl
          · rw [if_neg (fun y => z2 ((nI_leN (by omega) (by omega)).mp y))]
            exact no (fun y => z2 y.2)
        · rw [if_neg (fun y => z1 ((nI_leN (by omega) (by omega)).mp y))]
          exact no (fun y => z1 y.1)
  unfold f_X5_neitherWouldGo
  simp only [li]
  rw [show (10 : Int32) = nI 10 from rfl, nI_mulN, nI_add]
  exact go FU 0 (by omega) (FU_gt (by omega)) rfl
theorem isRestM {M : Mem} {mi ot : Nat → Nat} {a b : Nat} (ha : a < 10) (hb : b < 10) (hm : ∀ c, c < 100 → M 67 c = nI (mi c) ∧ M 68 c = nI (ot c)) (h1 : ∀ c, c < 100 → mi c ≤ 396) (h2 : ∀ c, c < 100 → ot c ≤ 396) : f_X6_isRest (nI a) (nI b) M = some (b2 (ngB mi ot a b 10 = true)) := by
  have go : ∀ f p, p ≤ 10 → 10 - p < f → f_X6_isRest_5 (nI a) (nI b) M f (b2 (ngB mi ot a b p = true)) (nI p) = some (b2 (ngB mi ot a b 10 = true)) := by
    intro f
    induction f with
    | zero => intro h _ q; omega
    | succ f ih =>
      intro p hp hf
      unfold f_X6_isRest_5
      by_cases q : p = 10
      · subst q
        rw [if_pos (by decide), ck_b2]
      · have r := ih (p + 1) (by omega) (by omega)
        have e1 := h1 (10 * p + b) (by omega)
        have e2 := h1 (10 * a + b) (by omega)
        have e3 := h2 (10 * a + p) (by omega)
        have e4 := h2 (10 * a + b) (by omega)
        have er : ngB mi ot a b (p + 1) = (ngB mi ot a b p && decide (mi (10 * p + b) ≤ mi (10 * a + b) ∧ ot (10 * a + p) ≤ ot (10 * a + b))) := rfl
        have no : ngB mi ot a b (p + 1) = false → f_X6_isRest_72 (nI a) (nI b) M (f_X6_isRest_5 (nI a) (nI b) M f) (nI p) = some (b2 (ngB mi ot a b 10 = true)) := by
          intro z
          unfold f_X6_isRest_72 f_X6_isRest_73
          rw [show (1 : Int32) = nI 1 from rfl, nI_add, ← r, b2_f (by rw [z]; decide)]
        rw [if_neg (fun z => absurd ((lit_lt 9 (by omega) (by omega)).mp z) (by omega)), ite_b2, show (10 : Int32) = nI 10 from rfl, nI_mulN, nI_mulN, nI_add, nI_add, nI_add, rd_ok (by omega) (by omega), rd_ok (by omega) (by omega), rd_ok (by omega) (by omega), rd_ok (by omega) (by omega), (hm (10 * p + b) (by omega)).1, (hm (10 * a + b) (by omega)).1, (hm (10 * a + p) (by omega)).2, (hm (10 * a + b) (by omega)).2]
        by_cases n : ngB mi ot a b p = true
        · rw [if_pos n]
          rw [n, Bool.true_and] at er
          by_cases z1 : mi (10 * p + b) ≤ mi (10 * a + b)
          · rw [if_neg (fun y => absurd ((nI_ltN (by omega) (by omega)).mp y) (by omega))]
            by_cases z2 : ot (10 * a + p) ≤ ot (10 * a + b)
            · rw [if_neg (fun y => absurd ((nI_ltN (by omega) (by omega)).mp y) (by omega))]
              rw [decide_eq_true ⟨z1, z2⟩] at er
              unfold f_X6_isRest_73
              rw [show (nI p) + 1 = nI (p + 1) by rw [show (1 : Int32) = nI 1 from rfl, nI_add], ← r, b2_t er]
            · rw [if_pos ((nI_ltN (by omega) (by omega)).mpr (by omega))]
              exact no (by rw [er]; exact decide_eq_false (fun y => z2 y.2))
          · rw [if_pos ((nI_ltN (by omega) (by omega)).mpr (by omega))]
            exact no (by rw [er]; exact decide_eq_false (fun y => z1 y.1))
        · rw [if_neg n]
          exact no (by rw [er]; rw [Bool.not_eq_true] at n; rw [n, Bool.false_and])
  have := go FU 0 (by omega) (FU_gt (by omega))
  unfold f_X6_isRest
  exact this
/-! how many pairs, the first -/
def reB (S : Sv) (i k c : Nat) : Bool := ngB (miS S i k) (otS S i k) (c / 10) (c % 10) 10
def fst1 (b : Nat → Bool) : Nat → Int
  | 0 => -4
  | c + 1 => if b c = true ∧ bcnt b c = 0 then (c : Int) else fst1 b c
theorem fst1_y {b : Nat → Bool} {c : Nat} (h : b c = true ∧ bcnt b c = 0) : fst1 b (c + 1) = (c : Int) := if_pos h
theorem fst1_n {b : Nat → Bool} {c : Nat} (h : ¬ (b c = true ∧ bcnt b c = 0)) : fst1 b (c + 1) = fst1 b c := if_neg h
def reR (S : Sv) (i k w : Nat) : Int32 := if w = 0 then nI (bcnt (reB S i k) 100) else iI (fst1 (reB S i k) 100)
theorem reB_is {S : Sv} {i k a b : Nat} (hb : b < 10) : reB S i k (10 * a + b) = ngB (miS S i k) (otS S i k) a b 10 := by
  unfold reB
  rw [show (10 * a + b) / 10 = a by omega, show (10 * a + b) % 10 = b by omega]
theorem restC64 {M : Mem} {S : Sv} {i k w a : Nat} (hW : WF S) (ha : a < 10) (hp : PrC M S i k 100) {T : Int32 → Int32 → Int32 → Mem → Option (Int32 × Mem)} {A : Int32} (hT : T (nI (bcnt (reB S i k) (10 * (a + 1)))) (iI (fst1 (reB S i k) (10 * (a + 1)))) (nI (a + 1)) M = some (A, M)) : ∀ f b, b ≤ 10 → 10 - b < f → f_X5_rest_64 (nI i) (nI k) (nI w) T f (nI (bcnt (reB S i k) (10 * a + b))) (iI (fst1 (reB S i k) (10 * a + b))) (nI a) (nI b) M = some (A, M) := by
  intro f
  induction f with
  | zero => intro h _ q; omega
  | succ f ih =>
    intro b hb hf
    unfold f_X5_rest_64
    by_cases q : b = 10
    · subst q
      rw [if_pos (by decide)]
      unfold f_X5_rest_109
      rw [show (1 : Int32) = nI 1 from rfl, nI_add]
      rw [show 10 * (a + 1) = 10 * a + 10 by omega] at hT
      exact hT
    · rw [if_neg (fun z => absurd ((lit_le 10 (by omega) (by omega)).mp z) (by omega)), nwgC ha (show b < 10 by omega) hp (fun c hc => mi_le hW i k hc) (fun c hc => ot_le hW i k hc)]
      simp only [Option.bind_some, ite_b2]
      have bl := bcnt_le (reB S i k) (10 * a + b)
      have r := ih (b + 1) (by omega) (by omega)
      rw [show 10 * a + (b + 1) = 10 * a + b + 1 by omega] at r
      have eb := reB_is (S := S) (i := i) (k := k) (a := a) (show b < 10 by omega)
      unfold f_X5_rest_100 f_X5_rest_103
      simp only [li, nI_lit 0 (show bcnt (reB S i k) (10 * a + b) < 2 ^ 31 by omega) (by omega)]
      rw [show (1 : Int32) = nI 1 from rfl, nI_add, nI_add, show (10 : Int32) = nI 10 from rfl, nI_mulN, nI_add, ← iI_nI (10 * a + b)]
      by_cases n : ngB (miS S i k) (otS S i k) a b 10 = true
      · rw [if_pos n]
        rw [bcnt_t (by rw [eb]; exact n)] at r
        by_cases z : bcnt (reB S i k) (10 * a + b) = 0
        · rw [if_pos z]
          rw [fst1_y ⟨by rw [eb]; exact n, z⟩] at r
          exact r
        · rw [if_neg z]
          rw [fst1_n (fun y => z y.2)] at r
          exact r
      · rw [if_neg n]
        rw [bcnt_f (by rw [eb]; exact n), fst1_n (fun y => n (by rw [← eb]; exact y.1))] at r
        exact r
theorem restC54 {M : Mem} {S : Sv} {i k w : Nat} (hW : WF S) (hw : w < 2) (hp : PrC M S i k 100) : ∀ f a, a ≤ 10 → 10 - a < f → f_X5_rest_54 (nI i) (nI k) (nI w) f (nI (bcnt (reB S i k) (10 * a))) (iI (fst1 (reB S i k) (10 * a))) (nI a) M = some (reR S i k w, M) := by
  intro f
  induction f with
  | zero => intro h _ q; omega
  | succ f ih =>
    intro a ha hf
    unfold f_X5_rest_54
    by_cases q : a = 10
    · subst q
      rw [if_pos (by decide)]
      unfold f_X5_rest_115 reR
      simp only [nI_lit 0 (show w < 2 ^ 31 by omega) (by omega)]
      by_cases z : w = 0
      · rw [if_pos z, if_pos z]
      · rw [if_neg z, if_neg z]
    · rw [if_neg (fun z => absurd ((lit_le 10 (by omega) (by omega)).mp z) (by omega))]
      exact restC64 hW (show a < 10 by omega) hp (ih (a + 1) (by omega) (by omega)) FU 0 (by omega) (FU_gt (by omega))
theorem restM131 {M : Mem} {S : Sv} {i k w : Nat} (hW : WF S) (hw : w < 2) (hp : PrM M S i k 100) : ∀ f c, c ≤ 100 → 100 - c < f → f_X6_rest_131 (nI i) (nI k) (nI w) f (nI (bcnt (reB S i k) c)) (iI (fst1 (reB S i k) c)) (nI c) M = some (reR S i k w, M) := by
  intro f
  induction f with
  | zero => intro h _ q; omega
  | succ f ih =>
    intro c hc hf
    unfold f_X6_rest_131
    by_cases q : c = 100
    · subst q
      rw [if_pos (by decide)]
      unfold f_X6_rest_194 reR
      simp only [nI_lit 0 (show w < 2 ^ 31 by omega) (by omega)]
      by_cases z : w = 0
      · rw [if_pos z, if_pos z]
      · rw [if_neg z, if_neg z]
    · rw [if_neg (fun z => absurd ((lit_le 100 (by omega) (by omega)).mp z) (by omega)), nI_mod10 (by omega), nI_div10 (by omega), isRestM (show c / 10 < 10 by omega) (show c % 10 < 10 by omega) hp (fun c hc => mi_le hW i k hc) (fun c hc => ot_le hW i k hc)]
      simp only [Option.bind_some, ite_b2]
      have bl := bcnt_le (reB S i k) c
      have r := ih (c + 1) (by omega) (by omega)
      have eb : reB S i k c = ngB (miS S i k) (otS S i k) (c / 10) (c % 10) 10 := rfl
      unfold f_X6_rest_169 f_X6_rest_171 f_X6_rest_185
      simp only [li, ite_b2, nI_lit 0 (show bcnt (reB S i k) c < 2 ^ 31 by omega) (by omega)]
      rw [show (1 : Int32) = nI 1 from rfl, nI_add, nI_add, show (0 : Int32) = nI 0 from rfl, nI_add, Nat.add_zero, ← iI_nI c]
      by_cases n : ngB (miS S i k) (otS S i k) (c / 10) (c % 10) 10 = true
      · rw [if_pos n, if_pos n, if_pos n]
        rw [bcnt_t (by rw [eb]; exact n)] at r
        by_cases z : bcnt (reB S i k) c = 0
        · rw [if_pos z]
          rw [fst1_y ⟨by rw [eb]; exact n, z⟩] at r
          exact r
        · rw [if_neg z]
          rw [fst1_n (fun y => z y.2)] at r
          exact r
      · rw [if_neg n, if_neg n]
        rw [bcnt_f (by rw [eb]; exact n), fst1_n (fun y => n (by rw [← eb]; exact y.1))] at r
        exact r
theorem restM44 {S : Sv} {i k w : Nat} (hW : WF S) (hi : i < 4) (hk : k < 4) (hik : i ≠ k) (hw : w < 2) : ∀ f c M0, c ≤ 100 → 100 - c < f → RConst M0 → (∃ a b, RepM M0 288 (rsS S i k a b)) → PrM M0 S i k c → ∃ M1, f_X6_rest_44 (nI i) (nI k) (nI w) f (nI c) M0 = some (reR S i k w, M1) ∧ Fr MScr M0 M1 := by
  intro f
  induction f with
  | zero => intro h _ _ q; omega
  | succ f ih =>
    intro c M0 hc hf hK hM hp
    unfold f_X6_rest_44
    by_cases q : c = 100
    · subst q
      rw [if_pos (by decide)]
      unfold f_X6_rest_121
      exact ⟨M0, restM131 hW hw hp FU 0 (by omega) (FU_gt (by omega)), Fr.rfl'⟩
    · obtain ⟨a', b', hM⟩ := hM
      rw [if_neg (fun z => absurd ((lit_le 100 (by omega) (by omega)).mp z) (by omega)), nI_mod10 (by omega), nI_div10 (by omega), show (309 : Int32) = nI 309 from rfl, show (4 : Int32) = nI 4 from rfl, nI_mulN, nI_mulN, nI_add, nI_add, inb_ok (by omega) (by omega), nI_clamp (by omega)]
      simp only [lm]
      rw [inb_ok (by omega) (by omega), nI_clamp (by omega)]
      have hM1 := hM.heirU (by rw [rsS_0]; exact hW.1) (by rw [rsS_0]; exact hW.2.1) (j := 4 * i) (by omega) (c / 10)
      rw [rsS_a S hik, show 288 + 21 + 4 * i = 309 + 4 * i by omega] at hM1
      have hM2 := hM1.heirU (by rw [rsS_0]; exact hW.1) (by rw [rsS_0]; exact hW.2.1) (j := 4 * k) (by omega) (c % 10)
      rw [rsS_b, show 288 + 21 + 4 * k = 309 + 4 * k by omega] at hM2
      have hW1 : WF (rsS S i k (c / 10) (c % 10)) := hW.rs (by omega) (by omega)
      have g0 : Fr MScr M0 (up (up M0 55 (309 + 4 * i) (nI (c / 10))) 55 (309 + 4 * k) (nI (c % 10))) := (Fr.rfl'.up (by unfold MScr; omega)).up (by unfold MScr; omega)
      have hK1 := hK.ms g0
      obtain ⟨M1, a1, a2, a3⟩ := worth_heir (hM2.E hK1) (by omega) hW1 hi
      rw [show (288 : Int32) = nI 288 from rfl, a1]
      simp only [Option.bind_some]
      rw [inb_ok (by omega) (by omega), nI_clamp (by omega)]
      have f2 : Fr (fun c j => 67 ≤ c ∧ c ≤ 68) M1 (up M1 67 c (nI (EH (rsS S i k (c / 10) (c % 10)) i))) := Fr.rfl'.up (by omega)
      have hM3 := (hM2.mdd a2).frC f2 (fun c j x y => by omega)
      have hK2 := (hK1.ms a2.md).ms (f2.mono (fun c j x => by unfold MScr; omega))
      have e := estOfM (n := 24) (v := (k : Int)) (hM3.E hK2) (by omega) hW1 (fun t ht => (a3 t ht).fr' f2 (fun c j x y => by omega)) (by omega)
      rw [iI_nI, sumW_congr (fun t ht => sel_heir hW1 (n := 24) (i := k) ht)] at e
      rw [show f_X6_estatesOf (nI 288) (nI k) (up M1 67 c (nI (EH (rsS S i k (c / 10) (c % 10)) i))) = some (nI (EH (rsS S i k (c / 10) (c % 10)) k)) from e]
      simp only [Option.bind_some]
      rw [inb_ok (by omega) (by omega), show (1 : Int32) = nI 1 from rfl, nI_add]
      have f3 : Fr (fun c j => 67 ≤ c ∧ c ≤ 68) M1 (up (up M1 67 c (nI (EH (rsS S i k (c / 10) (c % 10)) i))) 68 c (nI (EH (rsS S i k (c / 10) (c % 10)) k))) := f2.up (by omega)
      have f3m := f3.mono (fun c j x => (by unfold MScr; omega : MScr c j))
      obtain ⟨M2, b1, b2⟩ := ih (c + 1) _ (by omega) (by omega) ((hK1.ms a2.md).ms f3m) ⟨_, _, (hM2.mdd a2).frC f3 (fun c j x y => by omega)⟩ (fun d hd => by
        by_cases z : d = c
        · subst z
          rw [up_cell (show (67 : Nat) ≠ 68 by omega), up_same, up_same]
          exact ⟨rfl, rfl⟩
        · rw [up_cell (show (67 : Nat) ≠ 68 by omega), up_slot z, up_slot z, up_cell (show (68 : Nat) ≠ 67 by omega), a2 67 d (by unfold MD; omega), a2 68 d (by unfold MD; omega), up_cell (by omega), up_cell (by omega), up_cell (by omega), up_cell (by omega)]
          exact hp d (by omega))
      exact ⟨M2, b1, ((g0.trans a2.md).trans f3m).trans b2⟩
theorem st_rest : St_rest Rel := by
  intro M a c v h
  refine st2 h fun S hS => ?_
  obtain ⟨hW, hC, hM⟩ := id hS
  have hS1 := hW.2.1
  by_cases ht : 0 ≤ a.toInt ∧ a.toInt < S 0 1
  · by_cases hc : 0 ≤ c.toInt ∧ c.toInt < S 0 1
    · by_cases hac : a = c
      · exact Sim.bad (b := -1) (by unfold f_X5_rest; rw [isHeirC hC hS1, isHeirC hC hS1]; simp only [Option.bind_some, ite_b2, if_pos ht, if_pos hc, if_pos hac]) (fun M' hS' => by unfold f_X6_rest; rw [isHeirM hS'.2.2 hS1, isHeirM hS'.2.2 hS1]; simp only [Option.bind_some, ite_b2, if_pos ht, if_pos hc, if_pos hac])
      · by_cases hv : ((0 : Nat) : Int) ≤ v.toInt ∧ v.toInt ≤ ((1 : Nat) : Int)
        · obtain ⟨i, -, hi2, rfl⟩ := nI_rng (lo := 0) (hi := S 0 1 - 1) (x := a) (by omega)
          obtain ⟨k, -, hk2, rfl⟩ := nI_rng (lo := 0) (hi := S 0 1 - 1) (x := c) (by omega)
          obtain ⟨w, -, hw, rfl⟩ := nI_rng hv
          have ht' := ht
          have hc' := hc
          rw [nI_toInt (by omega)] at ht' hc'
          have i4 : i < 4 := by omega
          have k4 : k < 4 := by omega
          have hik : i ≠ k := fun z => hac (by rw [z])
          obtain ⟨M1, a1, a2, a3⟩ := trial hW hC
          obtain ⟨M2, b1, b2, b3⟩ := sailAll_ok a3 (by omega) hW
          obtain ⟨M3, c1, c2, c3⟩ := weigh24 hW i4 k4 hik FU 0 M2 (by omega) (FU_gt (by omega)) ⟨_, _, by rw [rsS_id S i k hik]; exact a3.cd (by omega) b2⟩ b3 (fun c hc => by omega)
          have c4 := restC54 (w := w) hW (by omega) c3 FU 0 (by omega) (FU_gt (by omega))
          refine ⟨reR S i k w, M3, ?_, (a2.trans b2.cd).trans c2, fun M' hf hR hS' => ?_⟩
          · unfold f_X5_rest f_X5_weighPairs
            rw [isHeirC hC hS1, isHeirC hC hS1]
            simp only [within_lit _ 0 1 (by omega) (by omega), Option.bind_some, ite_b2, if_pos ht, if_pos hc, if_neg hac, if_pos hv]
            rw [a1]
            simp only [Option.bind_some]
            rw [b1]
            simp only [Option.bind_some]
            rw [show (0 : Int32) = nI 0 from rfl, c1]
            simp only [Option.bind_some]
            exact c4
          · obtain ⟨d1, d2, d3⟩ := tried hW hS'.2.2
            obtain ⟨M4, e1, e2⟩ := restM44 (w := w) hW i4 k4 hik (by omega) FU 0 _ (by omega) (FU_gt (by omega)) (hR.konst.ms d2) ⟨_, _, by rw [rsS_id S i k hik]; exact d3⟩ (fun c hc => by omega)
            refine ⟨M4, ?_, d2.trans e2⟩
            unfold f_X6_rest
            rw [isHeirM hS'.2.2 hS1, isHeirM hS'.2.2 hS1]
            simp only [in_lit _ 0 1 (by omega) (by omega), Option.bind_some, ite_b2, if_pos ht, if_pos hc, if_neg hac, if_pos hv]
            rw [d1]
            exact e1
        · exact Sim.bad (b := -1) (by unfold f_X5_rest; rw [isHeirC hC hS1, isHeirC hC hS1]; simp only [within_lit _ 0 1 (by omega) (by omega), Option.bind_some, ite_b2, if_pos ht, if_pos hc, if_neg hac, if_neg hv]) (fun M' hS' => by unfold f_X6_rest; rw [isHeirM hS'.2.2 hS1, isHeirM hS'.2.2 hS1]; simp only [in_lit _ 0 1 (by omega) (by omega), Option.bind_some, ite_b2, if_pos ht, if_pos hc, if_neg hac, if_neg hv])
    · exact Sim.bad (b := -1) (by unfold f_X5_rest; rw [isHeirC hC hS1, isHeirC hC hS1]; simp only [Option.bind_some, ite_b2, if_pos ht, if_neg hc]) (fun M' hS' => by unfold f_X6_rest; rw [isHeirM hS'.2.2 hS1, isHeirM hS'.2.2 hS1]; simp only [Option.bind_some, ite_b2, if_pos ht, if_neg hc])
  · exact Sim.bad (b := -1) (by unfold f_X5_rest; rw [isHeirC hC hS1]; simp only [Option.bind_some, ite_b2, if_neg ht]) (fun M' hS' => by unfold f_X6_rest; rw [isHeirM hS'.2.2 hS1]; simp only [Option.bind_some, ite_b2, if_neg ht])
