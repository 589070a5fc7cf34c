/-! what is SEEN, as numbers -/
def SeenB (n : Nat) (q : Nat → Nat × Nat × Nat) : Prop := n ≤ 6 ∧ ∀ j, j < n → (q j).1 < 4 ∧ (q j).2.1 ≤ 24 ∧ (q j).2.2 ≤ 30
def SeenC (M : Mem) (n : Nat) (q : Nat → Nat × Nat × Nat) : Prop := M 0 15 = nI n ∧ ∀ j, j < n → M 47 j = nI (q j).1 ∧ M 48 j = nI (q j).2.1 ∧ M 49 j = nI (q j).2.2
def SeenM (M : Mem) (n : Nat) (q : Nat → Nat × Nat × Nat) : Prop := M 54 29 = nI n ∧ ∀ j, j < n → M 69 (3 * j) = nI (q j).1 ∧ M 69 (3 * j + 1) = nI (q j).2.1 ∧ M 69 (3 * j + 2) = nI (q j).2.2
theorem RSeen.q {M : Mem} (h : RSeen M) : ∃ n q, SeenB n q ∧ SeenC M n q ∧ SeenM M n q := by
  obtain ⟨n, a, b, c, d⟩ := h
  have e : ∀ j, ∃ y : Nat × Nat × Nat, j < n → (y.1 < 4 ∧ y.2.1 ≤ 24 ∧ y.2.2 ≤ 30) ∧ (M 47 j = nI y.1 ∧ M 48 j = nI y.2.1 ∧ M 49 j = nI y.2.2) ∧ (M 69 (3 * j) = nI y.1 ∧ M 69 (3 * j + 1) = nI y.2.1 ∧ M 69 (3 * j + 2) = nI y.2.2) := by
    intro j
    by_cases hj : j < n
    · obtain ⟨t, u, v, p1, p2, p3, p4, p5, p6, p7, p8, p9⟩ := d j hj
      exact ⟨(t, u, v), fun _ => ⟨⟨p1, p2, p3⟩, ⟨p4, p5, p6⟩, p7, p8, p9⟩⟩
    · exact ⟨(0, 0, 0), fun z => absurd z hj⟩
  obtain ⟨q, hq⟩ := Classical.axiomOfChoice e
  exact ⟨n, q, ⟨a, fun j hj => (hq j hj).1⟩, ⟨b, fun j hj => (hq j hj).2.1⟩, c, fun j hj => (hq j hj).2.2⟩
theorem SeenC.fr {M M1 : Mem} {n : Nat} {q : Nat → Nat × Nat × Nat} {X : Nat → Nat → Prop} (h : SeenC M n q) (hf : Fr X M M1) (h1 : ¬ X 0 15) (h2 : ∀ c j, 47 ≤ c → c ≤ 49 → ¬ X c j) : SeenC M1 n q := by
  refine ⟨by rw [hf _ _ h1]; exact h.1, fun j hj => ?_⟩
  rw [hf 47 _ (h2 _ _ (by omega) (by omega)), hf 48 _ (h2 _ _ (by omega) (by omega)), hf 49 _ (h2 _ _ (by omega) (by omega))]
  exact h.2 j hj
theorem SeenM.fr {M M1 : Mem} {n : Nat} {q : Nat → Nat × Nat × Nat} {X : Nat → Nat → Prop} (h : SeenM M n q) (hf : Fr X M M1) (h1 : ¬ X 54 29) (h2 : ∀ j, ¬ X 69 j) : SeenM M1 n q := by
  refine ⟨by rw [hf _ _ h1]; exact h.1, fun j hj => ?_⟩
  rw [hf _ _ (h2 _), hf _ _ (h2 _), hf _ _ (h2 _)]
  exact h.2 j hj
theorem SeenC.cs {M M1 : Mem} {n : Nat} {q : Nat → Nat × Nat × Nat} (h : SeenC M n q) (hf : Fr CScr M M1) : SeenC M1 n q := h.fr hf (by unfold CScr; omega) (fun c j a b => by unfold CScr; omega)
theorem SeenM.cs {M M1 : Mem} {n : Nat} {q : Nat → Nat × Nat × Nat} (h : SeenM M n q) (hf : Fr CScr M M1) : SeenM M1 n q := h.fr hf (by unfold CScr; omega) (fun j => by unfold CScr; omega)
theorem SeenM.md {M M1 : Mem} {n : Nat} {q : Nat → Nat × Nat × Nat} (h : SeenM M n q) (hf : Fr MD M M1) : SeenM M1 n q := h.fr hf (by unfold MD; omega) (fun j => by unfold MD; omega)
/-- all is as SEEN -/
abbrev asP (S : Sv) (y : Nat × Nat × Nat) : Prop := y.1 < S 0 0 ∧ (sailS S y.1 y.2.1).1 + 10 = (y.2.2 : Int)
def asB (S : Sv) (q : Nat → Nat × Nat × Nat) : Nat → Bool
  | 0 => true
  | n + 1 => asB S q n && decide (asP S (q n))
theorem asB_no {S : Sv} {q : Nat → Nat × Nat × Nat} {n : Nat} (h : asB S q n = false) : ∀ d, asB S q (n + d) = false
  | 0 => h
  | d + 1 => by
    show (asB S q (n + d) && _) = false
    rw [asB_no h d, Bool.false_and]
theorem asB_f {S : Sv} {q : Nat → Nat × Nat × Nat} {n j : Nat} (hj : j < n) (h : ¬ asP S (q j)) : ¬ asB S q n = true := by
  have : asB S q (j + 1) = false := by
    show (asB S q j && decide _) = false
    rw [decide_eq_false h, Bool.and_false]
  have := asB_no this (n - (j + 1))
  rw [show j + 1 + (n - (j + 1)) = n by omega] at this
  rw [this]
  decide
theorem asB_s {S : Sv} {q : Nat → Nat × Nat × Nat} {j : Nat} (h : asB S q j = true) (hp : asP S (q j)) : asB S q (j + 1) = true := by
  show (asB S q j && decide _) = true
  rw [h, decide_eq_true hp]
  rfl
theorem sx_b {S : Sv} (hW : WF S) {t : Nat} (ht : t < S 0 0) (n : Nat) : -5 ≤ (sailS S t n).1 ∧ (sailS S t n).1 ≤ 14 := by
  rcases sail_ok hW ht n with ⟨-, a⟩ | ⟨-, a, -⟩ | ⟨-, a, -⟩
  · have := a.1
    omega
  · omega
  · omega
theorem asSeenC {M : Mem} {k n : Nat} {S : Sv} {q : Nat → Nat × Nat × Nat} (hC : RepC M k S) (hk : k + 4 < 41) (hW : WF S) (hb : SeenB n q) (hs : SeenC M n q) : ∃ M1, f_X5_isAsSeen k M = some (b2 (asB S q n = true), M1) ∧ Fr CD M M1 := by
  have n6 := hb.1
  have go : ∀ f j M0, j ≤ n → n - j < f → Fr CD M M0 → asB S q j = true → ∃ M1, f_X5_isAsSeen_2 k f (nI j) M0 = some (b2 (asB S q n = true), M1) ∧ Fr CD M M1 := by
    intro f
    induction f with
    | zero => intro i _ _ h; omega
    | succ f ih =>
      intro j M0 hj hf hfr hn
      have hC0 := hC.cd hk hfr
      have hs0 := hs.cs hfr.cd
      unfold f_X5_isAsSeen_2
      rw [hs0.1]
      by_cases z : j = n
      · subst z
        rw [if_pos ((nI_leN (by omega) (by omega)).mpr (by omega)), b2_t hn]
        exact ⟨M0, rfl, hfr⟩
      · have hj' : j < n := by omega
        obtain ⟨b1, b2', b3⟩ := hb.2 j hj'
        obtain ⟨c1, c2, c3⟩ := hs0.2 j hj'
        rw [if_neg (fun y => z (by have := (nI_leN (by omega) (by omega)).mp y; omega)), rd_ok (by omega) (by omega), c1, isTubC hC0 hW.1, rd_ok (by omega) (by omega), c2]
        simp only [Option.bind_some, ite_b2]
        rw [nI_toInt (by omega)]
        by_cases ht : (q j).1 < S 0 0
        · rw [if_pos (by omega)]
          obtain ⟨M1, a1, a2, a3⟩ := sailTub_ok hC0 hk hW ht b2'
          have a4 : Fr CD M0 M1 := a2.mono (fun c j x => by unfold Day4 at x; unfold CD; omega)
          rw [a1]
          simp only [Option.bind_some]
          unfold f_X0_eastOf
          rw [rd_ok (by omega) (by omega), a3.1]
          simp only [Option.bind_some]
          have xb := sx_b hW ht (q j).2.1
          rw [rd_ok (by omega) (by omega), a4 49 j (by unfold CD; omega), c3, show (10 : Int32) = iI 10 from rfl, iI_add, ← iI_nI (q j).2.2]
          by_cases e : (sailS S (q j).1 (q j).2.1).1 + 10 = ((q j).2.2 : Int)
          · rw [if_pos ((iI_eq (by omega) (by omega)).mpr e), show (1 : Int32) = nI 1 from rfl, nI_add]
            exact ih (j + 1) M1 (by omega) (by omega) (hfr.trans a4) (asB_s hn ⟨ht, e⟩)
          · rw [if_neg (fun y => e ((iI_eq (by omega) (by omega)).mp y)), b2_f (asB_f hj' (fun y => e y.2))]
            exact ⟨M1, rfl, hfr.trans a4⟩
        · rw [if_neg (by omega), b2_f (asB_f hj' (fun y => ht y.1))]
          exact ⟨M0, rfl, hfr⟩
  exact go FU 0 M (by omega) (FU_gt (by omega)) Fr.rfl' rfl
theorem asSeenM {M : Mem} {n : Nat} {S : Sv} {q : Nat → Nat × Nat × Nat} (hM : RepM M 0 S) (hK : RConst M) (hW : WF S) (hb : SeenB n q) (hs : SeenM M n q) : ∃ M1, f_X6_isAsSeen M = some (b2 (asB S q n = true), M1) ∧ Fr MD M M1 := by
  have n6 := hb.1
  have go : ∀ f j M0, j ≤ n → n - j < f → Fr MD M M0 → ∃ M1, f_X6_isAsSeen_4 f (b2 (asB S q j = true)) (nI j) M0 = some (b2 (asB S q n = true), M1) ∧ Fr MD M M1 := by
    intro f
    induction f with
    | zero => intro i _ _ h; omega
    | succ f ih =>
      intro j M0 hj hf hfr
      have hM0 := hM.mdd hfr
      have hK0 := hK.ms hfr.md
      have hs0 := hs.md hfr
      unfold f_X6_isAsSeen_4
      rw [hs0.1, ck_b2, ite_b2]
      by_cases z : j = n
      · subst z
        rw [if_pos ((nI_leN (by omega) (by omega)).mpr (by omega))]
        exact ⟨M0, rfl, hfr⟩
      · have hj' : j < n := by omega
        rw [if_neg (fun y => z (by have := (nI_leN (by omega) (by omega)).mp y; omega))]
        by_cases hn : asB S q j = true
        · obtain ⟨b1, b2', b3⟩ := hb.2 j hj'
          obtain ⟨c1, c2, c3⟩ := hs0.2 j hj'
          obtain ⟨M1, a1, a2, a3⟩ := day_ok (hM0.E hK0) (by omega) hW b2'
          rw [if_pos hn, show (3 : Int32) = nI 3 from rfl, show (1 : Int32) = nI 1 from rfl, show (2 : Int32) = nI 2 from rfl, nI_mulN, nI_add, nI_add, rd_ok (by omega) (by omega), c2, show (0 : Int32) = nI 0 from rfl, a1]
          simp only [Option.bind_some]
          have no : ¬ asP S (q j) → ∃ M2, f_X6_isAsSeen_79 (f_X6_isAsSeen_4 f) (nI j) M1 = some (b2 (asB S q n = true), M2) ∧ Fr MD M M2 := by
            intro y
            unfold f_X6_isAsSeen_79 f_X6_isAsSeen_80
            have r := ih (j + 1) M1 (by omega) (by omega) (hfr.trans a2)
            rw [b2_f (asB_f (by omega) y)] at r
            rw [show (1 : Int32) = nI 1 from rfl, nI_add]
            exact r
          rw [rd_ok (by omega) (by omega), a2 69 (3 * j) (by unfold MD; omega), c1, isTubM (hM0.mdd a2) hW.1]
          simp only [Option.bind_some]
          rw [nI_toInt (by omega), show nI 0 = (0 : Int32) from rfl, ite_b2]
          by_cases ht : (q j).1 < S 0 0
          · have xb := sx_b hW ht (q j).2.1
            rw [if_pos (by omega), rd_ok (by omega) (by omega), a2 69 (3 * j) (by unfold MD; omega), c1, rd_ok (by omega) (by omega), (a3 _ ht).1.1, rd_ok (by omega) (by omega), a2 69 (3 * j + 2) (by unfold MD; omega), c3, show (10 : Int32) = iI 10 from rfl, iI_add, ← iI_nI (q j).2.2]
            by_cases e : (sailS S (q j).1 (q j).2.1).1 + 10 = ((q j).2.2 : Int)
            · rw [if_pos ((iI_eq (by omega) (by omega)).mpr (by omega))]
              unfold f_X6_isAsSeen_80
              have r := ih (j + 1) M1 (by omega) (by omega) (hfr.trans a2)
              rw [b2_t (asB_s hn ⟨ht, e⟩)] at r
              rw [show nI j + (1 : Int32) = nI (j + 1) by rw [show (1 : Int32) = nI 1 from rfl, nI_add]]
              exact r
            · rw [if_neg (fun y => e (by have := (iI_eq (by omega) (by omega)).mp y; omega))]
              exact no (fun y => e y.2)
          · rw [if_neg (by omega)]
            exact no (fun y => ht y.1)
        · rw [if_neg hn]
          refine ⟨M0, ?_, hfr⟩
          rw [Bool.not_eq_true] at hn
          have := asB_no hn (n - j)
          rw [show j + (n - j) = n by omega] at this
          rw [hn, this]
  have := go FU 0 M (by omega) (FU_gt (by omega)) Fr.rfl'
  unfold f_X6_isAsSeen
  exact this
/-! kinds -/
theorem WF.kd {S : Sv} (hW : WF S) {t v : Nat} (hv : v < 4) : WF (setS S 1 (5 * t) v) := hW.tub (t := t) (w := 0) (v := v) (by omega) ⟨by omega, by omega, by omega, by omega, by omega⟩
theorem putTubC0 {M : Mem} {k t v : Nat} (ht : t < 4) : f_X2_putTub k (nI t) 0 (nI v) M = some (up M (k + 1) (5 * t) (nI v)) := putTubC (w := 0) ht (by omega)
def kdB (S : Sv) (q : Nat → Nat × Nat × Nat) (n t v : Nat) : Bool := asB (setS S 1 (5 * t) v) q n
theorem kindsC {S : Sv} {q : Nat → Nat × Nat × Nat} {n t : Nat} (hW : WF S) (ht : t < S 0 0) (hb : SeenB n q) : ∀ f v M0, v ≤ 4 → 4 - v < f → (∃ u, RepC M0 14 (setS S 1 (5 * t) u)) → SeenC M0 n q → ∃ M1, f_X5_kindsAsSeen_15 (nI t) f (nI (bmask (kdB S q n t) v)) (nI v) M0 = some (nI (bmask (kdB S q n t) 4), M1) ∧ Fr CScr M0 M1 := by
  have t4 : t < 4 := Nat.lt_of_lt_of_le ht hW.1
  intro f
  induction f with
  | zero => intro h _ _ q; omega
  | succ f ih =>
    intro v M0 hv hf hC hs
    obtain ⟨u, hC⟩ := hC
    unfold f_X5_kindsAsSeen_15 f_X5_kindsAsSeen_47
    by_cases z : v = 4
    · subst z
      rw [if_pos (by decide)]
      exact ⟨M0, rfl, Fr.rfl'⟩
    · rw [if_neg (fun z => absurd ((lit_le 4 (by omega) (by omega)).mp z) (by omega)), putTubC0 t4]
      simp only [Option.bind_some]
      have hC1 := hC.tub (5 * t) v
      rw [setS_setS] at hC1
      have hW1 : WF (setS S 1 (5 * t) v) := hW.kd (by omega)
      have g0 : Fr CScr M0 (up M0 (14 + 1) (5 * t) (nI v)) := Fr.rfl'.up (by unfold CScr; omega)
      obtain ⟨M1, a1, a2⟩ := asSeenC hC1 (by omega) hW1 hb (hs.cs g0)
      rw [a1]
      simp only [Option.bind_some, ite_b2, li]
      rw [one_shl (by omega), nI_orP (bmask_lt _ _), show (1 : Int32) = nI 1 from rfl, nI_add]
      obtain ⟨M2, b1, b2⟩ := ih (v + 1) M1 (by omega) (by omega) ⟨v, hC1.cd (by omega) a2⟩ ((hs.cs g0).cs a2.cd)
      refine ⟨M2, ?_, (g0.trans a2.cd).trans b2⟩
      by_cases e : kdB S q n t v = true
      · rw [bmask_t e] at b1
        rw [if_pos (show asB (setS S 1 (5 * t) v) q n = true from e)]
        exact b1
      · rw [bmask_f e] at b1
        rw [if_neg (show ¬ asB (setS S 1 (5 * t) v) q n = true from e)]
        exact b1
theorem kindsAsSeen_ok {M : Mem} {S : Sv} {q : Nat → Nat × Nat × Nat} {n t : Nat} (hW : WF S) (hC : RepC M 9 S) (ht : t < S 0 0) (hb : SeenB n q) (hs : SeenC M n q) : ∃ M1, f_X5_kindsAsSeen (nI t) M = some (nI (bmask (kdB S q n t) 4), M1) ∧ Fr CScr M M1 := by
  obtain ⟨M1, a1, a2, a3⟩ := trial hW hC
  obtain ⟨M2, b1, b2⟩ := kindsC hW ht hb FU 0 M1 (by omega) (FU_gt (by omega)) ⟨S 1 (5 * t), by rw [setS_id]; exact a3⟩ (hs.cs a2)
  refine ⟨M2, ?_, a2.trans b2⟩
  unfold f_X5_kindsAsSeen
  rw [a1]
  exact b1
def KX (t c j : Nat) : Prop := MScr c j ∨ (c = 55 ∧ j = t)
theorem Fr.kx {t : Nat} {M M1 : Mem} (h : Fr MScr M M1) : Fr (KX t) M M1 := h.mono (fun _ _ x => Or.inl x)
theorem fr_back {t : Nat} {M M1 : Mem} {v : Int32} (h : Fr (KX t) M M1) (hv : M 55 t = v) : Fr MScr M (up M1 55 t v) := by
  intro c j hc
  rw [up_at]
  by_cases e : c = 55 ∧ j = t
  · rw [if_pos e, e.1, e.2, hv]
  · rw [if_neg e]
    exact h c j (fun x => by rcases x with x | x; exact hc x; exact e x)
def EbM (M : Mem) (S : Sv) (t m : Nat) : Prop := ∀ c, c < m → M 70 c = iI (sailS (setS S 1 (5 * t) (c / 25)) t (c % 25)).1
theorem RConst.kx {M M1 : Mem} {t : Nat} (h : RConst M) (hf : Fr (KX t) M M1) : RConst M1 := h.fr hf (fun j => by unfold KX MScr; omega) (fun j => by unfold KX MScr; omega) (fun j => by unfold KX MScr; omega) (by unfold KX MScr; omega)
theorem SeenM.kx {M M1 : Mem} {t n : Nat} {q : Nat → Nat × Nat × Nat} (h : SeenM M n q) (hf : Fr (KX t) M M1) : SeenM M1 n q := h.fr hf (by unfold KX MScr; omega) (fun j => by unfold KX MScr; omega)
theorem kinds47 {S : Sv} {t v : Nat} {had : Int32} (hW : WF S) (ht : t < S 0 0) (hv : v < 4) {T : Int32 → Int32 → Int32 → Mem → Option (Int32 × Mem)} {b : Int32} {P : Option (Int32 × Mem) → Prop} {M : Mem} (hT : ∀ M0, Fr (KX t) M M0 → RepM M0 0 (setS S 1 (5 * t) v) → EbM M0 S t (25 * (v + 1)) → P (T had b (nI (v + 1)) M0)) (hK : RConst M) : ∀ f n M0, n ≤ 25 → 25 - n < f → Fr (KX t) M M0 → RepM M0 0 (setS S 1 (5 * t) v) → EbM M0 S t (25 * v + n) → P (f_X6_kindsOf_47 (nI t) T f had b (nI v) (nI n) M0) := by
  have t4 : t < 4 := Nat.lt_of_lt_of_le ht hW.1
  have hW1 : WF (setS S 1 (5 * t) v) := hW.kd hv
  have ht1 : t < setS S 1 (5 * t) v 0 0 := by rw [setS_0 (by omega)]; exact ht
  intro f
  induction f with
  | zero => intro h _ _ q; omega
  | succ f ih =>
    intro n M0 hn hf hfr hM hE
    unfold f_X6_kindsOf_47
    by_cases z : n = 25
    · subst z
      rw [if_pos (by decide)]
      unfold f_X6_kindsOf_86
      rw [show (1 : Int32) = nI 1 from rfl, nI_add]
      exact hT M0 hfr hM (by rw [show 25 * (v + 1) = 25 * v + 25 by omega]; exact hE)
    · obtain ⟨M1, a1, a2, a3⟩ := day_ok (hM.E (hK.kx hfr)) (by omega) hW1 (show n ≤ 24 by omega)
      rw [if_neg (fun z => absurd ((lit_lt 24 (by omega) (by omega)).mp z) (by omega)), show (0 : Int32) = nI 0 from rfl, a1]
      simp only [Option.bind_some]
      rw [rd_ok t4 (by omega), (a3 t ht1).1.1, show (25 : Int32) = nI 25 from rfl, nI_mulN, nI_add, inb_ok (by omega) (by omega), nI_clamp (by omega)]
      simp only [lm]
      rw [show (1 : Int32) = nI 1 from rfl, nI_add]
      have f2 : Fr MScr M1 (up M1 70 (25 * v + n) (iI (sailS (setS S 1 (5 * t) v) t n).1)) := Fr.rfl'.up (by unfold MScr; omega)
      refine ih (n + 1) _ (by omega) (by omega) ((hfr.trans a2.md.kx).trans f2.kx) ((hM.mdd a2).ms hW1 (by omega) f2) (fun c hc => ?_)
      by_cases e : c = 25 * v + n
      · subst e
        rw [up_same, show (25 * v + n) / 25 = v by omega, show (25 * v + n) % 25 = n by omega]
      · rw [up_slot e, a2 70 c (by unfold MD; omega)]
        exact hE c (by omega)
theorem kindsM {M : Mem} {S : Sv} {q : Nat → Nat × Nat × Nat} {n t : Nat} (hW : WF S) (ht : t < S 0 0) (hb : SeenB n q) (hs : SeenM M n q) (hK : RConst M) (hh : M 55 t = nI (S 1 (5 * t))) : ∀ f v M0, v ≤ 4 → 4 - v < f → Fr (KX t) M M0 → (∃ u, RepM M0 0 (setS S 1 (5 * t) u)) → EbM M0 S t (25 * v) → ∃ M1, f_X6_kindsOf_12 (nI t) f (nI (S 1 (5 * t))) (nI (bmask (kdB S q n t) v)) (nI v) M0 = some (nI (bmask (kdB S q n t) 4), M1) ∧ Fr MScr M M1 ∧ EbM M1 S t 100 := by
  have t4 : t < 4 := Nat.lt_of_lt_of_le ht hW.1
  intro f
  induction f with
  | zero => intro h _ _ q; omega
  | succ f ih =>
    intro v M0 hv hf hfr hM hE
    obtain ⟨u, hM⟩ := hM
    unfold f_X6_kindsOf_12
    by_cases z : v = 4
    · subst z
      rw [if_pos (by decide)]
      unfold f_X6_kindsOf_92
      rw [inb_ok (by omega) (by omega), nI_clamp (by omega)]
      simp only [lm]
      refine ⟨_, rfl, fr_back hfr hh, fun c hc => ?_⟩
      rw [up_cell (by omega)]
      exact hE c hc
    · rw [if_neg (fun z => absurd ((lit_le 4 (by omega) (by omega)).mp z) (by omega)), inb_ok (by omega) (by omega), nI_clamp (by omega)]
      simp only [lm]
      have hM1 := hM.tub (t := t) (w := 0) (by rw [setS_0 (by omega)]; exact ht) (by rw [setS_0 (by omega)]; exact hW.1) (by omega) (by rw [setS_0 (by omega)]; exact hW.2.1) v
      rw [show 5 * t + 0 = 5 * t from rfl, setS_setS, show 0 + 4 * 0 + t = t by omega] at hM1
      have hW1 : WF (setS S 1 (5 * t) v) := hW.kd (by omega)
      have f1 : Fr (KX t) M (up M0 55 t (nI v)) := hfr.up (by unfold KX; omega)
      obtain ⟨M1, a1, a2⟩ := asSeenM hM1 (hK.kx f1) hW1 hb (hs.kx f1)
      rw [a1]
      simp only [Option.bind_some, ite_b2]
      have key : ∀ b : Int32, nI (bmask (kdB S q n t) v) ||| b = nI (bmask (kdB S q n t) (v + 1)) → ∃ M2, f_X6_kindsOf_42 (nI t) (f_X6_kindsOf_12 (nI t) f) (nI (S 1 (5 * t))) (nI v) (nI (bmask (kdB S q n t) v)) b M1 = some (nI (bmask (kdB S q n t) 4), M2) ∧ Fr MScr M M2 ∧ EbM M2 S t 100 := by
        intro b hb
        unfold f_X6_kindsOf_42
        simp only [li]
        rw [hb]
        refine kinds47 (M := M) (P := fun x => ∃ M2, x = some (nI (bmask (kdB S q n t) 4), M2) ∧ Fr MScr M M2 ∧ EbM M2 S t 100) hW ht (show v < 4 by omega) (fun M2 h1 h2 h3 => ih (v + 1) M2 (by omega) (by omega) h1 ⟨v, h2⟩ h3) hK FU 0 M1 (by omega) (FU_gt (by omega)) (f1.trans a2.md.kx) (hM1.mdd a2) (fun c hc => ?_)
        rw [a2 70 c (by unfold MD; omega), up_cell (by omega)]
        exact hE c (by omega)
      by_cases e : kdB S q n t v = true
      · rw [if_pos (show asB (setS S 1 (5 * t) v) q n = true from e)]
        exact key _ (by rw [one_shl (by omega), nI_orP (bmask_lt _ _), bmask_t e])
      · rw [if_neg (show ¬ asB (setS S 1 (5 * t) v) q n = true from e)]
        exact key _ (by rw [show (0 : Int32) = nI 0 from rfl, nI_or, Nat.or_zero, bmask_f e])
theorem kindsOf_ok {M : Mem} {S : Sv} {q : Nat → Nat × Nat × Nat} {n t : Nat} (hW : WF S) (hM : RepM M 0 S) (hK : RConst M) (ht : t < S 0 0) (hb : SeenB n q) (hs : SeenM M n q) : ∃ M1, f_X6_kindsOf (nI t) M = some (nI (bmask (kdB S q n t) 4), M1) ∧ Fr MScr M M1 ∧ EbM M1 S t 100 := by
  have t4 : t < 4 := Nat.lt_of_lt_of_le ht hW.1
  have hh := hM.2.2.2.1 t 0 ht (by omega)
  rw [show 5 * t + 0 = 5 * t from rfl, show 0 + 4 * 0 + t = t by omega] at hh
  unfold f_X6_kindsOf
  rw [rd_ok (by omega) (by omega), hh]
  exact kindsM hW ht hb hs hK hh FU 0 M (by omega) (FU_gt (by omega)) Fr.rfl' ⟨S 1 (5 * t), by rw [setS_id]; exact hM⟩ (fun c hc => by omega)
theorem st_kinds : St_kinds Rel := by
  intro M a h
  refine st2 h fun S hS => ?_
  obtain ⟨hW, hC, hM⟩ := id hS
  have hS0 := hW.1
  obtain ⟨n, q, hb, hs, hm⟩ := h.2.2.2.1.q
  by_cases ht : 0 ≤ a.toInt ∧ a.toInt < S 0 0
  · obtain ⟨t, -, ht2, rfl⟩ := nI_rng (lo := 0) (hi := S 0 0 - 1) (x := a) (by omega)
    have ht' := ht
    rw [nI_toInt (by omega)] at ht'
    have ht3 : t < S 0 0 := by omega
    obtain ⟨M1, a1, a2⟩ := kindsAsSeen_ok hW hC ht3 hb hs
    refine ⟨nI (bmask (kdB S q n t) 4), M1, ?_, a2, fun M' hf hR hS' => ?_⟩
    · unfold f_X5_kinds
      rw [isTubC hC hS0]
      simp only [Option.bind_some, ite_b2, if_pos ht]
      rw [a1]
      rfl
    · obtain ⟨M2, b1, b2, -⟩ := kindsOf_ok hW hS'.2.2 hR.konst ht3 hb (hm.cs hf)
      refine ⟨M2, ?_, b2⟩
      unfold f_X6_kinds
      rw [isTubM hS'.2.2 hS0]
      simp only [Option.bind_some, ite_b2, if_pos ht]
      rw [b1]
      rfl
  · exact Sim.bad (b := -1) (by unfold f_X5_kinds; rw [isTubC hC hS0]; simp only [Option.bind_some, ite_b2, if_neg ht]) (fun M' hS' => by unfold f_X6_kinds; rw [isTubM hS'.2.2 hS0]; simp only [Option.bind_some, ite_b2, if_neg ht])
/-! sets -/
def seB (S : Sv) (q : Nat → Nat × Nat × Nat) (n r v : Nat) : Bool := asB (setS S 3 r v) q n
theorem setsC {S : Sv} {q : Nat → Nat × Nat × Nat} {n r : Nat} (hW : WF S) (hr : r < 10) (hb : SeenB n q) : ∀ f v M0, v ≤ 5 → 5 - v < f → (∃ u, RepC M0 14 (setS S 3 r u)) → SeenC M0 n q → ∃ M1, f_X5_sets_27 (nI r) f (nI (bmask (seB S q n r) v)) (nI v) M0 = some (nI (bmask (seB S q n r) 5), M1) ∧ Fr CScr M0 M1 := by
  intro f
  induction f with
  | zero => intro h _ _ q; omega
  | succ f ih =>
    intro v M0 hv hf hC hs
    obtain ⟨u, hC⟩ := hC
    unfold f_X5_sets_27 f_X5_sets_59
    by_cases z : v = 5
    · subst z
      rw [if_pos (by decide)]
      exact ⟨M0, rfl, Fr.rfl'⟩
    · rw [if_neg (fun z => absurd ((lit_le 5 (by omega) (by omega)).mp z) (by omega)), inb_ok hr (by omega), nI_clamp (by omega)]
      simp only [lm]
      have hC1 := hC.curU r v
      rw [setS_setS] at hC1
      have hW1 : WF (setS S 3 r v) := hW.cur (by omega)
      have g0 : Fr CScr M0 (up M0 17 r (nI v)) := Fr.rfl'.up (by unfold CScr; omega)
      obtain ⟨M1, a1, a2⟩ := asSeenC hC1 (by omega) hW1 hb (hs.cs g0)
      rw [show up M0 17 r (nI v) = up M0 (14 + 3) r (nI v) from rfl, a1]
      simp only [Option.bind_some, ite_b2, li]
      rw [one_shl (by omega), nI_orP (bmask_lt _ _), show (1 : Int32) = nI 1 from rfl, nI_add]
      obtain ⟨M2, b1, b2⟩ := ih (v + 1) M1 (by omega) (by omega) ⟨v, hC1.cd (by omega) a2⟩ ((hs.cs g0).cs a2.cd)
      refine ⟨M2, ?_, (g0.trans a2.cd).trans b2⟩
      by_cases e : seB S q n r v = true
      · rw [bmask_t e] at b1
        rw [if_pos (show asB (setS S 3 r v) q n = true from e)]
        exact b1
      · rw [bmask_f e] at b1
        rw [if_neg (show ¬ asB (setS S 3 r v) q n = true from e)]
        exact b1
theorem setsM {M : Mem} {S : Sv} {q : Nat → Nat × Nat × Nat} {n r : Nat} (hW : WF S) (hr : r < 10) (hb : SeenB n q) (hs : SeenM M n q) (hK : RConst M) (hh : M 55 (37 + r) = iI ((S 3 r : Int) - 2)) : ∀ f v M0, v ≤ 5 → 5 - v < f → Fr (KX (37 + r)) M M0 → (∃ u, RepM M0 0 (setS S 3 r u)) → ∃ M1, f_X6_sets_29 (nI r) f (iI ((S 3 r : Int) - 2)) (nI (bmask (seB S q n r) v)) (nI v) M0 = some (nI (bmask (seB S q n r) 5), M1) ∧ Fr MScr M M1 := by
  intro f
  induction f with
  | zero => intro h _ _ q; omega
  | succ f ih =>
    intro v M0 hv hf hfr hM
    obtain ⟨u, hM⟩ := hM
    unfold f_X6_sets_29
    by_cases z : v = 5
    · subst z
      rw [if_pos (by decide)]
      unfold f_X6_sets_72
      rw [show (37 : Int32) = nI 37 from rfl, nI_add, inb_ok (by omega) (by omega), nI_clamp (by omega)]
      simp only [lm]
      exact ⟨_, rfl, fr_back hfr hh⟩
    · rw [if_neg (fun z => absurd ((lit_lt 4 (by omega) (by omega)).mp z) (by omega)), show (37 : Int32) = nI 37 from rfl, nI_add, inb_ok (by omega) (by omega), nI_clamp (by omega), nI_m2]
      simp only [lm]
      have hM1 := hM.curU (by rw [setS_0 (by omega)]; exact hW.1) (by rw [setS_0 (by omega)]; exact hW.2.1) (j := r) hr v
      rw [setS_setS, show 0 + 37 + r = 37 + r by omega] at hM1
      have hW1 : WF (setS S 3 r v) := hW.cur (by omega)
      have f1 : Fr (KX (37 + r)) M (up M0 55 (37 + r) (iI ((v : Int) - 2))) := hfr.up (by unfold KX; omega)
      obtain ⟨M1, a1, a2⟩ := asSeenM hM1 (hK.kx f1) hW1 hb (hs.kx f1)
      rw [a1]
      simp only [Option.bind_some, ite_b2]
      unfold f_X6_sets_64
      simp only [li]
      rw [one_shl (by omega), nI_orP (bmask_lt _ _), show (1 : Int32) = nI 1 from rfl, nI_add, show (0 : Int32) = nI 0 from rfl, nI_or, Nat.or_zero]
      obtain ⟨M2, b1, b2⟩ := ih (v + 1) M1 (by omega) (by omega) (f1.trans a2.md.kx) ⟨v, hM1.mdd a2⟩
      refine ⟨M2, ?_, b2⟩
      by_cases e : seB S q n r v = true
      · rw [bmask_t e] at b1
        rw [if_pos (show asB (setS S 3 r v) q n = true from e)]
        exact b1
      · rw [bmask_f e] at b1
        rw [if_neg (show ¬ asB (setS S 3 r v) q n = true from e)]
        exact b1
theorem st_sets : St_sets Rel := by
  intro M a h
  refine st2 h fun S hS => ?_
  obtain ⟨hW, hC, hM⟩ := id hS
  obtain ⟨n, q, hb, hs, hm⟩ := h.2.2.2.1.q
  by_cases hc : ((0 : Nat) : Int) ≤ a.toInt ∧ a.toInt ≤ ((9 : Nat) : Int)
  · obtain ⟨r, -, hr, rfl⟩ := nI_rng hc
    obtain ⟨M1, a1, a2, a3⟩ := trial hW hC
    obtain ⟨M2, b1, b2⟩ := setsC (r := r) hW (by omega) hb FU 0 M1 (by omega) (FU_gt (by omega)) ⟨S 3 r, by rw [setS_id]; exact a3⟩ (hs.cs a2)
    refine ⟨nI (bmask (seB S q n r) 5), M2, ?_, a2.trans b2, fun M' hf hR hS' => ?_⟩
    · unfold f_X5_sets
      simp only [within_lit _ 0 9 (by omega) (by omega), Option.bind_some, ite_b2, if_pos hc]
      rw [a1]
      exact b1
    · have hh := hS'.2.2.2.2.2.2.2.1 r (by omega)
      rw [show 0 + 37 + r = 37 + r by omega] at hh
      obtain ⟨M3, c1, c2⟩ := setsM (r := r) hW (by omega) hb (hm.cs hf) hR.konst hh FU 0 M' (by omega) (FU_gt (by omega)) Fr.rfl' ⟨S 3 r, by rw [setS_id]; exact hS'.2.2⟩
      refine ⟨M3, ?_, c2⟩
      unfold f_X6_sets
      simp only [in_lit _ 0 9 (by omega) (by omega), Option.bind_some, ite_b2, if_pos hc]
      rw [show (37 : Int32) = nI 37 from rfl, nI_add, rd_ok (by omega) (by omega), hh]
      exact c1
  · exact Sim.bad (b := -1) (by unfold f_X5_sets; simp only [within_lit _ 0 9 (by omega) (by omega), Option.bind_some, ite_b2, if_neg hc]) (fun M' hS' => by unfold f_X6_sets; simp only [in_lit _ 0 9 (by omega) (by omega), Option.bind_some, ite_b2, if_neg hc])
