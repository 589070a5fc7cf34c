/-! when to look next -/
theorem bc16 : ∀ m, m < 16 → ∀ M, f_J6_bitCount_0f7a4 M (nI m) = some (nI (popF 31 m)) := by
  intro m h M
  have key : ∀ j : Fin 16, f_J6_bitCount_0f7a4 (fun _ _ => 0) (nI j.val) = some (nI (popF 31 j.val)) := by decide +kernel
  have e : f_J6_bitCount_0f7a4 M (nI m) = f_J6_bitCount_0f7a4 (fun _ _ => 0) (nI m) := rfl
  rw [e]
  exact key ⟨m, h⟩
theorem bmask_bit (b : Nat → Bool) : ∀ K i, i < K → bmask b K / 2 ^ i % 2 = if b i = true then 1 else 0
  | 0, i, h => by omega
  | K + 1, i, h => by
    have e : bmask b (K + 1) = bmask b K + if b K = true then 2 ^ K else 0 := rfl
    by_cases q : i = K
    · subst q
      have l := bmask_lt b i
      rw [e]
      by_cases z : b i = true
      · rw [if_pos z, if_pos z, Nat.add_div_right _ (Nat.two_pow_pos i), Nat.div_eq_of_lt l]
      · rw [if_neg z, if_neg z, Nat.add_zero, Nat.div_eq_of_lt l]
    · have ih := bmask_bit b K i (by omega)
      rw [← ih, e]
      by_cases z : b K = true
      · rw [if_pos z]
        obtain ⟨d, rfl⟩ : ∃ d, K = i + (d + 1) := ⟨K - i - 1, by omega⟩
        rw [show 2 ^ (i + (d + 1)) = 2 ^ i * (2 ^ d * 2) by rw [Nat.pow_add, Nat.pow_succ], Nat.add_mul_div_left _ _ (Nat.two_pow_pos i)]
        generalize bmask b (i + (d + 1)) / 2 ^ i = X
        generalize 2 ^ d = Y
        omega
      · rw [if_neg z, Nat.add_zero]
theorem bit_is {b : Nat → Bool} {K i : Nat} (hK : K ≤ 30) (h : i < K) : (nI (bmask b K) >>> (nI i &&& 31)) &&& 1 = nI (if b i = true then 1 else 0) := by
  have l := bmask_lt b K
  have l2 : 2 ^ K ≤ 2 ^ 30 := Nat.pow_le_pow_right (by omega) hK
  rw [nI_shr (by omega) (by omega), nI_and1, bmask_bit b K i h]
theorem bit_iff {b : Nat → Bool} {K i : Nat} (hK : K ≤ 30) (h : i < K) : ((nI (bmask b K) >>> (nI i &&& 31)) &&& 1 = 1) ↔ b i = true := by
  rw [bit_is hK h, show (1 : Int32) = nI 1 from rfl]
  by_cases q : b i = true
  · rw [if_pos q]
    exact ⟨fun _ => q, fun _ => rfl⟩
  · rw [if_neg q]
    exact ⟨fun z => absurd ((nI_eq (by omega) (by omega)).mp z) (by omega), fun z => absurd z q⟩
theorem bcnt_congr {b c : Nat → Bool} {T : Nat} (h : ∀ t, t < T → b t = c t) : bcnt b T = bcnt c T := sumN_congr T (fun i hi => by rw [h i hi])
theorem bcnt_pos {b : Nat → Bool} : ∀ K, bcnt b K ≠ 0 → ∃ i, i < K ∧ b i = true
  | 0, h => absurd rfl h
  | K + 1, h => by
    by_cases q : b K = true
    · exact ⟨K, by omega, q⟩
    · rw [bcnt_f q] at h
      obtain ⟨i, a, c⟩ := bcnt_pos K h
      exact ⟨i, by omega, c⟩
def mx (f : Nat → Nat) : Nat → Nat
  | 0 => 0
  | n + 1 => if mx f n < f n then f n else mx f n
theorem mx_le {f : Nat → Nat} {B : Nat} : ∀ n, (∀ a, a < n → f a ≤ B) → mx f n ≤ B
  | 0, _ => Nat.zero_le _
  | n + 1, h => by
    have ih := mx_le n (fun a ha => h a (by omega))
    have := h n (by omega)
    show (if mx f n < f n then f n else mx f n) ≤ B
    split <;> omega
theorem le_mx {f : Nat → Nat} {a : Nat} : ∀ n, a < n → f a ≤ mx f n
  | 0, h => by omega
  | n + 1, h => by
    show f a ≤ (if mx f n < f n then f n else mx f n)
    by_cases q : a = n
    · subst q
      split <;> omega
    · have ih := le_mx (f := f) n (show a < n by omega)
      split <;> omega
abbrev lfB (kb : Nat → Bool) (E : Nat → Int) (a o : Nat) : Bool := kb o && decide (E o = E a)
def lfC (kb : Nat → Bool) (E : Nat → Int) (a : Nat) : Nat := bcnt (lfB kb E a) 4
def lfM (kb : Nat → Bool) (E : Nat → Int) (a : Nat) : Nat := if kb a = true then lfC kb E a else 0
theorem lf_eq (kb : Nat → Bool) (E : Nat → Int) : mx (lfC kb E) 4 = mx (lfM kb E) 4 := by
  apply Nat.le_antisymm
  · refine mx_le 4 (fun a ha => ?_)
    by_cases q : lfC kb E a = 0
    · rw [q]
      exact Nat.zero_le _
    · obtain ⟨o, ho, h⟩ := bcnt_pos 4 q
      rw [Bool.and_eq_true, decide_eq_true_iff] at h
      have e : lfC kb E a = lfC kb E o := by
        unfold lfC
        refine bcnt_congr (fun t _ => ?_)
        unfold lfB
        rw [h.2]
      have e2 : lfM kb E o = lfC kb E o := if_pos h.1
      rw [e, ← e2]
      exact le_mx 4 ho
  · refine mx_le 4 (fun a ha => ?_)
    have : lfM kb E a ≤ lfC kb E a := by
      unfold lfM
      split
      · exact Nat.le_refl _
      · exact Nat.zero_le _
    exact Nat.le_trans this (le_mx 4 ha)
theorem mx4 (kb : Nat → Bool) (E : Nat → Int) (n : Nat) : mx (lfC kb E) n ≤ 4 := mx_le n (fun a _ => bcnt_le _ 4)
theorem mxM4 (kb : Nat → Bool) (E : Nat → Int) (n : Nat) : mx (lfM kb E) n ≤ 4 := mx_le n (fun a _ => by
  unfold lfM
  split
  · exact bcnt_le _ 4
  · omega)
/-- which EAST a tub of each kind has, less ten -/
def eaS (S : Sv) (t n k : Nat) : Int := (sailS (setS S 1 (5 * t) k) t n).1
theorem eaS_b {S : Sv} (hW : WF S) {t : Nat} (ht : t < S 0 0) (n : Nat) {k : Nat} (hk : k < 4) : -5 ≤ eaS S t n k ∧ eaS S t n k ≤ 14 :=
  sx_b (hW.kd hk) (by rw [setS_0 (by omega)]; exact ht) n
theorem law83 {M : Mem} {kb : Nat → Bool} {E : Nat → Int} {t n a w : Nat} (ha : a < 4) (hw : w ≤ 4) (hE : ∀ c, c < 4 → M 51 c = iI (E c + 10)) (hb : ∀ c, c < 4 → -5 ≤ E c ∧ E c ≤ 14) {T : Int32 → Int32 → Mem → Option (Int32 × Mem)} {A : Option (Int32 × Mem)} (hT : T (nI (if w < lfC kb E a then lfC kb E a else w)) (nI (a + 1)) M = A) : ∀ f o, o ≤ 4 → 4 - o < f → f_X5_leftAtWorst_83 (nI t) (nI (bmask kb 4)) (nI n) T f (nI w) (nI a) (nI (bcnt (lfB kb E a) o)) (nI o) M = A := by
  intro f
  induction f with
  | zero => intro h _ q; omega
  | succ f ih =>
    intro o ho hf
    unfold f_X5_leftAtWorst_83
    by_cases z : o = 4
    · subst z
      have bl := bcnt_le (lfB kb E a) 4
      rw [if_pos (by decide)]
      unfold f_X5_leftAtWorst_137
      simp only [li]
      rw [show (1 : Int32) = nI 1 from rfl, nI_add, ← hT]
      unfold lfC
      by_cases y : w < bcnt (lfB kb E a) 4
      · rw [if_pos y, if_pos ((nI_ltN (by omega) (by omega)).mpr y)]
      · rw [if_neg y, if_neg (fun x => y ((nI_ltN (by omega) (by omega)).mp x))]
    · have r := ih (o + 1) (by omega) (by omega)
      have h1 := hb o (by omega)
      have h2 := hb a ha
      rw [if_neg (fun z => absurd ((lit_le 4 (by omega) (by omega)).mp z) (by omega))]
      unfold f_X5_leftAtWorst_104 f_X5_leftAtWorst_131
      rw [rd_ok (by omega) (by omega), rd_ok (by omega) (by omega), hE o (by omega), hE a ha]
      simp only [bit_iff (b := kb) (show 4 ≤ 30 by omega) (show o < 4 by omega)]
      rw [if_neg (show ¬ ((1 : Int32) = 0) by decide), if_pos trivial]
      rw [show (1 : Int32) = nI 1 from rfl, nI_add, nI_add]
      by_cases k : kb o = true
      · rw [if_pos k]
        by_cases e : E o = E a
        · rw [if_pos (by rw [e])]
          rw [bcnt_t (by rw [Bool.and_eq_true, decide_eq_true_iff]; exact ⟨k, e⟩)] at r
          exact r
        · rw [if_neg (fun y => e (by have := (iI_eq (by omega) (by omega)).mp y; omega))]
          rw [bcnt_f (by rw [Bool.and_eq_true, decide_eq_true_iff]; exact fun y => e y.2)] at r
          exact r
      · rw [if_neg k]
        rw [bcnt_f (by rw [Bool.and_eq_true, decide_eq_true_iff]; exact fun y => k y.1)] at r
        exact r
theorem law71 {M : Mem} {kb : Nat → Bool} {E : Nat → Int} {t n : Nat} (hE : ∀ c, c < 4 → M 51 c = iI (E c + 10)) (hb : ∀ c, c < 4 → -5 ≤ E c ∧ E c ≤ 14) : ∀ f a, a ≤ 4 → 4 - a < f → f_X5_leftAtWorst_71 (nI t) (nI (bmask kb 4)) (nI n) f (nI (mx (lfC kb E) a)) (nI a) M = some (nI (mx (lfC kb E) 4), M) := by
  intro f
  induction f with
  | zero => intro h _ q; omega
  | succ f ih =>
    intro a ha hf
    unfold f_X5_leftAtWorst_71
    by_cases z : a = 4
    · subst z
      rw [if_pos (by decide)]
    · rw [if_neg (fun z => absurd ((lit_le 4 (by omega) (by omega)).mp z) (by omega))]
      exact law83 (by omega) (mx4 kb E a) hE hb (ih (a + 1) (by omega) (by omega)) FU 0 (by omega) (FU_gt (by omega))
theorem law14 {S : Sv} {kb : Nat → Bool} {t n : Nat} (hW : WF S) (ht : t < S 0 0) (hn : n ≤ 24) : ∀ f k M0, k ≤ 4 → 4 - k < f → (∃ u, RepC M0 14 (setS S 1 (5 * t) u)) → (∀ c, c < k → M0 51 c = iI (eaS S t n c + 10)) → ∃ M1, f_X5_leftAtWorst_14 (nI t) (nI (bmask kb 4)) (nI n) f (nI k) M0 = some (nI (mx (lfC kb (eaS S t n)) 4), M1) ∧ Fr CScr M0 M1 := by
  have t4 : t < 4 := Nat.lt_of_lt_of_le ht hW.1
  intro f
  induction f with
  | zero => intro h _ _ q; omega
  | succ f ih =>
    intro k M0 hk hf hC hE
    obtain ⟨u, hC⟩ := hC
    unfold f_X5_leftAtWorst_14
    by_cases z : k = 4
    · subst z
      rw [if_pos (by decide)]
      unfold f_X5_leftAtWorst_65
      exact ⟨M0, law71 hE (fun c hc => eaS_b hW ht n hc) FU 0 (by omega) (FU_gt (by omega)), Fr.rfl'⟩
    · rw [if_neg (fun z => absurd ((lit_le 4 (by omega) (by omega)).mp z) (by omega)), putTubC0 t4]
      simp only [Option.bind_some]
      have hC1 := hC.tub (5 * t) k
      rw [setS_setS] at hC1
      have hW1 : WF (setS S 1 (5 * t) k) := hW.kd (by omega)
      have ht1 : t < setS S 1 (5 * t) k 0 0 := by rw [setS_0 (by omega)]; exact ht
      have g0 : Fr (fun c j => c = 15 ∨ (41 ≤ c ∧ c ≤ 44)) M0 (up M0 (14 + 1) (5 * t) (nI k)) := Fr.rfl'.up (by omega)
      obtain ⟨M1, a1, a2, a3⟩ := sailTub_ok hC1 (by omega) hW1 ht1 hn
      have a4 : Fr CD _ M1 := a2.mono (fun c j x => by unfold Day4 at x; unfold CD; omega)
      have g1 := g0.trans (a2.mono (fun c j x => by unfold Day4 at x; omega))
      rw [a1]
      simp only [Option.bind_some]
      unfold f_X0_eastOf
      rw [rd_ok t4 (by omega), a3.1]
      simp only [Option.bind_some]
      rw [inb_ok (by omega) (by omega), nI_clamp (by omega), show (1 : Int32) = nI 1 from rfl, nI_add, show (10 : Int32) = iI 10 from rfl, iI_add]
      simp only [lm]
      have f2 : Fr (fun c j => c = 51) M1 (up M1 51 k (iI ((sailS (setS S 1 (5 * t) k) t n).1 + 10))) := Fr.rfl'.up (by omega)
      obtain ⟨M2, b1, b2⟩ := ih (k + 1) _ (by omega) (by omega) ⟨k, (hC1.cd (by omega) a4).fr f2 (fun c j x y => by omega)⟩ (fun c hc => by
        by_cases e : c = k
        · subst e
          rw [up_same]
          rfl
        · rw [up_slot e, g1 51 c (by omega)]
          exact hE c (by omega))
      exact ⟨M2, b1, ((g1.mono (fun c j x => by unfold CScr; omega)).trans (f2.mono (fun c j x => by unfold CScr; omega))).trans b2⟩
theorem leftC {M : Mem} {S : Sv} {kb : Nat → Bool} {t n : Nat} (hW : WF S) (hC : RepC M 9 S) (ht : t < S 0 0) (hn : n ≤ 24) : ∃ M1, f_X5_leftAtWorst (nI t) (nI (bmask kb 4)) (nI n) M = some (nI (mx (lfC kb (eaS S t n)) 4), M1) ∧ Fr CScr M M1 := by
  obtain ⟨M1, a1, a2, a3⟩ := trial hW hC
  obtain ⟨M2, b1, b2⟩ := law14 (kb := kb) hW ht hn FU 0 M1 (by omega) (FU_gt (by omega)) ⟨S 1 (5 * t), by rw [setS_id]; exact a3⟩ (fun c hc => by omega)
  refine ⟨M2, ?_, a2.trans b2⟩
  unfold f_X5_leftAtWorst
  rw [a1]
  exact b1
def amn (f : Nat → Nat) (z : Nat × Int) : Nat → Nat × Int
  | 0 => z
  | n + 1 => if (amn f z n).1 ≤ f n then amn f z n else (f n, (n : Int))
theorem amn_n {f : Nat → Nat} {z : Nat × Int} {n : Nat} (h : (amn f z n).1 ≤ f n) : amn f z (n + 1) = amn f z n := if_pos h
theorem amn_y {f : Nat → Nat} {z : Nat × Int} {n : Nat} (h : ¬ (amn f z n).1 ≤ f n) : amn f z (n + 1) = (f n, (n : Int)) := if_neg h
theorem amn_b {f : Nat → Nat} {z : Nat × Int} (hz : z.1 ≤ 4 ∧ -4 ≤ z.2 ∧ z.2 ≤ 100) (hf : ∀ n, f n ≤ 4) : ∀ n, n ≤ 100 → (amn f z n).1 ≤ 4 ∧ -4 ≤ (amn f z n).2 ∧ (amn f z n).2 ≤ 100
  | 0, _ => hz
  | n + 1, h => by
    have ih := amn_b hz hf n (by omega)
    have := hf n
    by_cases q : (amn f z n).1 ≤ f n
    · rw [amn_n q]
      exact ih
    · rw [amn_y q]
      exact ⟨this, by simp only; omega, by simp only; omega⟩
def lkA (S : Sv) (kb : Nat → Bool) (t : Nat) : Nat → Nat × Int := amn (fun n => mx (lfC kb (eaS S t n)) 4) (bcnt kb 4, -4)
theorem lkA_b (S : Sv) (kb : Nat → Bool) (t : Nat) {n : Nat} (hn : n ≤ 100) : (lkA S kb t n).1 ≤ 4 ∧ -4 ≤ (lkA S kb t n).2 ∧ (lkA S kb t n).2 ≤ 100 :=
  amn_b ⟨bcnt_le kb 4, by simp only; omega, by simp only; omega⟩ (fun n => mx4 kb _ 4) n hn
def lkR (S : Sv) (kb : Nat → Bool) (t w : Nat) : Int32 := if (lkA S kb t 25).2 = -4 then iI (-4) else if w = 0 then iI (lkA S kb t 25).2 else nI (lkA S kb t 25).1
theorem lookC41 {S : Sv} {kb : Nat → Bool} {t w : Nat} (hW : WF S) (ht : t < S 0 0) (hw : w < 2) : ∀ f n M0, n ≤ 25 → 25 - n < f → RepC M0 9 S → ∃ M1, f_X5_look_41 (nI t) (nI w) f (nI (bmask kb 4)) (nI (lkA S kb t n).1) (iI (lkA S kb t n).2) (nI n) M0 = some (lkR S kb t w, M1) ∧ Fr CScr M0 M1 := by
  intro f
  induction f with
  | zero => intro h _ _ q; omega
  | succ f ih =>
    intro n M0 hn hf hC
    have b := lkA_b S kb t (show n ≤ 100 by omega)
    unfold f_X5_look_41
    by_cases z : n = 25
    · subst z
      rw [if_pos (by decide)]
      unfold f_X5_look_79 lkR
      refine ⟨M0, ?_, Fr.rfl'⟩
      simp only [nI_lit 0 (show w < 2 ^ 31 by omega) (by omega)]
      rw [show (-4 : Int32) = iI (-4) from rfl]
      by_cases z : (lkA S kb t 25).2 = -4
      · rw [if_pos ((iI_eq (by omega) (by omega)).mpr z), if_pos z]
      · rw [if_neg (fun y => z ((iI_eq (by omega) (by omega)).mp y)), if_neg z]
        by_cases x : w = 0
        · rw [if_pos x, if_pos x]
        · rw [if_neg x, if_neg x]
    · obtain ⟨M1, a1, a2⟩ := leftC (kb := kb) hW hC ht (show n ≤ 24 by omega)
      have m4 := mx4 kb (eaS S t n) 4
      rw [if_neg (fun z => absurd ((lit_lt 24 (by omega) (by omega)).mp z) (by omega)), a1]
      simp only [Option.bind_some]
      unfold f_X5_look_73
      rw [show (1 : Int32) = nI 1 from rfl, nI_add]
      obtain ⟨M2, b1, b2⟩ := ih (n + 1) M1 (by omega) (by omega) (hC.cs (by omega) a2)
      refine ⟨M2, ?_, a2.trans b2⟩
      rw [← b1]
      unfold lkA at b ⊢
      by_cases q : (amn (fun n => mx (lfC kb (eaS S t n)) 4) (bcnt kb 4, -4) n).1 ≤ mx (lfC kb (eaS S t n)) 4
      · rw [if_pos ((nI_leN (by omega) (by omega)).mpr q), amn_n q]
      · rw [if_neg (fun y => q ((nI_leN (by omega) (by omega)).mp y)), amn_y q, iI_nI n]
theorem look64M {M : Mem} {kb : Nat → Bool} {E : Nat → Int} {t w n a v : Nat} {X Y : Int32} (hn : n < 25) (ha : a < 4) (hv : v ≤ 4) (hE : ∀ c, c < 4 → M 70 (25 * c + n) = iI (E c)) (hb : ∀ c, c < 4 → -5 ≤ E c ∧ E c ≤ 14) {T : Int32 → Int32 → Int32 → Int32 → Int32 → Int32 → Mem → Option (Int32 × Mem)} {A : Option (Int32 × Mem)} (hT : T (nI (bmask kb 4)) X Y (nI n) (nI (if v < lfM kb E a then lfM kb E a else v)) (nI (a + 1)) M = A) (hk : kb a = true) : ∀ f o, o ≤ 4 → 4 - o < f → f_X6_look_64 (nI t) (nI w) T f (nI (bmask kb 4)) X Y (nI n) (nI v) (nI a) (nI (bcnt (lfB kb E a) o)) (nI o) M = A := by
  intro f
  induction f with
  | zero => intro h _ q; omega
  | succ f ih =>
    intro o ho hf
    unfold f_X6_look_64
    by_cases z : o = 4
    · subst z
      have bl := bcnt_le (lfB kb E a) 4
      rw [if_pos (by decide)]
      unfold f_X6_look_135 f_X6_look_149
      rw [show (1 : Int32) = nI 1 from rfl, nI_add, ← hT]
      unfold lfM
      rw [if_pos hk]
      unfold lfC
      by_cases y : v < bcnt (lfB kb E a) 4
      · rw [if_pos y, if_neg (fun x => absurd ((nI_leN (by omega) (by omega)).mp x) (by omega))]
      · rw [if_neg y, if_pos ((nI_leN (by omega) (by omega)).mpr (by omega))]
    · have r := ih (o + 1) (by omega) (by omega)
      have h1 := hb o (by omega)
      have h2 := hb a ha
      rw [if_neg (fun z => absurd ((lit_le 4 (by omega) (by omega)).mp z) (by omega))]
      unfold f_X6_look_125 f_X6_look_126
      simp only [bit_iff (b := kb) (show 4 ≤ 30 by omega) (show o < 4 by omega), bit_iff (b := kb) (show 4 ≤ 30 by omega) ha, li]
      rw [if_pos hk, show (25 : Int32) = nI 25 from rfl, nI_mulN, nI_mulN, nI_add, nI_add, rd_ok (by omega) (by omega), rd_ok (by omega) (by omega), hE o (by omega), hE a ha, show (1 : Int32) = nI 1 from rfl, show (0 : Int32) = nI 0 from rfl, nI_add, nI_add, nI_add, Nat.add_zero]
      by_cases k : kb o = true
      · rw [if_pos k]
        by_cases e : E o = E a
        · rw [if_pos (by rw [e])]
          rw [bcnt_t (by rw [Bool.and_eq_true, decide_eq_true_iff]; exact ⟨k, e⟩)] at r
          exact r
        · rw [if_neg (fun y => e (by have := (iI_eq (by omega) (by omega)).mp y; omega))]
          rw [bcnt_f (by rw [Bool.and_eq_true, decide_eq_true_iff]; exact fun y => e y.2)] at r
          exact r
      · rw [if_neg k]
        rw [bcnt_f (by rw [Bool.and_eq_true, decide_eq_true_iff]; exact fun y => k y.1)] at r
        exact r
theorem look52M {M : Mem} {kb : Nat → Bool} {E : Nat → Int} {t w n l : Nat} {i : Int} (hl : l ≤ 4) (hn : n < 25) (hE : ∀ c, c < 4 → M 70 (25 * c + n) = iI (E c)) (hb : ∀ c, c < 4 → -5 ≤ E c ∧ E c ≤ 14) {T : Int32 → Int32 → Int32 → Int32 → Mem → Option (Int32 × Mem)} {A : Option (Int32 × Mem)} (hT : T (nI (bmask kb 4)) (nI (if l ≤ mx (lfM kb E) 4 then l else mx (lfM kb E) 4)) (iI (if l ≤ mx (lfM kb E) 4 then i else (n : Int))) (nI (n + 1)) M = A) : ∀ f a, a ≤ 4 → 4 - a < f → f_X6_look_52 (nI t) (nI w) T f (nI (bmask kb 4)) (nI l) (iI i) (nI n) (nI (mx (lfM kb E) a)) (nI a) M = A := by
  intro f
  induction f with
  | zero => intro h _ q; omega
  | succ f ih =>
    intro a ha hf
    have ma := mxM4 kb E a
    unfold f_X6_look_52
    by_cases z : a = 4
    · subst z
      rw [if_pos (by decide)]
      unfold f_X6_look_157 f_X6_look_171 f_X6_look_187
      rw [show (1 : Int32) = nI 1 from rfl, nI_add, ← hT]
      by_cases y : l ≤ mx (lfM kb E) 4
      · rw [if_pos y, if_pos y, if_pos ((nI_leN (by omega) (by omega)).mpr y), if_pos ((nI_leN (by omega) (by omega)).mpr y)]
      · rw [if_neg y, if_neg y, if_neg (fun x => y ((nI_leN (by omega) (by omega)).mp x)), if_neg (fun x => y ((nI_leN (by omega) (by omega)).mp x)), iI_nI n]
    · rw [if_neg (fun z => absurd ((lit_le 4 (by omega) (by omega)).mp z) (by omega))]
      have r := ih (a + 1) (by omega) (by omega)
      by_cases k : kb a = true
      · exact look64M hn (by omega) ma hE hb r k FU 0 (by omega) (FU_gt (by omega))
      · obtain ⟨m, hm⟩ := FU_succ
        rw [hm]
        unfold f_X6_look_64
        simp only [bit_iff (b := kb) (show 4 ≤ 30 by omega) (show a < 4 by omega)]
        rw [if_neg (show ¬ ((4 : Int32) ≤ 0) by decide), if_neg k]
        unfold f_X6_look_135 f_X6_look_149
        rw [if_pos (show (0 : Int32) ≤ nI (mx (lfM kb E) a) from (nI_leN (a := 0) (by omega) (by omega)).mpr (Nat.zero_le _)), show (1 : Int32) = nI 1 from rfl, nI_add]
        have e : mx (lfM kb E) (a + 1) = mx (lfM kb E) a := by
          show (if mx (lfM kb E) a < lfM kb E a then lfM kb E a else mx (lfM kb E) a) = _
          have : lfM kb E a = 0 := if_neg k
          rw [this, if_neg (by omega)]
        rw [e] at r
        exact r
theorem lookM39 {M : Mem} {S : Sv} {kb : Nat → Bool} {t w : Nat} (hW : WF S) (ht : t < S 0 0) (hw : w < 2) (hE : EbM M S t 100) : ∀ f n, n ≤ 25 → 25 - n < f → f_X6_look_39 (nI t) (nI w) f (nI (bmask kb 4)) (nI (lkA S kb t n).1) (iI (lkA S kb t n).2) (nI n) M = some (lkR S kb t w, M) := by
  intro f
  induction f with
  | zero => intro h _ q; omega
  | succ f ih =>
    intro n hn hf
    have b := lkA_b S kb t (show n ≤ 100 by omega)
    unfold f_X6_look_39
    by_cases z : n = 25
    · subst z
      rw [if_pos (by decide)]
      unfold f_X6_look_195 f_X6_look_206 lkR
      simp only [nI_lit 0 (show w < 2 ^ 31 by omega) (by omega)]
      rw [show (-4 : Int32) = iI (-4) from rfl]
      by_cases z : (lkA S kb t 25).2 = -4
      · rw [if_pos ((iI_eq (by omega) (by omega)).mpr z), if_pos z, z]
      · rw [if_neg (fun y => z ((iI_eq (by omega) (by omega)).mp y)), if_neg z]
        by_cases x : w = 0
        · rw [if_pos x, if_pos x]
        · rw [if_neg x, if_neg x]
    · rw [if_neg (fun z => absurd ((lit_lt 24 (by omega) (by omega)).mp z) (by omega))]
      have r := ih (n + 1) (by omega) (by omega)
      refine look52M (E := eaS S t n) b.1 (by omega) (fun c hc => ?_) (fun c hc => eaS_b hW ht n hc) ?_ FU 0 (by omega) (FU_gt (by omega))
      · have := hE (25 * c + n) (by omega)
        rw [show (25 * c + n) / 25 = c by omega, show (25 * c + n) % 25 = n by omega] at this
        exact this
      · rw [← r, ← lf_eq]
        unfold lkA at b ⊢
        by_cases q : (amn (fun n => mx (lfC kb (eaS S t n)) 4) (bcnt kb 4, -4) n).1 ≤ mx (lfC kb (eaS S t n)) 4
        · rw [if_pos q, if_pos q, amn_n q]
        · rw [if_neg q, if_neg q, amn_y q]
theorem st_look : St_look Rel := by
  intro M a c h
  refine st2 h fun S hS => ?_
  obtain ⟨hW, hC, hM⟩ := id hS
  have hS0 := hW.1
  obtain ⟨n, q, hb, hs, hm⟩ := h.2.2.2.1.q
  by_cases ht : 0 ≤ a.toInt ∧ a.toInt < S 0 0
  · by_cases hc : ((0 : Nat) : Int) ≤ c.toInt ∧ c.toInt ≤ ((1 : Nat) : Int)
    · obtain ⟨t, -, ht2, rfl⟩ := nI_rng (lo := 0) (hi := S 0 0 - 1) (x := a) (by omega)
      obtain ⟨w, -, hw, rfl⟩ := nI_rng hc
      have ht' := ht
      rw [nI_toInt (by omega)] at ht'
      have ht3 : t < S 0 0 := by omega
      have l4 := bmask_lt (kdB S q n t) 4
      obtain ⟨M1, a1, a2⟩ := kindsAsSeen_ok hW hC ht3 hb hs
      obtain ⟨M2, b1, b2⟩ := lookC41 (kb := kdB S q n t) (w := w) hW ht3 (by omega) FU 0 M1 (by omega) (FU_gt (by omega)) (hC.cs (by omega) a2)
      refine ⟨lkR S (kdB S q n t) t w, M2, ?_, a2.trans b2, fun M' hf hR hS' => ?_⟩
      · unfold f_X5_look
        rw [isTubC hC hS0]
        simp only [within_lit _ 0 1 (by omega) (by omega), Option.bind_some, ite_b2, if_pos ht, if_pos hc]
        rw [a1]
        simp only [Option.bind_some]
        rw [bc16 _ l4, pop_bmask _ _ _ (by omega)]
        exact b1
      · obtain ⟨M3, c1, c2, c3⟩ := kindsOf_ok hW hS'.2.2 hR.konst ht3 hb (hm.cs hf)
        refine ⟨M3, ?_, c2⟩
        unfold f_X6_look
        rw [isTubM hS'.2.2 hS0]
        simp only [in_lit _ 0 1 (by omega) (by omega), Option.bind_some, ite_b2, if_pos ht, if_pos hc]
        rw [c1]
        simp only [Option.bind_some]
        rw [bitsOf_ok (by omega), pop_bmask _ _ _ (by omega)]
        exact lookM39 (kb := kdB S q n t) (w := w) hW ht3 (by omega) c3 FU 0 (by omega) (FU_gt (by omega))
    · exact Sim.bad (b := -1) (by unfold f_X5_look; rw [isTubC hC hS0]; simp only [within_lit _ 0 1 (by omega) (by omega), Option.bind_some, ite_b2, if_pos ht, if_neg hc]) (fun M' hS' => by unfold f_X6_look; rw [isTubM hS'.2.2 hS0]; simp only [in_lit _ 0 1 (by omega) (by omega), Option.bind_some, ite_b2, if_pos ht, if_neg hc])
  · exact Sim.bad (b := -1) (by unfold f_X5_look; rw [isTubC hC hS0]; simp only [Option.bind_some, ite_b2, if_neg ht]) (fun M' hS' => by unfold f_X6_look; rw [isTubM hS'.2.2 hS0]; simp only [Option.bind_some, ite_b2, if_neg ht])
