/-! the best of several, the first -/
def amc (f c : Nat → Int) (z : Int × Int) : Nat → Int × Int
  | 0 => z
  | n + 1 => if (amc f c z n).2 < f n then (c n, f n) else amc f c z n
theorem amc_y {f c : Nat → Int} {z : Int × Int} {n : Nat} (h : (amc f c z n).2 < f n) : amc f c z (n + 1) = (c n, f n) := if_pos h
theorem amc_n {f c : Nat → Int} {z : Int × Int} {n : Nat} (h : ¬ (amc f c z n).2 < f n) : amc f c z (n + 1) = amc f c z n := if_neg h
theorem amc_b {f c : Nat → Int} {z : Int × Int} (hz : -1 ≤ z.2 ∧ z.2 ≤ 396) (hz1 : -4 ≤ z.1 ∧ z.1 ≤ 1000) : ∀ N, (∀ n, n < N → 0 ≤ f n ∧ f n ≤ 396) → (∀ n, n < N → 0 ≤ c n ∧ c n ≤ 1000) → (-1 ≤ (amc f c z N).2 ∧ (amc f c z N).2 ≤ 396) ∧ -4 ≤ (amc f c z N).1 ∧ (amc f c z N).1 ≤ 1000
  | 0, _, _ => ⟨hz, hz1⟩
  | N + 1, h, g => by
    have ih := amc_b hz hz1 N (fun n hn => h n (by omega)) (fun n hn => g n (by omega))
    have h1 := h N (by omega)
    have g1 := g N (by omega)
    by_cases q : (amc f c z N).2 < f N
    · rw [amc_y q]
      exact ⟨⟨by simp only; omega, by simp only; omega⟩, by simp only; omega, by simp only; omega⟩
    · rw [amc_n q]
      exact ih
theorem sail_congr {S T : Sv} {t : Nat} (h0 : S 0 2 = T 0 2) (h1 : ∀ j, S 1 j = T 1 j) (h3 : ∀ j, S 3 j = T 3 j) (h4 : ∀ j, S 4 j = T 4 j) : ∀ n, sailS S t n = sailS T t n
  | 0 => by
    show initS S t = initS T t
    unfold initS
    simp only [h1]
  | n + 1 => by
    have ih := sail_congr h0 h1 h3 h4 (t := t) n
    unfold sailS
    rw [ih, h1]
    have e : ∀ u, hourS S t n u = hourS T t n u := by
      intro u
      unfold hourS hx hy tideS
      simp only [h0, h1, h3, h4]
    rw [e]
theorem sail_heir (S : Sv) (j v t n : Nat) : sailS (setS S 2 j v) t n = sailS S t n :=
  sail_congr (setS_ne (by omega)) (fun j => setS_ne (by omega)) (fun j => setS_ne (by omega)) (fun j => setS_ne (by omega)) n
theorem SlC.fr {M M1 : Mem} {t : Nat} {u : TS} {X : Nat → Nat → Prop} (h : SlC M t u) (hf : Fr X M M1) (hx : ∀ c, 41 ≤ c → c ≤ 44 → ¬ X c t) : SlC M1 t u := by
  obtain ⟨a, b, c, d⟩ := h
  exact ⟨by rw [hf _ _ (hx _ (by omega) (by omega)), a], by rw [hf _ _ (hx _ (by omega) (by omega)), b], by rw [hf _ _ (hx _ (by omega) (by omega)), c], by rw [hf _ _ (hx _ (by omega) (by omega)), d]⟩
theorem sailAll_ok {M : Mem} {k : Nat} {S : Sv} (hC : RepC M k S) (hk : k + 4 < 41) (hW : WF S) : ∃ M1, f_X0_sail k M = some M1 ∧ Fr CD M M1 ∧ ∀ t, t < S 0 0 → SlC M1 t (sailS S t 24) := by
  have hT := hW.1
  have go : ∀ f i M0, i ≤ S 0 0 → S 0 0 - i < f → Fr CD M M0 → (∀ t, t < i → SlC M0 t (sailS S t 24)) → ∃ M1, f_X0_sail_2 k f (nI i) M0 = some M1 ∧ Fr CD M M1 ∧ ∀ t, t < S 0 0 → SlC M1 t (sailS S t 24) := by
    intro f
    induction f with
    | zero => intro i _ _ h; omega
    | succ f ih =>
      intro i M0 hi hf hfr hd
      have hC0 := hC.cd hk hfr
      unfold f_X0_sail_2
      rw [hC0.1]
      by_cases q : i = S 0 0
      · subst q
        rw [if_pos ((nI_leN (by omega) (by omega)).mpr (by omega))]
        exact ⟨M0, rfl, hfr, hd⟩
      · rw [if_neg (fun z => q (by have := (nI_leN (by omega) (by omega)).mp z; omega))]
        obtain ⟨M1, a1, a2, a3⟩ := sailTub_ok hC0 hk hW (show i < S 0 0 by omega) (show 24 ≤ 24 by omega)
        rw [show (24 : Int32) = nI 24 from rfl, a1]
        simp only [Option.bind_some]
        rw [show (1 : Int32) = nI 1 from rfl, nI_add]
        refine ih (i + 1) M1 (by omega) (by omega) (hfr.trans (a2.mono (fun c j z => by unfold Day4 at z; unfold CD; omega))) (fun t ht => ?_)
        by_cases qt : t = i
        · subst qt; exact a3
        · exact (hd t (by omega)).fr a2 (fun c _ _ => by unfold Day4; omega)
  exact go FU 0 M (by omega) (FU_gt (by omega)) Fr.rfl' (fun t ht => by omega)
def CM (c _j : Nat) : Prop := 45 ≤ c ∧ c ≤ 46
theorem CM_CD {c j : Nat} (h : CM c j) : CD c j := by unfold CM at h; unfold CD; omega
theorem meetAll_ok {M : Mem} {k : Nat} {S : Sv} (hC : RepC M k S) (hk : k + 4 < 41) (hW : WF S) (hs : ∀ t, t < S 0 0 → SlC M t (sailS S t 24)) : ∃ M1, f_X0_meet k M = some M1 ∧ Fr CM M M1 ∧ ∀ t, t < S 0 0 → DayC M1 t S 24 := by
  have hT := hW.1
  have go : ∀ f i M0, i ≤ S 0 0 → S 0 0 - i < f → Fr CM M M0 → (∀ t, t < i → DayC M0 t S 24) → ∃ M1, f_X0_meet_2 k f (nI i) M0 = some M1 ∧ Fr CM M M1 ∧ ∀ t, t < S 0 0 → DayC M1 t S 24 := by
    intro f
    induction f with
    | zero => intro i _ _ h; omega
    | succ f ih =>
      intro i M0 hi hf hfr hd
      have hC0 := hC.cd hk (hfr.mono (fun _ _ => CM_CD))
      unfold f_X0_meet_2
      rw [hC0.1]
      by_cases q : i = S 0 0
      · subst q
        rw [if_pos ((nI_leN (by omega) (by omega)).mpr (by omega))]
        exact ⟨M0, rfl, hfr, hd⟩
      · rw [if_neg (fun z => q (by have := (nI_leN (by omega) (by omega)).mp z; omega))]
        obtain ⟨M1, a1, a2, a3⟩ := meetTub_ok hC0 hk hW (show i < S 0 0 by omega) (show 24 ≤ 24 by omega) ((hs i (by omega)).fr hfr (fun c _ _ => by unfold CM; omega))
        rw [show (24 : Int32) = nI 24 from rfl, a1]
        simp only [Option.bind_some]
        rw [show (1 : Int32) = nI 1 from rfl, nI_add]
        refine ih (i + 1) M1 (by omega) (by omega) (hfr.trans (a2.mono (fun c j z => by unfold Day2 at z; unfold CM; omega))) (fun t ht => ?_)
        by_cases qt : t = i
        · subst qt; exact a3
        · exact (hd t (by omega)).fr a2 (fun c => by unfold Day2; omega)
  exact go FU 0 M (by omega) (FU_gt (by omega)) Fr.rfl' (fun t ht => by omega)
theorem putHeirC0 {M : Mem} {k t v : Nat} (ht : t < 4) : f_X2_putHeir k (nI t) 0 (nI v) M = some (up M (k + 2) (4 * t) (nI v)) := putHeirC (w := 0) ht (by omega)
theorem putHeirC3 {M : Mem} {k t v : Nat} (ht : t < 4) : f_X2_putHeir k (nI t) 3 (nI v) M = some (up M (k + 2) (4 * t + 3) (nI v)) := putHeirC (w := 3) ht (by omega)
theorem WF.pl {S : Sv} (hW : WF S) {i v : Nat} (hv : v < 10) : WF (setS S 2 (4 * i) v) := hW.heir (i := i) (k := 0) (by omega) (fun _ => hv) (by omega) (by omega) (by omega)
theorem WF.hk {S : Sv} (hW : WF S) {i v : Nat} (hv : v < 10) : WF (setS S 2 (4 * i + 3) v) := hW.heir (i := i) (k := 3) (by omega) (by omega) (by omega) (by omega) (fun _ => hv)
/-! place -/
def plA (S : Sv) (i : Nat) : Nat → Int × Int := amc (fun v => (EH (setS S 2 (4 * i) v) i : Int)) (fun v => (v : Int)) (0, -1)
theorem plA_b {S : Sv} (hW : WF S) (i : Nat) {n : Nat} (hn : n ≤ 10) : (-1 ≤ (plA S i n).2 ∧ (plA S i n).2 ≤ 396) ∧ -4 ≤ (plA S i n).1 ∧ (plA S i n).1 ≤ 1000 :=
  amc_b (by simp only; omega) (by simp only; omega) n (fun v hv => by
    have := EH_le (hW.pl (i := i) (v := v) (by omega)) i
    omega) (fun v hv => by omega)
theorem placeC {S : Sv} {i w : Nat} (hW : WF S) (hi : i < 4) (hw : w < 2) : ∀ f v M0, v ≤ 10 → 10 - v < f → (∃ u, RepC M0 14 (setS S 2 (4 * i) u)) → (∀ t, t < S 0 0 → SlC M0 t (sailS S t 24)) → ∃ M1, f_X5_place_52 (nI i) (nI w) f (iI (plA S i v).1) (iI (plA S i v).2) (nI v) M0 = some (if w = 0 then iI (plA S i 10).1 else iI (plA S i 10).2, M1) ∧ Fr CScr M0 M1 := by
  intro f
  induction f with
  | zero => intro h _ _ q; omega
  | succ f ih =>
    intro v M0 hv hf hC hs
    obtain ⟨u, hC⟩ := hC
    unfold f_X5_place_52
    by_cases q : v = 10
    · subst q
      rw [if_pos (by decide)]
      unfold f_X5_place_115
      simp only [nI_lit 0 (show w < 2 ^ 31 by omega) (by omega)]
      refine ⟨M0, ?_, Fr.rfl'⟩
      by_cases z : w = 0
      · rw [if_pos z, if_pos z]
      · rw [if_neg z, if_neg z]
    · rw [if_neg (fun z => absurd ((lit_le 10 (by omega) (by omega)).mp z) (by omega)), putHeirC0 hi]
      simp only [Option.bind_some]
      have hC1 := hC.heirU (4 * i) v
      rw [setS_setS] at hC1
      have hW1 : WF (setS S 2 (4 * i) v) := hW.pl (by omega)
      have g0 : Fr CScr M0 (up M0 (14 + 2) (4 * i) (nI v)) := Fr.rfl'.up (by unfold CScr; omega)
      obtain ⟨M1, a1, a2, a3⟩ := meetAll_ok hC1 (by omega) hW1 (fun t ht => by
        rw [setS_0 (by omega)] at ht
        rw [sail_heir]
        obtain ⟨p1, p2, p3, p4⟩ := hs t ht
        exact ⟨by rw [up_cell (by omega), p1], by rw [up_cell (by omega), p2], by rw [up_cell (by omega), p3], by rw [up_cell (by omega), p4]⟩)
      have aCD := a2.mono (fun _ _ => CM_CD)
      rw [a1]
      simp only [Option.bind_some]
      rw [estHeirC (hC1.cd (by omega) aCD) hW1 a3 hi]
      simp only [Option.bind_some]
      have b := plA_b hW i hv
      have eb := EH_le hW1 i
      have hs1 : ∀ t, t < S 0 0 → SlC M1 t (sailS S t 24) := by
        intro t ht
        have := (a3 t (by rw [setS_0 (by omega)]; exact ht)).1
        rw [sail_heir] at this
        exact this
      obtain ⟨M2, b1, b2⟩ := ih (v + 1) M1 (by omega) (by omega) ⟨v, hC1.cd (by omega) aCD⟩ hs1
      refine ⟨M2, ?_, (g0.trans aCD.cd).trans b2⟩
      rw [← b1]
      unfold f_X5_place_109
      rw [show (1 : Int32) = nI 1 from rfl, nI_add, ← iI_nI (EH _ _)]
      unfold plA at b ⊢
      by_cases z : (amc (fun v => (EH (setS S 2 (4 * i) v) i : Int)) (fun v => (v : Int)) (0, -1) v).2 < (EH (setS S 2 (4 * i) v) i : Int)
      · rw [if_neg (fun y => by have := (iI_le (by omega) (by omega)).mp y; omega), amc_y z, iI_nI v]
      · rw [if_pos ((iI_le (by omega) (by omega)).mpr (by omega)), amc_n z]
theorem placeM {S : Sv} {i w : Nat} (hW : WF S) (hi : i < 4) (hw : w < 2) : ∀ f v M0, v ≤ 10 → 10 - v < f → RConst M0 → (∃ u, RepM M0 288 (setS S 2 (4 * i) u)) → ∃ M1, f_X6_place_36 (nI i) (nI w) f (iI (plA S i v).2) (iI (plA S i v).1) (nI v) M0 = some (if w = 0 then iI (plA S i 10).1 else iI (plA S i 10).2, M1) ∧ Fr MScr M0 M1 := by
  intro f
  induction f with
  | zero => intro h _ _ q; omega
  | succ f ih =>
    intro v M0 hv hf hK hM
    obtain ⟨u, hM⟩ := hM
    unfold f_X6_place_36
    by_cases q : v = 10
    · subst q
      rw [if_pos (by decide)]
      unfold f_X6_place_101
      simp only [nI_lit 0 (show w < 2 ^ 31 by omega) (by omega)]
      refine ⟨M0, ?_, Fr.rfl'⟩
      by_cases z : w = 0
      · rw [if_pos z, if_pos z]
      · rw [if_neg z, if_neg z]
    · rw [if_neg (fun z => absurd ((lit_lt 9 (by omega) (by omega)).mp z) (by omega)), show (309 : Int32) = nI 309 from rfl, show (4 : Int32) = nI 4 from rfl, nI_mulN, nI_add, inb_ok (by omega) (by omega), nI_clamp (by omega)]
      simp only [lm]
      have hM1 := hM.heirU (by rw [setS_0 (by omega)]; exact hW.1) (by rw [setS_0 (by omega)]; exact hW.2.1) (j := 4 * i) (by omega) v
      rw [setS_setS, show 288 + 21 + 4 * i = 309 + 4 * i by omega] at hM1
      have hW1 : WF (setS S 2 (4 * i) v) := hW.pl (by omega)
      have g0 : Fr MScr M0 (up M0 55 (309 + 4 * i) (nI v)) := Fr.rfl'.up (by unfold MScr; omega)
      have hK1 := hK.ms g0
      obtain ⟨M1, a1, a2, a3⟩ := worth_heir (hM1.E hK1) (by omega) hW1 hi
      rw [show (288 : Int32) = nI 288 from rfl, a1]
      simp only [Option.bind_some]
      have b := plA_b hW i hv
      have eb := EH_le hW1 i
      obtain ⟨M2, b1, b2⟩ := ih (v + 1) M1 (by omega) (by omega) (hK1.ms a2.md) ⟨v, hM1.mdd a2⟩
      refine ⟨M2, ?_, (g0.trans a2.md).trans b2⟩
      rw [← b1]
      unfold f_X6_place_80 f_X6_place_94
      rw [show (1 : Int32) = nI 1 from rfl, nI_add, ← iI_nI (EH _ _)]
      unfold plA at b ⊢
      by_cases z : (amc (fun v => (EH (setS S 2 (4 * i) v) i : Int)) (fun v => (v : Int)) (0, -1) v).2 < (EH (setS S 2 (4 * i) v) i : Int)
      · rw [if_neg (fun y => by have := (iI_le (by omega) (by omega)).mp y; omega), if_neg (fun y => by have := (iI_le (by omega) (by omega)).mp y; omega), amc_y z, iI_nI v]
      · rw [if_pos ((iI_le (by omega) (by omega)).mpr (by omega)), if_pos ((iI_le (by omega) (by omega)).mpr (by omega)), amc_n z]
theorem st_place : St_place Rel := by
  intro M a c h
  refine st2 h fun S hS => ?_
  obtain ⟨hW, hC, hM⟩ := id hS
  have hS1 := hW.2.1
  by_cases ht : 0 ≤ a.toInt ∧ a.toInt < S 0 1
  · by_cases hc : ((0 : Nat) : Int) ≤ c.toInt ∧ c.toInt ≤ ((1 : Nat) : Int)
    · obtain ⟨i, -, hi2, rfl⟩ := nI_rng (lo := 0) (hi := S 0 1 - 1) (x := a) (by omega)
      obtain ⟨w, -, hw, rfl⟩ := nI_rng hc
      have ht' := ht
      rw [nI_toInt (by omega)] at ht'
      have i4 : i < 4 := by omega
      obtain ⟨M1, a1, a2, a3⟩ := trial hW hC
      obtain ⟨M2, b1, b2, b3⟩ := sailAll_ok a3 (by omega) hW
      obtain ⟨M3, c1, c2⟩ := placeC (w := w) hW i4 (by omega) FU 0 M2 (by omega) (FU_gt (by omega)) ⟨S 2 (4 * i), by rw [setS_id]; exact a3.cd (by omega) b2⟩ b3
      refine ⟨if w = 0 then iI (plA S i 10).1 else iI (plA S i 10).2, M3, ?_, (a2.trans b2.cd).trans c2, fun M' hf hR hS' => ?_⟩
      · unfold f_X5_place
        rw [isHeirC hC hS1]
        simp only [within_lit _ 0 1 (by omega) (by omega), Option.bind_some, ite_b2, if_pos ht, if_pos hc]
        rw [a1]
        simp only [Option.bind_some]
        rw [b1]
        exact c1
      · obtain ⟨d1, d2, d3⟩ := tried hW hS'.2.2
        obtain ⟨M4, e1, e2⟩ := placeM (w := w) hW i4 (by omega) FU 0 _ (by omega) (FU_gt (by omega)) (hR.konst.ms d2) ⟨S 2 (4 * i), by rw [setS_id]; exact d3⟩
        refine ⟨M4, ?_, d2.trans e2⟩
        unfold f_X6_place
        rw [isHeirM hS'.2.2 hS1]
        simp only [in_lit _ 0 1 (by omega) (by omega), Option.bind_some, ite_b2, if_pos ht, if_pos hc]
        rw [d1]
        exact e1
    · exact Sim.bad (b := -1) (by unfold f_X5_place; rw [isHeirC hC hS1]; simp only [within_lit _ 0 1 (by omega) (by omega), Option.bind_some, ite_b2, if_pos ht, if_neg hc]) (fun M' hS' => by unfold f_X6_place; rw [isHeirM hS'.2.2 hS1]; simp only [in_lit _ 0 1 (by omega) (by omega), Option.bind_some, ite_b2, if_pos ht, if_neg hc])
  · exact Sim.bad (b := -1) (by unfold f_X5_place; rw [isHeirC hC hS1]; simp only [Option.bind_some, ite_b2, if_neg ht]) (fun M' hS' => by unfold f_X6_place; rw [isHeirM hS'.2.2 hS1]; simp only [Option.bind_some, ite_b2, if_neg ht])
/-! hook -/
def hoB (S : Sv) (i v k : Nat) : Bool := decide (v ≤ EH (setS S 2 (4 * i + 3) k) i)
theorem tb23 : tbV 2 3 = nI 9 := rfl
theorem hookC {S : Sv} {i v : Nat} (hW : WF S) (hi : i < 4) (hv : v ≤ 400) : ∀ f k M0, k ≤ 10 → 10 - k < f → (∃ u, RepC M0 14 (setS S 2 (4 * i + 3) u)) → (∀ t, t < S 0 0 → SlC M0 t (sailS S t 24)) → ∃ M1, f_X5_hook_48 (nI i) (nI v) f (nI k) M0 = some (iI (ff (hoB S i v) (10 - k) k), M1) ∧ Fr CScr M0 M1 := by
  intro f
  induction f with
  | zero => intro h _ _ q; omega
  | succ f ih =>
    intro k M0 hk hf hC hs
    obtain ⟨u, hC⟩ := hC
    unfold f_X5_hook_48
    rw [rd_lit 3 (by omega) (by omega), tb23]
    by_cases q : k = 10
    · subst q
      rw [if_pos (by decide)]
      exact ⟨M0, rfl, Fr.rfl'⟩
    · rw [if_neg (fun z => absurd ((nI_ltN (by omega) (by omega)).mp z) (by omega)), putHeirC3 hi]
      simp only [Option.bind_some]
      have hC1 := hC.heirU (4 * i + 3) k
      rw [setS_setS] at hC1
      have hW1 : WF (setS S 2 (4 * i + 3) k) := hW.hk (by omega)
      have g0 : Fr CScr M0 (up M0 (14 + 2) (4 * i + 3) (nI k)) := Fr.rfl'.up (by unfold CScr; omega)
      obtain ⟨M1, a1, a2, a3⟩ := meetAll_ok hC1 (by omega) hW1 (fun t ht => by
        rw [setS_0 (by omega)] at ht
        rw [sail_heir]
        obtain ⟨p1, p2, p3, p4⟩ := hs t ht
        exact ⟨by rw [up_cell (by omega), p1], by rw [up_cell (by omega), p2], by rw [up_cell (by omega), p3], by rw [up_cell (by omega), p4]⟩)
      have aCD := a2.mono (fun _ _ => CM_CD)
      rw [a1]
      simp only [Option.bind_some]
      rw [estHeirC (hC1.cd (by omega) aCD) hW1 a3 hi]
      simp only [Option.bind_some]
      have eb := EH_le hW1 i
      have hs1 : ∀ t, t < S 0 0 → SlC M1 t (sailS S t 24) := by
        intro t ht
        have := (a3 t (by rw [setS_0 (by omega)]; exact ht)).1
        rw [sail_heir] at this
        exact this
      rw [show 10 - k = (10 - (k + 1)) + 1 by omega]
      unfold ff
      by_cases z : v ≤ EH (setS S 2 (4 * i + 3) k) i
      · rw [if_neg (fun y => by have := (nI_ltN (by omega) (by omega)).mp y; omega), if_pos (by unfold hoB; exact decide_eq_true z), iI_nI]
        exact ⟨M1, rfl, g0.trans aCD.cd⟩
      · rw [if_pos ((nI_ltN (by omega) (by omega)).mpr (by omega)), if_neg (by unfold hoB; simpa using z), show (1 : Int32) = nI 1 from rfl, nI_add]
        obtain ⟨M2, b1, b2⟩ := ih (k + 1) M1 (by omega) (by omega) ⟨k, hC1.cd (by omega) aCD⟩ hs1
        exact ⟨M2, b1, (g0.trans aCD.cd).trans b2⟩
theorem hookM {S : Sv} {i v : Nat} (hW : WF S) (hi : i < 4) (hv : v ≤ 400) : ∀ f k M0, k ≤ 10 → 10 - k < f → RConst M0 → (∃ u, RepM M0 288 (setS S 2 (4 * i + 3) u)) → ∃ M1, f_X6_hook_32 (nI i) (nI v) f (nI k) M0 = some (iI (ff (hoB S i v) (10 - k) k), M1) ∧ Fr MScr M0 M1 := by
  intro f
  induction f with
  | zero => intro h _ _ q; omega
  | succ f ih =>
    intro k M0 hk hf hK hM
    obtain ⟨u, hM⟩ := hM
    unfold f_X6_hook_32
    by_cases q : k = 10
    · subst q
      rw [if_pos (by decide)]
      exact ⟨M0, rfl, Fr.rfl'⟩
    · rw [if_neg (fun z => absurd ((lit_lt 9 (by omega) (by omega)).mp z) (by omega)), show (309 : Int32) = nI 309 from rfl, show (4 : Int32) = nI 4 from rfl, show (3 : Int32) = nI 3 from rfl, nI_mulN, nI_add, nI_add, inb_ok (by omega) (by omega), nI_clamp (by omega)]
      simp only [lm]
      have hM1 := hM.heirU (by rw [setS_0 (by omega)]; exact hW.1) (by rw [setS_0 (by omega)]; exact hW.2.1) (j := 4 * i + 3) (by omega) k
      rw [setS_setS, show 288 + 21 + (4 * i + 3) = 309 + 4 * i + 3 by omega] at hM1
      have hW1 : WF (setS S 2 (4 * i + 3) k) := hW.hk (by omega)
      have g0 : Fr MScr M0 (up M0 55 (309 + 4 * i + 3) (nI k)) := Fr.rfl'.up (by unfold MScr; omega)
      have hK1 := hK.ms g0
      obtain ⟨M1, a1, a2, a3⟩ := worth_heir (hM1.E hK1) (by omega) hW1 hi
      rw [show (288 : Int32) = nI 288 from rfl, a1]
      simp only [Option.bind_some]
      have eb := EH_le hW1 i
      rw [show 10 - k = (10 - (k + 1)) + 1 by omega]
      unfold ff
      by_cases z : v ≤ EH (setS S 2 (4 * i + 3) k) i
      · rw [if_neg (fun y => by have := (nI_ltN (by omega) (by omega)).mp y; omega), if_pos (by unfold hoB; exact decide_eq_true z), iI_nI]
        exact ⟨M1, rfl, g0.trans a2.md⟩
      · rw [if_pos ((nI_ltN (by omega) (by omega)).mpr (by omega)), if_neg (by unfold hoB; simpa using z), show (1 : Int32) = nI 1 from rfl, nI_add]
        obtain ⟨M2, b1, b2⟩ := ih (k + 1) M1 (by omega) (by omega) (hK1.ms a2.md) ⟨k, hM1.mdd a2⟩
        exact ⟨M2, b1, (g0.trans a2.md).trans b2⟩
theorem st_hook : St_hook Rel := by
  intro M a c h
  refine st2 h fun S hS => ?_
  obtain ⟨hW, hC, hM⟩ := id hS
  have hS1 := hW.2.1
  by_cases ht : 0 ≤ a.toInt ∧ a.toInt < S 0 1
  · by_cases hc : ((1 : Nat) : Int) ≤ c.toInt ∧ c.toInt ≤ ((400 : Nat) : Int)
    · obtain ⟨i, -, hi2, rfl⟩ := nI_rng (lo := 0) (hi := S 0 1 - 1) (x := a) (by omega)
      obtain ⟨v, -, hv, rfl⟩ := nI_rng hc
      have ht' := ht
      rw [nI_toInt (by omega)] at ht'
      have i4 : i < 4 := by omega
      obtain ⟨M1, a1, a2, a3⟩ := trial hW hC
      obtain ⟨M2, b1, b2, b3⟩ := sailAll_ok a3 (by omega) hW
      obtain ⟨M3, c1, c2⟩ := hookC (v := v) hW i4 (by omega) FU 0 M2 (by omega) (FU_gt (by omega)) ⟨S 2 (4 * i + 3), by rw [setS_id]; exact a3.cd (by omega) b2⟩ b3
      refine ⟨iI (ff (hoB S i v) (10 - 0) 0), M3, ?_, (a2.trans b2.cd).trans c2, fun M' hf hR hS' => ?_⟩
      · unfold f_X5_hook
        rw [isHeirC hC hS1]
        simp only [within_lit _ 1 400 (by omega) (by omega), Option.bind_some, ite_b2, if_pos ht, if_pos hc]
        rw [a1]
        simp only [Option.bind_some]
        rw [b1]
        exact c1
      · obtain ⟨d1, d2, d3⟩ := tried hW hS'.2.2
        obtain ⟨M4, e1, e2⟩ := hookM (v := v) hW i4 (by omega) FU 0 _ (by omega) (FU_gt (by omega)) (hR.konst.ms d2) ⟨S 2 (4 * i + 3), by rw [setS_id]; exact d3⟩
        refine ⟨M4, ?_, d2.trans e2⟩
        unfold f_X6_hook
        rw [isHeirM hS'.2.2 hS1]
        simp only [in_lit _ 1 400 (by omega) (by omega), Option.bind_some, ite_b2, if_pos ht, if_pos hc]
        rw [d1]
        exact e1
    · exact Sim.bad (b := -1) (by unfold f_X5_hook; rw [isHeirC hC hS1]; simp only [within_lit _ 1 400 (by omega) (by omega), Option.bind_some, ite_b2, if_pos ht, if_neg hc]) (fun M' hS' => by unfold f_X6_hook; rw [isHeirM hS'.2.2 hS1]; simp only [in_lit _ 1 400 (by omega) (by omega), Option.bind_some, ite_b2, if_pos ht, if_neg hc])
  · exact Sim.bad (b := -1) (by unfold f_X5_hook; rw [isHeirC hC hS1]; simp only [Option.bind_some, ite_b2, if_neg ht]) (fun M' hS' => by unfold f_X6_hook; rw [isHeirM hS'.2.2 hS1]; simp only [Option.bind_some, ite_b2, if_neg ht])
/-! moon -/
def moA (S : Sv) : Nat → Int × Int := amc (fun v => (EA (setS S 0 2 v) : Int)) (fun v => (v : Int)) (0, -1)
theorem moA_b {S : Sv} (hW : WF S) {n : Nat} (hn : n ≤ 6) : (-1 ≤ (moA S n).2 ∧ (moA S n).2 ≤ 396) ∧ -4 ≤ (moA S n).1 ∧ (moA S n).1 ≤ 1000 :=
  amc_b (by simp only; omega) (by simp only; omega) n (fun v hv => by
    have := EA_le (hW.phase (v := v) (by omega))
    omega) (fun v hv => by omega)
theorem moonC {S : Sv} {w : Nat} (hW : WF S) (hw : w < 2) : ∀ f v M0, v ≤ 6 → 6 - v < f → (∃ u, RepC M0 14 (setS S 0 2 u)) → ∃ M1, f_X5_moon_29 (nI w) f (iI (moA S v).1) (iI (moA S v).2) (nI v) M0 = some (if w = 0 then iI (moA S 6).1 else iI (moA S 6).2, M1) ∧ Fr CScr M0 M1 := by
  intro f
  induction f with
  | zero => intro h _ _ q; omega
  | succ f ih =>
    intro v M0 hv hf hC
    obtain ⟨u, hC⟩ := hC
    unfold f_X5_moon_29
    by_cases q : v = 6
    · subst q
      rw [if_pos (by decide)]
      unfold f_X5_moon_87
      simp only [nI_lit 0 (show w < 2 ^ 31 by omega) (by omega)]
      refine ⟨M0, ?_, Fr.rfl'⟩
      by_cases z : w = 0
      · rw [if_pos z, if_pos z]
      · rw [if_neg z, if_neg z]
    · rw [if_neg (fun z => absurd ((lit_le 6 (by omega) (by omega)).mp z) (by omega))]
      simp only [lm]
      have hC1 := hC.phaseU v
      rw [setS_setS] at hC1
      have hW1 : WF (setS S 0 2 v) := hW.phase (by omega)
      have g0 : Fr CScr M0 (up M0 14 6 (nI v)) := Fr.rfl'.up (by unfold CScr; omega)
      obtain ⟨M1, a1, a2, a3⟩ := run_ok hC1 (by omega) hW1
      rw [a1]
      simp only [Option.bind_some]
      rw [estAnyC (hC1.cd (by omega) a2) hW1 a3]
      simp only [Option.bind_some]
      have b := moA_b hW hv
      have eb := EA_le hW1
      obtain ⟨M2, b1, b2⟩ := ih (v + 1) M1 (by omega) (by omega) ⟨v, hC1.cd (by omega) a2⟩
      refine ⟨M2, ?_, (g0.trans a2.cd).trans b2⟩
      rw [← b1]
      unfold f_X5_moon_81
      rw [show (1 : Int32) = nI 1 from rfl, nI_add, ← iI_nI (EA _)]
      unfold moA at b ⊢
      by_cases z : (amc (fun v => (EA (setS S 0 2 v) : Int)) (fun v => (v : Int)) (0, -1) v).2 < (EA (setS S 0 2 v) : Int)
      · rw [if_neg (fun y => by have := (iI_le (by omega) (by omega)).mp y; omega), amc_y z, iI_nI v]
      · rw [if_pos ((iI_le (by omega) (by omega)).mpr (by omega)), amc_n z]
theorem moonM {S : Sv} {w : Nat} (hW : WF S) (hw : w < 2) : ∀ f v M0, v ≤ 6 → 6 - v < f → RConst M0 → (∃ u, RepM M0 288 (setS S 0 2 u)) → ∃ M1, f_X6_moon_27 (nI w) f (iI (moA S v).2) (iI (moA S v).1) (nI v) M0 = some (if w = 0 then iI (moA S 6).1 else iI (moA S 6).2, M1) ∧ Fr MScr M0 M1 := by
  intro f
  induction f with
  | zero => intro h _ _ q; omega
  | succ f ih =>
    intro v M0 hv hf hK hM
    obtain ⟨u, hM⟩ := hM
    unfold f_X6_moon_27
    by_cases q : v = 6
    · subst q
      rw [if_pos (by decide)]
      unfold f_X6_moon_86
      simp only [nI_lit 0 (show w < 2 ^ 31 by omega) (by omega)]
      refine ⟨M0, ?_, Fr.rfl'⟩
      by_cases z : w = 0
      · rw [if_pos z, if_pos z]
      · rw [if_neg z, if_neg z]
    · rw [if_neg (fun z => absurd ((lit_lt 5 (by omega) (by omega)).mp z) (by omega)), inb_lit 359 (by omega) (by omega), show (359 : Int32) = nI 359 from rfl, nI_clamp (by omega)]
      simp only [lm]
      have hM1 := hM.phaseU (by rw [setS_ne (by omega)]; exact hW.1) (by rw [setS_ne (by omega)]; exact hW.2.1) v
      rw [setS_setS] at hM1
      have hW1 : WF (setS S 0 2 v) := hW.phase (by omega)
      have g0 : Fr MScr M0 (up M0 55 359 (nI v)) := Fr.rfl'.up (by unfold MScr; omega)
      have hK1 := hK.ms g0
      obtain ⟨M1, a1, a2, a3⟩ := worth_any (hM1.E hK1) (by omega) hW1
      rw [show (288 : Int32) = nI 288 from rfl, a1]
      simp only [Option.bind_some]
      have b := moA_b hW hv
      have eb := EA_le hW1
      obtain ⟨M2, b1, b2⟩ := ih (v + 1) M1 (by omega) (by omega) (hK1.ms a2.md) ⟨v, hM1.mdd a2⟩
      refine ⟨M2, ?_, (g0.trans a2.md).trans b2⟩
      rw [← b1]
      unfold f_X6_moon_66 f_X6_moon_79
      rw [show (1 : Int32) = nI 1 from rfl, nI_add, ← iI_nI (EA _)]
      unfold moA at b ⊢
      by_cases z : (amc (fun v => (EA (setS S 0 2 v) : Int)) (fun v => (v : Int)) (0, -1) v).2 < (EA (setS S 0 2 v) : Int)
      · rw [if_neg (fun y => by have := (iI_le (by omega) (by omega)).mp y; omega), if_neg (fun y => by have := (iI_le (by omega) (by omega)).mp y; omega), amc_y z, iI_nI v]
      · rw [if_pos ((iI_le (by omega) (by omega)).mpr (by omega)), if_pos ((iI_le (by omega) (by omega)).mpr (by omega)), amc_n z]
theorem st_moon : St_moon Rel := by
  intro M c h
  refine st2 h fun S hS => ?_
  obtain ⟨hW, hC, hM⟩ := id hS
  by_cases hc : ((0 : Nat) : Int) ≤ c.toInt ∧ c.toInt ≤ ((1 : Nat) : Int)
  · obtain ⟨w, -, hw, rfl⟩ := nI_rng hc
    obtain ⟨M1, a1, a2, a3⟩ := trial hW hC
    obtain ⟨M3, c1, c2⟩ := moonC (w := w) hW (by omega) FU 0 M1 (by omega) (FU_gt (by omega)) ⟨S 0 2, by rw [setS_id]; exact a3⟩
    refine ⟨if w = 0 then iI (moA S 6).1 else iI (moA S 6).2, M3, ?_, a2.trans c2, fun M' hf hR hS' => ?_⟩
    · unfold f_X5_moon
      simp only [within_lit _ 0 1 (by omega) (by omega), Option.bind_some, ite_b2, if_pos hc]
      rw [a1]
      exact c1
    · obtain ⟨d1, d2, d3⟩ := tried hW hS'.2.2
      obtain ⟨M4, e1, e2⟩ := moonM (w := w) hW (by omega) FU 0 _ (by omega) (FU_gt (by omega)) (hR.konst.ms d2) ⟨S 0 2, by rw [setS_id]; exact d3⟩
      refine ⟨M4, ?_, d2.trans e2⟩
      unfold f_X6_moon
      simp only [in_lit _ 0 1 (by omega) (by omega), Option.bind_some, ite_b2, if_pos hc]
      rw [d1]
      exact e1
  · exact Sim.bad (b := -1) (by unfold f_X5_moon; simp only [within_lit _ 0 1 (by omega) (by omega), Option.bind_some, ite_b2, if_neg hc]) (fun M' hS' => by unfold f_X6_moon; simp only [in_lit _ 0 1 (by omega) (by omega), Option.bind_some, ite_b2, if_neg hc])
