/-! the model steps to the next TOKEN -/
def bt (b : Nat → Nat) (n p : Nat) : Int32 := if n ≤ p then -4 else nI (b p)
theorem byteAt_ok {M : Mem} {b : Nat → Nat} {n p : Nat} (hB : TpB b n) (hT : TpM M b n) (hp : p ≤ 160) : f_X6_byteAt (nI p) M = some (bt b n p) := by
  have n160 := hB.1
  unfold f_X6_byteAt bt
  rw [hT.1]
  by_cases q : n ≤ p
  · rw [if_pos ((nI_leN (by omega) (by omega)).mpr q), if_pos q]
  · rw [if_neg (fun z => q ((nI_leN (by omega) (by omega)).mp z)), if_neg q, rd_ok (by omega) (by omega), hT.2 p (by omega)]
theorem bt_in {b : Nat → Nat} {n p : Nat} (hB : TpB b n) (lo hi : Nat) : ((lo : Int) ≤ (bt b n p).toInt ∧ (bt b n p).toInt ≤ (hi : Int)) ↔ p < n ∧ lo ≤ b p ∧ b p ≤ hi := by
  have e4 : (-4 : Int32).toInt = -4 := by decide
  unfold bt
  by_cases q : n ≤ p
  · rw [if_pos q, e4]
    constructor
    · intro h; omega
    · intro h; omega
  · have := hB.2 p (by omega)
    rw [if_neg q, nI_toInt (by omega)]
    omega
theorem bt_eq {b : Nat → Nat} {n p : Nat} (hB : TpB b n) (k : Nat) (hk : k < 128) : bt b n p = nI k ↔ p < n ∧ b p = k := by
  unfold bt
  by_cases q : n ≤ p
  · rw [if_pos q]
    constructor
    · intro h
      rw [show (-4 : Int32) = iI (-4) from rfl, ← iI_nI] at h
      have := (iI_eq (by omega) (by omega)).mp h
      omega
    · intro h; omega
  · have := hB.2 p (by omega)
    rw [if_neg q]
    constructor
    · intro h; exact ⟨by omega, (nI_eq (by omega) (by omega)).mp h⟩
    · intro h; rw [h.2]
theorem fails_ok {M : Mem} {c : Int32} (h : M 54 11 = nI 0) : f_X6_fails c M = some (up (up M 54 11 c) 54 12 (M 54 14)) := by
  unfold f_X6_fails
  rw [h, if_pos (show nI 0 = (0 : Int32) from rfl)]
  simp only [lm]
  rw [up_slot (by omega)]
theorem fails_no {M : Mem} {c : Int32} {k : Nat} (h : M 54 11 = nI k) (h1 : 1 ≤ k) (h5 : k < 6) : f_X6_fails c M = some M := by
  unfold f_X6_fails
  rw [h, if_neg (fun z => absurd ((nI_lit 0 (by omega) (by omega)).mp z) (by omega))]
def MF (M : Mem) (c s : Nat) : Prop := M 54 11 = nI c ∧ M 54 12 = nI s
def MS (M : Mem) (b : Nat → Nat) (n p : Nat) : Prop := (tK b n p = 4 → MF M 1 (tS b n p)) ∧ (tK b n p ≠ 4 → M 54 11 = nI 0 ∧ M 54 13 = nI (tE b n p) ∧ M 54 14 = nI (tS b n p) ∧ M 54 15 = nI (tK b n p) ∧ (tK b n p = 2 → M 54 16 = nI (tV b n p)))
def StF (c j : Nat) : Prop := c = 54 ∧ 11 ≤ j ∧ j ≤ 16
theorem rnB_s {k : Nat} {b : Nat → Nat} {n s : Nat} (hs : s < n) (hk : kn (b s) = k) : rnB k b (n - s) s = rnB k b (n - (s + 1)) (s + 1) := by
  rw [show n - s = (n - (s + 1)) + 1 by omega]
  conv => lhs; unfold rnB
  rw [if_pos hk]
theorem skipM' {b : Nat → Nat} {n : Nat} (hB : TpB b n) : ∀ d f p M0, p + d = n → d < f → TpM M0 b n → M0 54 13 = nI p → ∃ M1, f_X6_step_8 f M0 = f_X6_step_34 M1 ∧ Fr (fun c j => c = 54 ∧ j = 13) M0 M1 ∧ M1 54 13 = nI (skB b d p) := by
  have n160 := hB.1
  intro d
  induction d with
  | zero =>
    intro f p M0 hp hf hT h2
    obtain ⟨f, rfl⟩ : ∃ q, f = q + 1 := ⟨f - 1, by omega⟩
    unfold f_X6_step_8
    rw [h2, byteAt_ok hB hT (by omega)]
    simp only [Option.bind_some]
    rw [if_neg (fun z => by have := (bt_eq hB 32 (by omega)).mp z; omega)]
    exact ⟨M0, rfl, Fr.rfl', h2⟩
  | succ d ih =>
    intro f p M0 hp hf hT h2
    obtain ⟨f, rfl⟩ : ∃ q, f = q + 1 := ⟨f - 1, by omega⟩
    unfold f_X6_step_8 skB
    rw [h2, byteAt_ok hB hT (by omega)]
    simp only [Option.bind_some]
    by_cases q : b p = 32
    · rw [if_pos (show bt b n p = 32 from (bt_eq hB 32 (by omega)).mpr ⟨by omega, q⟩), if_pos q]
      simp only [lm]
      rw [show nI p + (1 : Int32) = nI (p + 1) by rw [show (1 : Int32) = nI 1 from rfl, nI_add]]
      have g0 : Fr (fun c j => c = 54 ∧ j = 13) M0 (up M0 54 13 (nI (p + 1))) := Fr.rfl'.up (by omega)
      obtain ⟨M1, a1, a2, a3⟩ := ih f (p + 1) _ (by omega) (by omega) (hT.fr g0 (by omega) (fun j => by omega)) (up_same _ _ _ _)
      exact ⟨M1, a1, g0.trans a2, a3⟩
    · rw [if_neg (show ¬ (bt b n p = 32) from fun z => q ((bt_eq hB 32 (by omega)).mp z).2), if_neg q]
      exact ⟨M0, rfl, Fr.rfl', h2⟩
theorem names84 {b : Nat → Nat} {n : Nat} (hB : TpB b n) : ∀ d f p M0, p + d = n → d < f → TpM M0 b n → M0 54 13 = nI p → ∃ M1, f_X6_step_84 f M0 = some M1 ∧ Fr (fun c j => c = 54 ∧ (j = 13 ∨ j = 15)) M0 M1 ∧ M1 54 13 = nI (rnB 1 b d p) ∧ M1 54 15 = nI 1 := by
  have n160 := hB.1
  intro d
  induction d with
  | zero =>
    intro f p M0 hp hf hT h2
    obtain ⟨f, rfl⟩ : ∃ q, f = q + 1 := ⟨f - 1, by omega⟩
    unfold f_X6_step_84 f_X6_step_118
    rw [h2, byteAt_ok hB hT (by omega)]
    simp only [Option.bind_some]
    rw [in_lit _ 97 122 (by omega) (by omega)]
    simp only [Option.bind_some, ite_b2, lm]
    rw [if_neg (fun z => by have := (bt_in hB 97 122).mp z; omega)]
    exact ⟨_, rfl, Fr.rfl'.up (by omega), by rw [up_slot (by omega)]; exact h2, up_same _ _ _ _⟩
  | succ d ih =>
    intro f p M0 hp hf hT h2
    obtain ⟨f, rfl⟩ : ∃ q, f = q + 1 := ⟨f - 1, by omega⟩
    unfold f_X6_step_84 f_X6_step_118 rnB
    rw [h2, byteAt_ok hB hT (by omega)]
    simp only [Option.bind_some]
    rw [in_lit _ 97 122 (by omega) (by omega)]
    simp only [Option.bind_some, ite_b2, lm]
    by_cases q : kn (b p) = 1
    · have q1 := kn1.mp q
      rw [if_pos ((bt_in hB 97 122).mpr ⟨by omega, q1⟩), if_pos q]
      rw [show nI p + (1 : Int32) = nI (p + 1) by rw [show (1 : Int32) = nI 1 from rfl, nI_add]]
      have g0 : Fr (fun c j => c = 54 ∧ (j = 13 ∨ j = 15)) M0 (up M0 54 13 (nI (p + 1))) := Fr.rfl'.up (by omega)
      obtain ⟨M1, a1, a2, a3⟩ := ih f (p + 1) _ (by omega) (by omega) (hT.fr g0 (by omega) (fun j => by omega)) (up_same _ _ _ _)
      exact ⟨M1, a1, g0.trans a2, a3⟩
    · rw [if_neg (fun z => q (kn1.mpr ((bt_in hB 97 122).mp z).2)), if_neg q]
      exact ⟨_, rfl, Fr.rfl'.up (by omega), by rw [up_slot (by omega)]; exact h2, up_same _ _ _ _⟩
def NuF (c j : Nat) : Prop := c = 54 ∧ (11 ≤ j ∧ j ≤ 13 ∨ j = 15 ∨ j = 16)
theorem nums140 {b : Nat → Nat} {n s : Nat} (hB : TpB b n) : ∀ d f p M0, p + d = n → s ≤ p → d < f → TpM M0 b n → M0 54 11 = nI 0 → M0 54 13 = nI p → M0 54 14 = nI s → M0 54 16 = nI (vlB b s (min (p - s) 2)) → ∃ M1, f_X6_step_140 f M0 = some M1 ∧ Fr NuF M0 M1 ∧ (2 < rnB 2 b d p - s → MF M1 1 s) ∧ (rnB 2 b d p - s ≤ 2 → M1 54 11 = nI 0 ∧ M1 54 13 = nI (rnB 2 b d p) ∧ M1 54 15 = nI 2 ∧ M1 54 16 = nI (vlB b s (rnB 2 b d p - s))) := by
  have n160 := hB.1
  have last : ∀ (p : Nat) (M0 : Mem), s ≤ p → p ≤ n → M0 54 11 = nI 0 → M0 54 13 = nI p → M0 54 14 = nI s → M0 54 16 = nI (vlB b s (min (p - s) 2)) → ∃ M1, f_X6_step_217 M0 = some M1 ∧ Fr NuF M0 M1 ∧ (2 < p - s → MF M1 1 s) ∧ (p - s ≤ 2 → M1 54 11 = nI 0 ∧ M1 54 13 = nI p ∧ M1 54 15 = nI 2 ∧ M1 54 16 = nI (vlB b s (p - s))) := by
    intro p M0 hsp hpn h11 h13 h14 h16
    unfold f_X6_step_217
    simp only [lm]
    rw [up_slot (by omega), up_slot (by omega), h13, h14, nI_subN hsp]
    by_cases q : p - s ≤ 2
    · rw [if_pos ((le_lit 2 (by omega) (by omega)).mpr q)]
      refine ⟨_, rfl, Fr.rfl'.up (by unfold NuF; omega), fun z => by omega, fun _ => ⟨by rw [up_slot (by omega), h11], by rw [up_slot (by omega), h13], up_same _ _ _ _, by rw [up_slot (by omega), h16, show min (p - s) 2 = p - s by omega]⟩⟩
    · rw [if_neg (fun z => q ((le_lit 2 (by omega) (by omega)).mp z)), fails_ok (by rw [up_slot (by omega), h11])]
      simp only [Option.bind_some]
      refine ⟨_, rfl, ((Fr.rfl'.up (by unfold NuF; omega)).up (by unfold NuF; omega)).up (by unfold NuF; omega), fun _ => ⟨by rw [up_slot (by omega), up_same]; rfl, by rw [up_same, up_slot (by omega), h14]⟩, fun z => by omega⟩
  intro d
  induction d with
  | zero =>
    intro f p M0 hp hsp hf hT h11 h13 h14 h16
    obtain ⟨f, rfl⟩ : ∃ q, f = q + 1 := ⟨f - 1, by omega⟩
    unfold f_X6_step_140
    rw [h13, byteAt_ok hB hT (by omega)]
    simp only [Option.bind_some]
    rw [in_lit _ 48 57 (by omega) (by omega)]
    simp only [Option.bind_some, ite_b2]
    rw [if_neg (fun z => by have := (bt_in hB 48 57).mp z; omega)]
    exact last p M0 hsp (by omega) h11 h13 h14 h16
  | succ d ih =>
    intro f p M0 hp hsp hf hT h11 h13 h14 h16
    obtain ⟨f, rfl⟩ : ∃ q, f = q + 1 := ⟨f - 1, by omega⟩
    unfold f_X6_step_140 rnB
    rw [h13, byteAt_ok hB hT (by omega)]
    simp only [Option.bind_some]
    rw [in_lit _ 48 57 (by omega) (by omega)]
    simp only [Option.bind_some, ite_b2]
    by_cases q : kn (b p) = 2
    · have q1 := kn2.mp q
      rw [if_pos ((bt_in hB 48 57).mpr ⟨by omega, q1⟩), h14, h16, nI_subN hsp]
      simp only [if_pos q]
      have go : ∀ v, v = nI (vlB b s (min (p + 1 - s) 2)) → ∃ M1, f_X6_step_201 (f_X6_step_140 f) v M0 = some M1 ∧ Fr NuF M0 M1 ∧ (2 < rnB 2 b d (p + 1) - s → MF M1 1 s) ∧ (rnB 2 b d (p + 1) - s ≤ 2 → M1 54 11 = nI 0 ∧ M1 54 13 = nI (rnB 2 b d (p + 1)) ∧ M1 54 15 = nI 2 ∧ M1 54 16 = nI (vlB b s (rnB 2 b d (p + 1) - s))) := by
        intro v hv
        unfold f_X6_step_201
        simp only [lm]
        rw [up_slot (show (13 : Nat) ≠ 16 by omega), h13, show nI p + (1 : Int32) = nI (p + 1) by rw [show (1 : Int32) = nI 1 from rfl, nI_add]]
        have g0 : Fr NuF M0 (up (up M0 54 16 v) 54 13 (nI (p + 1))) := (Fr.rfl'.up (by unfold NuF; omega)).up (by unfold NuF; omega)
        obtain ⟨M1, a1, a2, a3⟩ := ih f (p + 1) _ (by omega) (by omega) (by omega) (hT.fr g0 (by unfold NuF; omega) (fun j => by unfold NuF; omega)) (by rw [up_slot (by omega), up_slot (by omega), h11]) (up_same _ _ _ _) (by rw [up_slot (by omega), up_slot (by omega), h14]) (by rw [up_slot (by omega), up_same, hv])
        exact ⟨M1, a1, g0.trans a2, a3⟩
      by_cases z : 2 ≤ p - s
      · rw [if_pos ((lit_le 2 (by omega) (by omega)).mpr z)]
        exact go _ (by rw [show min (p - s) 2 = 2 by omega, show min (p + 1 - s) 2 = 2 by omega])
      · rw [if_neg (fun y => z ((lit_le 2 (by omega) (by omega)).mp y))]
        have eb : bt b n p = nI (b p) := by unfold bt; rw [if_neg (by omega)]
        rw [eb, vl_step q1.1]
        exact go _ (by
          rw [show min (p - s) 2 = p - s by omega, show min (p + 1 - s) 2 = (p - s) + 1 by omega]
          show nI (10 * vlB b s (p - s) + (b p - 48)) = nI (10 * vlB b s (p - s) + (b (s + (p - s)) - 48))
          rw [show s + (p - s) = p by omega])
    · rw [if_neg (fun z => q (kn2.mpr ((bt_in hB 48 57).mp z).2)), if_neg q]
      exact last p M0 hsp (by omega) h11 h13 h14 h16
theorem stepM {M : Mem} {b : Nat → Nat} {n p : Nat} (hB : TpB b n) (hT : TpM M b n) (hp : p ≤ n) (h11 : M 54 11 = nI 0) (h13 : M 54 13 = nI p) : ∃ M1, f_X6_step M = some M1 ∧ Fr StF M M1 ∧ MS M1 b n p := by
  have n160 := hB.1
  obtain ⟨M1, a1, a2, a3⟩ := skipM' hB (n - p) FU p M (by omega) (FU_gt (by omega)) hT h13
  have sb := tS_b (b := b) hp
  have eb := tE_b (b := b) hp
  unfold f_X6_step
  rw [h11, if_pos (show nI 0 ≤ (0 : Int32) from (nI_leN (b := 0) (by omega) (by omega)).mpr (by omega)), a1]
  rw [show skB b (n - p) p = tS b n p from rfl] at a3
  have b11 : M1 54 11 = nI 0 := by rw [a2 54 11 (by omega), h11]
  have hT1 := hT.fr a2 (by omega) (fun j => by omega)
  have a2' : Fr StF M M1 := a2.mono (fun c j x => by unfold StF; omega)
  unfold f_X6_step_34
  simp only [lm]
  generalize hs : tS b n p = s at *
  rw [a3, show (up M1 54 14 (nI s)) 54 13 = nI s by rw [up_slot (by omega), a3]]
  have g0 : Fr StF M1 (up M1 54 14 (nI s)) := Fr.rfl'.up (by unfold StF; omega)
  have hT2 := hT1.fr g0 (by unfold StF; omega) (fun j => by unfold StF; omega)
  rw [byteAt_ok hB hT2 (by omega)]
  simp only [Option.bind_some]
  have k0 : Fr StF M (up (up M1 54 14 (nI s)) 54 16 0) := (a2'.trans g0).up (by unfold StF; omega)
  have k11 : (up (up M1 54 14 (nI s)) 54 16 0) 54 11 = nI 0 := by rw [up_slot (by omega), up_slot (by omega), b11]
  have k13 : (up (up M1 54 14 (nI s)) 54 16 0) 54 13 = nI s := by rw [up_slot (by omega), up_slot (by omega), a3]
  have k14 : (up (up M1 54 14 (nI s)) 54 16 0) 54 14 = nI s := by rw [up_slot (by omega), up_same]
  have k16 : (up (up M1 54 14 (nI s)) 54 16 0) 54 16 = nI 0 := up_same _ _ _ _
  have hT3 : TpM (up (up M1 54 14 (nI s)) 54 16 0) b n := hT.fr k0 (by unfold StF; omega) (fun j => by unfold StF; omega)
  generalize up (up M1 54 14 (nI s)) 54 16 0 = M2 at *
  by_cases q : n ≤ s
  · have eE : tE b n p = s := by unfold tE; rw [hs, if_pos q]
    have eK : tK b n p = 0 := tK_0.mpr (by rw [hs]; exact q)
    rw [if_pos (show bt b n s = -4 by unfold bt; rw [if_pos q])]
    refine ⟨_, rfl, k0.up (by unfold StF; omega), fun z => by omega, fun _ => ⟨by rw [up_slot (by omega), k11], by rw [up_slot (by omega), k13, eE], by rw [up_slot (by omega), k14, hs], by rw [up_same, eK]; rfl, fun z => by omega⟩⟩
  · have hsn : s < n := by omega
    have hb := hB.2 s hsn
    have hkn := kn_b (b s)
    have ebt : bt b n s = nI (b s) := by unfold bt; rw [if_neg q]
    have ne4 : ¬ (bt b n s = -4) := by
      rw [ebt, show (-4 : Int32) = iI (-4) from rfl, ← iI_nI]
      exact fun z => by have := (iI_eq (by omega) (by omega)).mp z; omega
    rw [if_neg ne4, in_lit _ 97 122 (by omega) (by omega), in_lit _ 48 57 (by omega) (by omega)]
    simp only [Option.bind_some, ite_b2]
    by_cases z1 : kn (b s) = 1
    · have eE : tE b n p = rnB 1 b (n - (s + 1)) (s + 1) := by unfold tE; rw [hs, if_neg q, if_pos (by omega), z1]
      have eK : tK b n p = 1 := by unfold tK; rw [hs, if_neg q, if_neg (by omega), z1]
      rw [if_pos ((bt_in hB 97 122).mpr ⟨hsn, kn1.mp z1⟩)]
      obtain ⟨M3, c1, c2, c3, c4⟩ := names84 hB (n - s) FU s M2 (by omega) (FU_gt (by omega)) hT3 k13
      rw [rnB_s hsn z1, ← eE] at c3
      exact ⟨M3, c1, k0.trans (c2.mono (fun c j x => by unfold StF; omega)), fun z => by omega, fun _ => ⟨by rw [c2 54 11 (by omega), k11], c3, by rw [c2 54 14 (by omega), k14, hs], by rw [c4, eK], fun z => by omega⟩⟩
    · rw [if_neg (fun x => z1 (kn1.mpr ((bt_in hB 97 122).mp x).2))]
      by_cases z2 : kn (b s) = 2
      · have eE : tE b n p = rnB 2 b (n - (s + 1)) (s + 1) := by unfold tE; rw [hs, if_neg q, if_pos (by omega), z2]
        rw [if_pos ((bt_in hB 48 57).mpr ⟨hsn, kn2.mp z2⟩)]
        obtain ⟨M3, c1, c2, c3, c4⟩ := nums140 (s := s) hB (n - s) FU s M2 (by omega) (Nat.le_refl _) (FU_gt (by omega)) hT3 k11 k13 k14 (by rw [k16, Nat.sub_self]; rfl)
        rw [rnB_s hsn z2, ← eE] at c3 c4
        refine ⟨M3, c1, k0.trans (c2.mono (fun c j x => by unfold NuF at x; unfold StF; omega)), fun z => ?_, fun z => ?_⟩
        · rw [hs]
          refine c3 ?_
          apply Classical.byContradiction
          intro y
          have : tK b n p = 2 := by unfold tK; rw [hs, if_neg q, if_neg (by omega), z2]
          omega
        · have y : tE b n p - s ≤ 2 := by
            apply Classical.byContradiction
            intro y
            exact z (by unfold tK; rw [hs, if_neg q, if_pos (by omega)])
          have eK : tK b n p = 2 := by unfold tK; rw [hs, if_neg q, if_neg (by omega), z2]
          obtain ⟨d1, d2, d3, d4⟩ := c4 y
          exact ⟨d1, d2, by rw [c2 54 14 (by unfold NuF; omega), k14, hs], by rw [d3, eK], fun _ => by rw [d4]; unfold tV; rw [hs]⟩
      · have eE : tE b n p = s + 1 := by unfold tE; rw [hs, if_neg q, if_neg (by omega)]
        have eK : tK b n p = kn (b s) := by unfold tK; rw [hs, if_neg q, if_neg (by omega)]
        rw [if_neg (fun x => z2 (kn2.mpr ((bt_in hB 48 57).mp x).2)), up_slot (show (13 : Nat) ≠ 15 by omega), k13, show nI s + (1 : Int32) = nI (s + 1) by rw [show (1 : Int32) = nI 1 from rfl, nI_add]]
        have f0 : Fr StF M (up (up M2 54 15 3) 54 13 (nI (s + 1))) := (k0.up (by unfold StF; omega)).up (by unfold StF; omega)
        by_cases z3 : kn (b s) = 3
        · rw [if_pos (show bt b n s = 59 from (bt_eq hB 59 (by omega)).mpr ⟨hsn, kn3.mp z3⟩)]
          refine ⟨_, rfl, f0, fun z => by omega, fun _ => ⟨by rw [up_slot (by omega), up_slot (by omega), k11], by rw [up_same, eE], by rw [up_slot (by omega), up_slot (by omega), k14, hs], by rw [up_slot (by omega), up_same, eK, z3]; rfl, fun z => by omega⟩⟩
        · rw [if_neg (show ¬ (bt b n s = 59) from fun x => z3 (kn3.mpr ((bt_eq hB 59 (by omega)).mp x).2)), fails_ok (by rw [up_slot (by omega), up_slot (by omega), k11])]
          simp only [Option.bind_some]
          refine ⟨_, rfl, (f0.up (by unfold StF; omega)).up (by unfold StF; omega), fun _ => ⟨by rw [up_slot (by omega), up_same]; rfl, by rw [up_same, up_slot (by omega), up_slot (by omega), k14, hs]⟩, fun z => by omega⟩
theorem stepM_no {M : Mem} {k : Nat} (h : M 54 11 = nI k) (h1 : 1 ≤ k) (h5 : k < 6) : f_X6_step M = some M := by
  unfold f_X6_step
  rw [h, if_neg (fun z => absurd ((le_lit 0 (by omega) (by omega)).mp z) (by omega))]
