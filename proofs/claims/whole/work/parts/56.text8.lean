/-! a line, both sides -/
theorem sgS_s {b : Nat → Nat} {n q : Nat} {st : PSt} (h : StOK n st) (hq : posGe q st) : StOK n (sgS b n st) ∧ posGe q (sgS b n st) := by
  cases st with
  | inr e => exact ⟨h, trivial⟩
  | inl p =>
    have hp : p ≤ n := h
    have hq' : q ≤ p := hq
    have sb := tS_b (b := b) hp
    have eb := tE_b (b := b) hp
    unfold sgS
    by_cases h3 : tK b n p = 3
    · simp only [if_pos h3]
      exact ⟨eb.2.1, show q ≤ tE b n p by omega⟩
    · simp only [if_neg h3]
      refine ⟨⟨?_, ?_, ?_⟩, trivial⟩
      · simp only; split <;> omega
      · simp only; split <;> omega
      · simp only; omega
theorem semiM {M : Mem} {b : Nat → Nat} {n : Nat} {st : PSt} (hB : TpB b n) (hT : TpM M b n) (hst : StOK n st) (hS : MP M b n st) : ∃ M1, (if (M 54 11) = 0 then if (M 54 15) = 3 then f_X6_readLine_134 M else (f_X6_fails 2 M).bind fun r8 => f_X6_readLine_134 r8 else f_X6_readLine_134 M) = some M1 ∧ Fr StF M M1 ∧ MP M1 b n (sgS b n st) := by
  have n160 := hB.1
  unfold f_X6_readLine_134
  cases st with
  | inr e =>
    obtain ⟨c1, c5, cs⟩ := hst
    have ne : ¬ (M 54 11 = (0 : Int32)) := by
      rw [hS.1]
      exact fun z => absurd ((nI_lit 0 (by omega) (by omega)).mp z) (by omega)
    rw [if_neg ne, stepM_no hS.1 c1 (by omega)]
    exact ⟨M, rfl, Fr.rfl', hS⟩
  | inl q =>
    have hq : q ≤ n := hst
    have eb := tE_b (b := b) hq
    have kl := tK_le (b := b) (n := n) (p := q)
    obtain ⟨m1, m2⟩ := hS
    unfold sgS
    by_cases h4 : tK b n q = 4
    · obtain ⟨f1, f2⟩ := m1 h4
      have ne : ¬ (M 54 11 = (0 : Int32)) := by
        rw [f1]
        decide
      rw [if_neg ne, stepM_no f1 (by omega) (by omega)]
      simp only [if_neg (show ¬ tK b n q = 3 by omega), if_pos h4]
      exact ⟨M, rfl, Fr.rfl', f1, f2⟩
    · obtain ⟨e11, e13, e14, e15, -⟩ := m2 h4
      have z11 : M 54 11 = (0 : Int32) := e11
      rw [if_pos z11, e15]
      by_cases h3 : tK b n q = 3
      · rw [if_pos ((nI_lit 3 (by omega) (by omega)).mpr h3)]
        simp only [if_pos h3]
        obtain ⟨M1, a1, a2, a3⟩ := stepM (p := tE b n q) hB hT eb.2.1 e11 e13
        rw [a1]
        exact ⟨M1, rfl, a2, a3⟩
      · rw [if_neg (fun z => h3 ((nI_lit 3 (by omega) (by omega)).mp z)), fails_ok e11]
        simp only [if_neg h3, if_neg h4, Option.bind_some]
        have k11 : (up (up M 54 11 2) 54 12 (M 54 14)) 54 11 = nI 2 := by rw [up_slot (by omega), up_same]; rfl
        rw [stepM_no k11 (by omega) (by omega)]
        refine ⟨_, rfl, (Fr.rfl'.up (by unfold StF; omega)).up (by unfold StF; omega), k11, by rw [up_same, e14]⟩
theorem ck01 {α : Type} {k : Nat} {x : Option α} (h : k ≤ 1) : ck .boolean (nI k) x = x := by
  unfold ck
  have : k = 0 ∨ k = 1 := by omega
  rcases this with rfl | rfl
  · rw [if_pos (show vp_nar .boolean (nI 0) = nI 0 from nar0)]
  · rw [if_pos (show vp_nar .boolean (nI 1) = nI 1 from nar1)]
theorem bad94 {M : Mem} {c s k : Nat} {w : Int32} (h : MF M c s) (h1 : 1 ≤ c) (h6 : c < 6) (hk : k ≤ 1) : f_X6_readLine_94 w (nI k) M = some (up M 54 7 (nI k)) := by
  unfold f_X6_readLine_94
  rw [ck01 hk]
  simp only [lm]
  have e : (up M 54 7 (nI k)) 54 11 = nI c := by rw [up_slot (by omega)]; exact h.1
  rw [stepM_no e h1 h6]
  simp only [Option.bind_some]
  rw [e, if_neg (fun z => absurd ((le_lit 0 (by omega) (by omega)).mp z) (by omega))]
theorem r75 {M : Mem} {w ph : Nat} (hw : w < 8) (hp : ph ≤ 1) (h7 : M 54 7 = nI ph) : f_X6_readLine_75 (nI w) M = f_X6_readLine_94 (nI w) (nI (if w = 7 then 1 else ph)) M := by
  unfold f_X6_readLine_75 f_X6_readLine_89
  rw [h7]
  by_cases q : ph = 0
  · rw [if_pos ((nI_lit 0 (by omega) (by omega)).mpr q)]
    by_cases z : w = 7
    · rw [if_pos ((nI_lit 7 (by omega) (by omega)).mpr z), if_pos z]; rfl
    · rw [if_neg (fun y => z ((nI_lit 7 (by omega) (by omega)).mp y)), if_neg z, q]; rfl
  · rw [if_neg (fun y => q ((nI_lit 0 (by omega) (by omega)).mp y)), show (if w = 7 then 1 else ph) = 1 by split <;> omega]; rfl
theorem PMi.st {M M1 : Mem} {I : PI} (h : PMi M I) (hf : Fr StF M M1) : PMi M1 I := by
  obtain ⟨a, b, c, d⟩ := h
  exact ⟨a.st hf, by rw [hf _ _ (by unfold StF; omega), b], by rw [hf _ _ (by unfold StF; omega), c], by rw [hf _ _ (by unfold StF; omega), d]⟩
theorem go94 {M : Mem} {b : Nat → Nat} {n p w k : Nat} {T : Sv} {rm hm ph : Nat} {st : PSt} {I' : PI} (hB : TpB b n) (hT : TpM M b n) (hp : p ≤ n) (hk1 : tK b n p = 1) (hS : MS M b n p) (hI : PMi M (T, rm, hm, ph)) (hk : k ≤ 1) (hst : StOK n st) (h4 : tK b n (tE b n p) = 4 → st = .inr (1, tS b n (tE b n p))) (hmore : ∀ M3, TpM M3 b n → MP M3 b n (.inl (tE b n p)) → PMi M3 (T, rm, hm, k) → ∃ M1, f_X6_readMore (nI w) M3 = some M1 ∧ Fr LnM M3 M1 ∧ MP M1 b n st ∧ ∀ z, st = .inl z → PMi M1 I') : ∃ M1, f_X6_readLine_94 (nI w) (nI k) M = some M1 ∧ Fr LnM M M1 ∧ MP M1 b n (sgS b n st) ∧ ∀ z, sgS b n st = .inl z → PMi M1 I' := by
  have eb := tE_b (b := b) hp
  obtain ⟨e11, e13, -, -, -⟩ := hS.2 (by omega)
  obtain ⟨hP, i1, i2, i3⟩ := hI
  simp only at hP i1 i2 i3
  unfold f_X6_readLine_94
  rw [ck01 hk]
  simp only [lm]
  have g0 : Fr (fun c j => c = 54 ∧ j = 7) M (up M 54 7 (nI k)) := Fr.rfl'.up (by omega)
  have w0 : (up M 54 7 (nI k)) 54 7 = nI k := up_same _ _ _ _
  generalize up M 54 7 (nI k) = M0 at *
  obtain ⟨M3, a1, a2, a3⟩ := stepM (M := M0) (p := tE b n p) hB (hT.fr g0 (by omega) (fun j => by omega)) eb.2.1 (by rw [g0 54 11 (by omega), e11]) (by rw [g0 54 13 (by omega), e13])
  have gL : Fr LnM M M3 := (g0.mono (fun c j x => by unfold LnM; omega)).trans (a2.mono (fun _ _ => StF_LnM))
  have hI3 : PMi M3 (T, rm, hm, k) := by
    have : PMi M0 (T, rm, hm, k) := ⟨hP.fr g0 (fun j => by omega) (by omega), by rw [g0 54 5 (by omega)]; exact i1, by rw [g0 54 6 (by omega)]; exact i2, w0⟩
    exact this.st a2
  rw [a1]
  simp only [Option.bind_some]
  by_cases q : tK b n (tE b n p) = 4
  · obtain ⟨f1, f2⟩ := a3.1 q
    rw [f1, if_neg (show ¬ (nI 1 ≤ (0 : Int32)) by decide), h4 q]
    exact ⟨M3, rfl, gL, ⟨f1, f2⟩, fun z hz => by cases hz⟩
  · have f1 := (a3.2 q).1
    rw [f1, if_pos (show nI 0 ≤ (0 : Int32) by decide)]
    obtain ⟨M1, b1, b2, b3, b4⟩ := hmore M3 (hT.ln gL) a3 hI3
    rw [b1]
    simp only [Option.bind_some]
    obtain ⟨M2, c1, c2, c3⟩ := semiM hB (hT.ln (gL.trans b2)) hst b3
    refine ⟨M2, c1, (gL.trans b2).trans (c2.mono (fun _ _ => StF_LnM)), c3, fun z hz => ?_⟩
    cases st with
    | inr e => cases hz
    | inl y => exact (b4 y rfl).st c2
noncomputable def itemC (w : Nat) (M : Mem) : Option Mem := if w ≤ 3 then f_X1_readTub (nI w) M else if w = 4 then f_X1_readHeir M else if w = 5 then f_X1_readCurrent M else if w = 6 then f_X1_readWind M else f_X1_readPhase M
noncomputable def itemM (w : Nat) (M : Mem) : Option Mem := if 3 < nI w then f_X6_readLine_39 (nI w) M else rd (M 57) 72 20 fun r7 => if r7 = 4 then f_X6_readLine_52 (nI w) M else f_X6_readLine_39 (nI w) M
theorem or_pow {m r K : Nat} (hm : m < 2 ^ K) (hr : r < K) : m ||| 2 ^ r < 2 ^ K := Nat.or_lt_two_pow hm (Nat.pow_lt_pow_right (by omega) hr)
theorem ItemP {b : Nat → Nat} {n p w : Nat} {I : PI} (hB : TpB b n) (hp : p ≤ n) (hk : tK b n p = 1) (hw : w < 8) (hI : PW I) : ∃ st I', StOK n st ∧ posGe (tE b n p) st ∧ PW I' ∧ (∀ M, TpC M b n → CS M (.inl (tE b n p)) → M 2 4 = nI (tS b n p) → PCi M I → ∃ M1, itemC w M = some M1 ∧ Fr LnC M M1 ∧ CS M1 st ∧ ∀ z, st = .inl z → PCi M1 I') ∧ (∀ M, TpM M b n → MS M b n p → PMi M I → ∃ M1, itemM w M = some M1 ∧ Fr LnM M M1 ∧ MP M1 b n (sgS b n st) ∧ ∀ z, sgS b n st = .inl z → PMi M1 I') := by
  obtain ⟨T, rm, hm, ph⟩ := I
  obtain ⟨hW, m1, m2, m3⟩ := hI
  simp only at hW m1 m2 m3
  have hW0 := hW.1
  have hW1 := hW.2.1
  have eb := tE_b (b := b) hp
  have sb := tS_b (b := b) hp
  have n160 := hB.1
  -- refused at its name
  have badC : ∀ (c : Nat) (M : Mem), M 2 4 = nI (tS b n p) → ∃ M1, ((f_X1_fail (nI c) M).bind fun r => some r) = some M1 ∧ Fr LnC M M1 ∧ CS M1 (.inr (c, tS b n p)) := by
    intro c M h14
    rw [failC h14]
    simp only [Option.bind_some]
    exact ⟨_, rfl, (Fr.rfl'.up (by unfold LnC; omega)).up (by unfold LnC; omega), by rw [up_slot (by omega), up_same], up_same _ _ _ _⟩
  have badM : ∀ (c k : Nat) (M : Mem), 1 ≤ c → c < 6 → k ≤ 1 → M 54 11 = nI 0 → M 54 14 = nI (tS b n p) → ∃ M1, f_X6_fails (nI c) M = some M1 ∧ M1 54 7 = M 54 7 ∧ ∃ M2, f_X6_readLine_94 (nI w) (nI k) M1 = some M2 ∧ Fr LnM M M2 ∧ MP M2 b n (sgS b n (.inr (c, tS b n p))) := by
    intro c k M h1 h6 hk e11 e14
    have k11 : MF (up (up M 54 11 (nI c)) 54 12 (nI (tS b n p))) c (tS b n p) := ⟨by rw [up_slot (by omega), up_same], up_same _ _ _ _⟩
    refine ⟨_, by rw [fails_ok e11, e14], by rw [up_slot (by omega), up_slot (by omega)], _, bad94 k11 h1 h6 hk, ((Fr.rfl'.up (by unfold LnM; omega)).up (by unfold LnM; omega)).up (by unfold LnM; omega), ?_⟩
    exact ⟨by rw [up_slot (by omega)]; exact k11.1, by rw [up_slot (by omega)]; exact k11.2⟩
  have okq : StOK n (.inl (tE b n p)) := eb.2.1
  have pgq : posGe (tE b n p) (.inl (tE b n p)) := Nat.le_refl _
  by_cases w3 : w ≤ 3
  · have ne7 : ¬ (w = 7) := by omega
    have ne4 : ¬ (w = 4) := by omega
    have lt3 : ¬ ((3 : Int32) < nI w) := fun z => absurd ((lit_lt 3 (by omega) (by omega)).mp z) (by omega)
    have e39 : ∀ M, f_X6_readLine_39 (nI w) M = f_X6_readLine_57 (nI w) M := fun M => by
      unfold f_X6_readLine_39
      rw [if_neg (fun z => ne4 ((nI_lit 4 (by omega) (by omega)).mp z))]
    have e57 : ∀ M, f_X6_readLine_57 (nI w) M = f_X6_readLine_75 (nI w) M := fun M => by
      unfold f_X6_readLine_57
      rw [if_neg (fun z => ne7 ((nI_lit 7 (by omega) (by omega)).mp z))]
    by_cases full : T 0 0 = 4
    · refine ⟨.inr (5, tS b n p), (T, rm, hm, ph), ⟨by simp only; omega, by simp only; omega, by simp only; omega⟩, trivial, ⟨hW, m1, m2, m3⟩, fun M hT hS h14 hI => ?_, fun M hT hS hI => ?_⟩
      · unfold itemC f_X1_readTub
        rw [if_pos w3]
        simp only [li]
        rw [show M 4 4 = nI (T 0 0) from hI.1.1, full, if_neg (show ¬ (nI 4 < (4 : Int32)) by decide)]
        obtain ⟨M1, a1, a2, a3⟩ := badC 5 M h14
        exact ⟨M1, a1, a2, a3, fun z hz => by cases hz⟩
      · obtain ⟨e11, e13, e14, -, -⟩ := hS.2 (by omega)
        obtain ⟨M1, a1, a2, M2, b1, b2, b3⟩ := badM 5 ph M (by omega) (by omega) m3 e11 e14
        unfold itemM f_X6_readLine_52
        rw [if_neg lt3, rd_lit 20 (by omega) (by omega), show M 57 20 = nI (T 0 0) from hI.1.1, full, if_pos (show nI 4 = (4 : Int32) from rfl), show (5 : Int32) = nI 5 from rfl, a1]
        simp only [Option.bind_some]
        rw [e57, r75 hw m3 (by rw [a2]; exact hI.2.2.2), if_neg ne7]
        exact ⟨M2, b1, b2, b3, fun z hz => by cases hz⟩
    · have ht : T 0 0 < 4 := by omega
      have o1 := numS_s (b := b) (lo := 0) (hi := 9) (m := 0) okq pgq
      have o2 := numS_s (b := b) (lo := 1) (hi := 9) (m := 0) o1.1 o1.2
      have o3 := numS_s (b := b) (lo := 0) (hi := 23) (m := 0) o2.1 o2.2
      have o4 := numS_s (b := b) (lo := 1) (hi := 99) (m := 0) o3.1 o3.2
      have v1 := numS_v (b := b) (n := n) (lo := 0) (hi := 9) (m := 0) (by omega) (.inl (tE b n p))
      have v2 := numS_v (b := b) (n := n) (lo := 1) (hi := 9) (m := 0) (by omega) (numS b n 0 9 0 (.inl (tE b n p))).1
      have v3 := numS_v (b := b) (n := n) (lo := 0) (hi := 23) (m := 0) (by omega) (numS b n 1 9 0 (numS b n 0 9 0 (.inl (tE b n p))).1).1
      have v4 := numS_v (b := b) (n := n) (lo := 1) (hi := 99) (m := 0) (by omega) (numS b n 0 23 0 (numS b n 1 9 0 (numS b n 0 9 0 (.inl (tE b n p))).1).1).1
      refine ⟨_, (addK T w _ _ _ _, rm, hm, ph), o4.1, o4.2, ⟨wf_addK hW ht w3 v1.2 v2.1 v2.2 v3.2 v4.1 v4.2, m1, m2, m3⟩, fun M hT hS h14 hI => ?_, fun M hT hS hI => ?_⟩
      · obtain ⟨M1, a1, a2, a3, a4⟩ := tubC (w := w) hB hT okq hS hI ht
        unfold itemC
        rw [if_pos w3]
        exact ⟨M1, a1, a2, a3, fun z _ => a4⟩
      · unfold itemM
        rw [if_neg lt3, rd_lit 20 (by omega) (by omega), show M 57 20 = nI (T 0 0) from hI.1.1, if_neg (fun z => full ((nI_lit 4 (by omega) (by omega)).mp z)), e39, e57, r75 hw m3 hI.2.2.2, if_neg ne7]
        refine go94 hB hT hp hk hS hI m3 o4.1 (fun h4 => ?_) (fun M3 hT3 hS3 hI3 => ?_)
        · simp only [numS, if_pos h4]
        · obtain ⟨M1, a1, a2, a3, a4⟩ := tubM (w := w) hB hT3 okq hS3 hI3 ht hW1
          unfold f_X6_readMore
          rw [if_neg lt3, a1]
          exact ⟨M1, rfl, a2, a3, fun z _ => a4⟩
  · have lt3 : (3 : Int32) < nI w := (lit_lt 3 (by omega) (by omega)).mpr (by omega)
    by_cases w4 : w = 4
    · subst w4
      have e57 : ∀ M, f_X6_readLine_57 (nI 4) M = f_X6_readLine_75 (nI 4) M := fun M => by
        unfold f_X6_readLine_57
        rw [if_neg (show ¬ (nI 4 = (7 : Int32)) by decide)]
      by_cases full : T 0 1 = 4
      · refine ⟨.inr (5, tS b n p), (T, rm, hm, ph), ⟨by simp only; omega, by simp only; omega, by simp only; omega⟩, trivial, ⟨hW, m1, m2, m3⟩, fun M hT hS h14 hI => ?_, fun M hT hS hI => ?_⟩
        · unfold itemC f_X1_readHeir
          rw [if_neg w3, if_pos rfl]
          simp only [li]
          rw [show M 4 5 = nI (T 0 1) from hI.1.2.1, full, if_neg (show ¬ (nI 4 < (4 : Int32)) by decide)]
          obtain ⟨M1, a1, a2, a3⟩ := badC 5 M h14
          exact ⟨M1, a1, a2, a3, fun z hz => by cases hz⟩
        · obtain ⟨e11, e13, e14, -, -⟩ := hS.2 (by omega)
          obtain ⟨M1, a1, a2, M2, b1, b2, b3⟩ := badM 5 ph M (by omega) (by omega) m3 e11 e14
          unfold itemM f_X6_readLine_39 f_X6_readLine_52
          rw [if_pos lt3, if_pos (show nI 4 = (4 : Int32) from rfl), show M 54 4 = nI (T 0 1) from hI.1.2.1, full, if_pos (show nI 4 = (4 : Int32) from rfl), show (5 : Int32) = nI 5 from rfl, a1]
          simp only [Option.bind_some]
          rw [e57, r75 hw m3 (by rw [a2]; exact hI.2.2.2), if_neg (by omega)]
          exact ⟨M2, b1, b2, b3, fun z hz => by cases hz⟩
      · have ht : T 0 1 < 4 := by omega
        have o1 := numS_s (b := b) (lo := 0) (hi := 9) (m := 0) okq pgq
        have o2 := numS_s (b := b) (lo := 0) (hi := 23) (m := 0) o1.1 o1.2
        have v1 := numS_v (b := b) (n := n) (lo := 0) (hi := 9) (m := 0) (by omega) (.inl (tE b n p))
        have v2 := numS_v (b := b) (n := n) (lo := 0) (hi := 23) (m := 0) (by omega) (numS b n 0 9 0 (.inl (tE b n p))).1
        have o3 := numS_s (b := b) (lo := (numS b n 0 23 0 (numS b n 0 9 0 (.inl (tE b n p))).1).2) (hi := 23) (m := 0) o2.1 o2.2
        have v3 := numS_v (b := b) (n := n) (lo := (numS b n 0 23 0 (numS b n 0 9 0 (.inl (tE b n p))).1).2) (hi := 23) (m := 0) v2.2 (numS b n 0 23 0 (numS b n 0 9 0 (.inl (tE b n p))).1).1
        have o4 := numS_s (b := b) (lo := 0) (hi := 9) (m := 0) o3.1 o3.2
        have v4 := numS_v (b := b) (n := n) (lo := 0) (hi := 9) (m := 0) (by omega) (numS b n (numS b n 0 23 0 (numS b n 0 9 0 (.inl (tE b n p))).1).2 23 0 (numS b n 0 23 0 (numS b n 0 9 0 (.inl (tE b n p))).1).1).1
        refine ⟨_, (addH T _ _ _ _, rm, hm, ph), o4.1, o4.2, ⟨wf_addH hW ht v1.2 v3.1 v3.2 v4.2, m1, m2, m3⟩, fun M hT hS h14 hI => ?_, fun M hT hS hI => ?_⟩
        · obtain ⟨M1, a1, a2, a3, a4⟩ := heirC hB hT okq hS hI ht
          unfold itemC
          rw [if_neg w3, if_pos rfl]
          exact ⟨M1, a1, a2, a3, fun z _ => a4⟩
        · unfold itemM f_X6_readLine_39
          rw [if_pos lt3, if_pos (show nI 4 = (4 : Int32) from rfl), show M 54 4 = nI (T 0 1) from hI.1.2.1, if_neg (fun z => full ((nI_lit 4 (by omega) (by omega)).mp z)), e57, r75 hw m3 hI.2.2.2, if_neg (by omega)]
          refine go94 hB hT hp hk hS hI m3 o4.1 (fun h4 => ?_) (fun M3 hT3 hS3 hI3 => ?_)
          · simp only [numS, if_pos h4]
          · obtain ⟨M1, a1, a2, a3, a4⟩ := heirM hB hT3 okq hS3 hI3 ht hW0
            unfold f_X6_readMore
            rw [if_pos lt3, if_pos (show nI 4 = (4 : Int32) from rfl), a1]
            exact ⟨M1, rfl, a2, a3, fun z _ => a4⟩
    · have e39 : ∀ M, f_X6_readLine_39 (nI w) M = f_X6_readLine_57 (nI w) M := fun M => by
        unfold f_X6_readLine_39
        rw [if_neg (fun z => w4 ((nI_lit 4 (by omega) (by omega)).mp z))]
      have n4 : ¬ (nI w = (4 : Int32)) := fun z => w4 ((nI_lit 4 (by omega) (by omega)).mp z)
      by_cases w7 : w = 7
      · subst w7
        by_cases told : ph = 1
        · refine ⟨.inr (4, tS b n p), (T, rm, hm, ph), ⟨by simp only; omega, by simp only; omega, by simp only; omega⟩, trivial, ⟨hW, m1, m2, m3⟩, fun M hT hS h14 hI => ?_, fun M hT hS hI => ?_⟩
          · unfold itemC f_X1_readPhase
            rw [if_neg w3, if_neg w4, if_neg (by omega), if_neg (by omega), show M 1 6 = nI ph from hI.2.2.2, told, if_neg (show ¬ (nI 1 = (0 : Int32)) by decide)]
            obtain ⟨M1, a1, a2, a3⟩ := badC 4 M h14
            exact ⟨M1, a1, a2, a3, fun z hz => by cases hz⟩
          · obtain ⟨e11, e13, e14, -, -⟩ := hS.2 (by omega)
            obtain ⟨M1, a1, a2, M2, b1, b2, b3⟩ := badM 4 1 M (by omega) (by omega) (by omega) e11 e14
            unfold itemM
            rw [if_pos lt3, e39]
            unfold f_X6_readLine_57
            rw [if_pos (show nI 7 = (7 : Int32) from rfl), show M 54 7 = nI ph from hI.2.2.2, told, if_neg (show ¬ (nI 1 = (0 : Int32)) by decide), show (4 : Int32) = nI 4 from rfl, a1]
            simp only [Option.bind_some]
            rw [r75 hw m3 (by rw [a2]; exact hI.2.2.2), if_pos rfl]
            exact ⟨M2, b1, b2, b3, fun z hz => by cases hz⟩
        · have ph0 : ph = 0 := by omega
          subst ph0
          have o1 := numS_s (b := b) (lo := 0) (hi := 5) (m := 0) okq pgq
          have v1 := numS_v (b := b) (n := n) (lo := 0) (hi := 5) (m := 0) (by omega) (.inl (tE b n p))
          refine ⟨_, (setS T 0 2 (numS b n 0 5 0 (.inl (tE b n p))).2, rm, hm, 1), o1.1, o1.2, ⟨hW.phase (by omega), m1, m2, Nat.le_refl 1⟩, fun M hT hS h14 hI => ?_, fun M hT hS hI => ?_⟩
          · obtain ⟨M1, a1, a2, a3, a4⟩ := phaseC hB hT eb.2.1 hS hI
            unfold itemC
            rw [if_neg w3, if_neg w4, if_neg (by omega), if_neg (by omega)]
            exact ⟨M1, a1, a2, a3, fun z _ => a4⟩
          · unfold itemM
            rw [if_pos lt3, e39]
            unfold f_X6_readLine_57
            rw [if_pos (show nI 7 = (7 : Int32) from rfl), show M 54 7 = nI 0 from hI.2.2.2, if_pos (show nI 0 = (0 : Int32) from rfl), r75 hw m3 hI.2.2.2, if_pos rfl]
            refine go94 hB hT hp hk hS hI (Nat.le_refl 1) o1.1 (fun h4 => ?_) (fun M3 hT3 hS3 hI3 => ?_)
            · simp only [numS, if_pos h4]
            · obtain ⟨M1, a1, a2, a3, a4⟩ := phaseM hB hT3 okq hS3 hI3 hW
              unfold f_X6_readMore
              rw [if_pos lt3, if_neg n4, if_neg (show ¬ (nI 7 = (5 : Int32)) by decide), if_neg (show ¬ (nI 7 = (6 : Int32)) by decide)]
              exact ⟨M1, a1, a2, a3, fun z _ => a4⟩
      · have e57 : ∀ M, f_X6_readLine_57 (nI w) M = f_X6_readLine_75 (nI w) M := fun M => by
          unfold f_X6_readLine_57
          rw [if_neg (fun z => w7 ((nI_lit 7 (by omega) (by omega)).mp z))]
        by_cases w5 : w = 5
        · subst w5
          have o1 := numS_s (b := b) (lo := 0) (hi := 9) (m := rm) okq pgq
          have v1 := numS_v (b := b) (n := n) (lo := 0) (hi := 9) (m := rm) (by omega) (.inl (tE b n p))
          have o2 := numS_s (b := b) (lo := 0) (hi := 4) (m := 0) o1.1 o1.2
          have v2 := numS_v (b := b) (n := n) (lo := 0) (hi := 4) (m := 0) (by omega) (numS b n 0 9 rm (.inl (tE b n p))).1
          refine ⟨_, (setS T 3 (numS b n 0 9 rm (.inl (tE b n p))).2 (numS b n 0 4 0 (numS b n 0 9 rm (.inl (tE b n p))).1).2, rm ||| 2 ^ (numS b n 0 9 rm (.inl (tE b n p))).2, hm, ph), o2.1, o2.2, ⟨hW.cur (by omega), or_pow m1 (by omega), m2, m3⟩, fun M hT hS h14 hI => ?_, fun M hT hS hI => ?_⟩
          · obtain ⟨M1, a1, a2, a3, a4⟩ := currentC hB hT eb.2.1 hS hI m1 m2
            unfold itemC
            rw [if_neg w3, if_neg w4, if_pos rfl]
            exact ⟨M1, a1, a2, a3, a4⟩
          · unfold itemM
            rw [if_pos lt3, e39, e57, r75 hw m3 hI.2.2.2, if_neg w7]
            refine go94 hB hT hp hk hS hI m3 o2.1 (fun h4 => ?_) (fun M3 hT3 hS3 hI3 => ?_)
            · simp only [numS, if_pos h4]
            · obtain ⟨M1, a1, a2, a3, a4⟩ := currentM hB hT3 eb.2.1 hS3 hI3 hW m1 m2
              unfold f_X6_readMore
              rw [if_pos lt3, if_neg n4, if_pos (show nI 5 = (5 : Int32) from rfl)]
              exact ⟨M1, a1, a2, a3, fun z _ => a4⟩
        · have w6 : w = 6 := by omega
          subst w6
          have o1 := numS_s (b := b) (lo := 0) (hi := 23) (m := hm) okq pgq
          have v1 := numS_v (b := b) (n := n) (lo := 0) (hi := 23) (m := hm) (by omega) (.inl (tE b n p))
          have o2 := numS_s (b := b) (lo := 0) (hi := 4) (m := 0) o1.1 o1.2
          have v2 := numS_v (b := b) (n := n) (lo := 0) (hi := 4) (m := 0) (by omega) (numS b n 0 23 hm (.inl (tE b n p))).1
          refine ⟨_, (setS T 4 (numS b n 0 23 hm (.inl (tE b n p))).2 (numS b n 0 4 0 (numS b n 0 23 hm (.inl (tE b n p))).1).2, rm, hm ||| 2 ^ (numS b n 0 23 hm (.inl (tE b n p))).2, ph), o2.1, o2.2, ⟨hW.wind (by omega), m1, or_pow m2 (by omega), m3⟩, fun M hT hS h14 hI => ?_, fun M hT hS hI => ?_⟩
          · obtain ⟨M1, a1, a2, a3, a4⟩ := windC hB hT eb.2.1 hS hI m1 m2
            unfold itemC
            rw [if_neg w3, if_neg w4, if_neg w5, if_pos rfl]
            exact ⟨M1, a1, a2, a3, a4⟩
          · unfold itemM
            rw [if_pos lt3, e39, e57, r75 hw m3 hI.2.2.2, if_neg w7]
            refine go94 hB hT hp hk hS hI m3 o2.1 (fun h4 => ?_) (fun M3 hT3 hS3 hI3 => ?_)
            · simp only [numS, if_pos h4]
            · obtain ⟨M1, a1, a2, a3, a4⟩ := windM hB hT3 eb.2.1 hS3 hI3 hW m1 m2
              unfold f_X6_readMore
              rw [if_pos lt3, if_neg n4, if_neg (show ¬ (nI 6 = (5 : Int32)) by decide), if_pos (show nI 6 = (6 : Int32) from rfl)]
              exact ⟨M1, a1, a2, a3, fun z _ => a4⟩
