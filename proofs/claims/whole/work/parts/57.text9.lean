/-! which NAME -/
theorem ff_cases (mt : Nat → Bool) : ∀ d i, (∃ w, i ≤ w ∧ w < i + d ∧ mt w = true ∧ (∀ v, i ≤ v → v < w → mt v = false) ∧ ff mt d i = (w : Int)) ∨ ((∀ v, i ≤ v → v < i + d → mt v = false) ∧ ff mt d i = -4)
  | 0, i => Or.inr ⟨fun v h1 h2 => by omega, rfl⟩
  | d + 1, i => by
    unfold ff
    by_cases q : mt i = true
    · rw [if_pos q]
      exact Or.inl ⟨i, Nat.le_refl _, by omega, q, fun v h1 h2 => by omega, rfl⟩
    · rw [if_neg q]
      have q' : mt i = false := by rw [Bool.not_eq_true] at q; exact q
      rcases ff_cases mt d (i + 1) with ⟨w, h1, h2, h3, h4, h5⟩ | ⟨h1, h2⟩
      · refine Or.inl ⟨w, by omega, by omega, h3, fun v k1 k2 => ?_, h5⟩
        by_cases e : v = i
        · rw [e]; exact q'
        · exact h4 v (by omega) k2
      · refine Or.inr ⟨fun v k1 k2 => ?_, h2⟩
        by_cases e : v = i
        · rw [e]; exact q'
        · exact h1 v (by omega) (by omega)
theorem lineC_if {M : Mem} {b : Nat → Nat} {n p : Nat} (hB : TpB b n) (hT : TpC M b n) (hp : p ≤ n) (h2 : M 2 2 = nI (tE b n p)) (h3 : M 2 3 = nI (tK b n p)) (h4 : M 2 4 = nI (tS b n p)) : f_X1_readLine M = if tK b n p = 1 ∧ mtB b n p 0 = true then (f_X1_readTub 0 M).bind f_X1_readLine_160 else if tK b n p = 1 ∧ mtB b n p 1 = true then (f_X1_readTub 1 M).bind f_X1_readLine_160 else if tK b n p = 1 ∧ mtB b n p 2 = true then (f_X1_readTub 2 M).bind f_X1_readLine_160 else if tK b n p = 1 ∧ mtB b n p 3 = true then (f_X1_readTub 3 M).bind f_X1_readLine_160 else if tK b n p = 1 ∧ mtB b n p 4 = true then (f_X1_readHeir M).bind f_X1_readLine_160 else if tK b n p = 1 ∧ mtB b n p 5 = true then (f_X1_readCurrent M).bind f_X1_readLine_160 else if tK b n p = 1 ∧ mtB b n p 6 = true then (f_X1_readWind M).bind f_X1_readLine_160 else if tK b n p = 1 ∧ mtB b n p 7 = true then (f_X1_readPhase M).bind f_X1_readLine_160 else (f_X1_failToken M).bind f_X1_readLine_160 := by
  unfold f_X1_readLine
  rw [isWordC (w := 0) hB hT hp (by omega) h2 h3 h4, isWordC (w := 1) hB hT hp (by omega) h2 h3 h4, isWordC (w := 2) hB hT hp (by omega) h2 h3 h4, isWordC (w := 3) hB hT hp (by omega) h2 h3 h4, isWordC (w := 4) hB hT hp (by omega) h2 h3 h4, isWordC (w := 5) hB hT hp (by omega) h2 h3 h4, isWordC (w := 6) hB hT hp (by omega) h2 h3 h4, isWordC (w := 7) hB hT hp (by omega) h2 h3 h4]
  simp only [Option.bind_some, ite_b2]
theorem noWordC {M : Mem} {b : Nat → Nat} {n p : Nat} (hB : TpB b n) (hT : TpC M b n) (hp : p ≤ n) (h2 : M 2 2 = nI (tE b n p)) (h3 : M 2 3 = nI (tK b n p)) (h4 : M 2 4 = nI (tS b n p)) (hno : ∀ v, v < 8 → ¬ (tK b n p = 1 ∧ mtB b n p v = true)) : ∃ M1, f_X1_readLine M = some M1 ∧ Fr LnC M M1 ∧ CS M1 (.inr (if tK b n p = 4 then 1 else 2, tS b n p)) := by
  rw [lineC_if hB hT hp h2 h3 h4, if_neg (hno 0 (by omega)), if_neg (hno 1 (by omega)), if_neg (hno 2 (by omega)), if_neg (hno 3 (by omega)), if_neg (hno 4 (by omega)), if_neg (hno 5 (by omega)), if_neg (hno 6 (by omega)), if_neg (hno 7 (by omega)), failTokenC h3 tK_le h4]
  simp only [Option.bind_some]
  have k32 : (up (up M 1 2 (nI (if tK b n p = 4 then 1 else 2))) 1 3 (nI (tS b n p))) 1 2 = nI (if tK b n p = 4 then 1 else 2) := by rw [up_slot (by omega), up_same]
  unfold f_X1_readLine_160
  rw [k32, if_neg (show ¬ (nI (if tK b n p = 4 then 1 else 2) = (0 : Int32)) by split <;> decide)]
  exact ⟨_, rfl, (Fr.rfl'.up (by unfold LnC; omega)).up (by unfold LnC; omega), k32, up_same _ _ _ _⟩
theorem wordC {M : Mem} {b : Nat → Nat} {n p w : Nat} (hB : TpB b n) (hT : TpC M b n) (hp : p ≤ n) (h2 : M 2 2 = nI (tE b n p)) (h3 : M 2 3 = nI (tK b n p)) (h4 : M 2 4 = nI (tS b n p)) (hk : tK b n p = 1) (hw : w < 8) (hm : mtB b n p w = true) (hno : ∀ v, v < w → mtB b n p v = false) : f_X1_readLine M = (itemC w M).bind f_X1_readLine_160 := by
  rw [lineC_if hB hT hp h2 h3 h4]
  have no : ∀ v, v < w → ¬ (tK b n p = 1 ∧ mtB b n p v = true) := fun v hv z => by
    rw [hno v hv] at z
    exact absurd z.2 (by decide)
  have yes : tK b n p = 1 ∧ mtB b n p w = true := ⟨hk, hm⟩
  match w, hw with
  | 0, _ => rw [if_pos yes]; rfl
  | 1, _ => rw [if_neg (no 0 (by omega)), if_pos yes]; rfl
  | 2, _ => rw [if_neg (no 0 (by omega)), if_neg (no 1 (by omega)), if_pos yes]; rfl
  | 3, _ => rw [if_neg (no 0 (by omega)), if_neg (no 1 (by omega)), if_neg (no 2 (by omega)), if_pos yes]; rfl
  | 4, _ => rw [if_neg (no 0 (by omega)), if_neg (no 1 (by omega)), if_neg (no 2 (by omega)), if_neg (no 3 (by omega)), if_pos yes]; rfl
  | 5, _ => rw [if_neg (no 0 (by omega)), if_neg (no 1 (by omega)), if_neg (no 2 (by omega)), if_neg (no 3 (by omega)), if_neg (no 4 (by omega)), if_pos yes]; rfl
  | 6, _ => rw [if_neg (no 0 (by omega)), if_neg (no 1 (by omega)), if_neg (no 2 (by omega)), if_neg (no 3 (by omega)), if_neg (no 4 (by omega)), if_neg (no 5 (by omega)), if_pos yes]; rfl
  | 7, _ => rw [if_neg (no 0 (by omega)), if_neg (no 1 (by omega)), if_neg (no 2 (by omega)), if_neg (no 3 (by omega)), if_neg (no 4 (by omega)), if_neg (no 5 (by omega)), if_neg (no 6 (by omega)), if_pos yes]; rfl
  | w + 8, h => omega
theorem lineBoth {b : Nat → Nat} {n p : Nat} {I : PI} (hB : TpB b n) (hp : p ≤ n) (hk0 : tK b n p ≠ 0) (hk4 : tK b n p ≠ 4) (hI : PW I) : ∃ st I', StOK n st ∧ posGe (tE b n p) st ∧ PW I' ∧ (∀ M, TpC M b n → M 2 2 = nI (tE b n p) → M 2 3 = nI (tK b n p) → M 2 4 = nI (tS b n p) → M 1 2 = nI 0 → PCi M I → ∃ M1, f_X1_readLine M = some M1 ∧ Fr LnC M M1 ∧ CS M1 st ∧ ∀ z, st = .inl z → PCi M1 I') ∧ (∀ M, TpM M b n → RConst M → MS M b n p → PMi M I → ∃ M1, f_X6_readLine M = some M1 ∧ Fr LnM M M1 ∧ MP M1 b n st ∧ ∀ z, st = .inl z → PMi M1 I') := by
  have sb := tS_b (b := b) hp
  have eb := tE_b (b := b) hp
  -- no NAME that begins a line
  have none' : (∀ v, v < 8 → ¬ (tK b n p = 1 ∧ mtB b n p v = true)) → (if tK b n p = 1 then iI (ff (mtB b n p) 8 0) else (-4 : Int32)) = -4 → ∃ st I', StOK n st ∧ posGe (tE b n p) st ∧ PW I' ∧ (∀ M, TpC M b n → M 2 2 = nI (tE b n p) → M 2 3 = nI (tK b n p) → M 2 4 = nI (tS b n p) → M 1 2 = nI 0 → PCi M I → ∃ M1, f_X1_readLine M = some M1 ∧ Fr LnC M M1 ∧ CS M1 st ∧ ∀ z, st = .inl z → PCi M1 I') ∧ (∀ M, TpM M b n → RConst M → MS M b n p → PMi M I → ∃ M1, f_X6_readLine M = some M1 ∧ Fr LnM M M1 ∧ MP M1 b n st ∧ ∀ z, st = .inl z → PMi M1 I') := by
    intro hno hv
    refine ⟨.inr (2, tS b n p), I, ⟨by simp only; omega, by simp only; omega, by simp only; omega⟩, trivial, hI, fun M hT h2 h3 h4 h32 hI' => ?_, fun M hT hK hS hI' => ?_⟩
    · obtain ⟨M1, a1, a2, a3⟩ := noWordC hB hT hp h2 h3 h4 hno
      rw [if_neg hk4] at a3
      exact ⟨M1, a1, a2, a3, fun z hz => by cases hz⟩
    · obtain ⟨e11, e13, e14, e15, -⟩ := hS.2 hk4
      unfold f_X6_readLine
      rw [nameM hB hT hK hp e13 e14 e15, hv]
      simp only [Option.bind_some]
      rw [in_lit _ 0 7 (by omega) (by omega)]
      simp only [Option.bind_some, ite_b2]
      have e4 : (-4 : Int32).toInt = -4 := by decide
      rw [if_neg (by rw [e4]; omega), fails_ok e11]
      simp only [Option.bind_some]
      refine ⟨_, rfl, (Fr.rfl'.up (by unfold LnM; omega)).up (by unfold LnM; omega), ⟨by rw [up_slot (by omega), up_same]; rfl, by rw [up_same, e14]⟩, fun z hz => by cases hz⟩
  by_cases hk : tK b n p = 1
  · rcases ff_cases (mtB b n p) 8 0 with ⟨w, -, h2, h3, h4, h5⟩ | ⟨h1, h2⟩
    · have hw : w < 8 := by omega
      obtain ⟨st, I', g1, g2, g3, g4, g5⟩ := ItemP (w := w) hB hp hk hw hI
      have s := sgS_s (b := b) g1 g2
      refine ⟨sgS b n st, I', s.1, s.2, g3, fun M hT k2 k3 k4 k32 hI' => ?_, fun M hT hK hS hI' => ?_⟩
      · obtain ⟨M1, a1, a2, a3, a4⟩ := g4 M hT ⟨k32, k2⟩ k4 hI'
        obtain ⟨M2, b1, b2, b3⟩ := semiC hB (hT.ln a2) g1 a3
        rw [wordC hB hT hp k2 k3 k4 hk hw h3 (fun v hv => h4 v (Nat.zero_le _) hv), a1]
        simp only [Option.bind_some]
        refine ⟨M2, b1, a2.trans (b2.mono (fun _ _ => RnF_LnC)), b3, fun z hz => ?_⟩
        cases st with
        | inr e => cases hz
        | inl y =>
          obtain ⟨c1, c2, c3, c4⟩ := a4 y rfl
          exact ⟨c1.fr b2 (fun c j x y => by unfold RnF; omega), by rw [b2 1 4 (by unfold RnF; omega), c2], by rw [b2 1 5 (by unfold RnF; omega), c3], by rw [b2 1 6 (by unfold RnF; omega), c4]⟩
      · obtain ⟨e11, e13, e14, e15, -⟩ := hS.2 hk4
        obtain ⟨M1, a1, a2, a3, a4⟩ := g5 M hT hS hI'
        unfold f_X6_readLine
        rw [nameM hB hT hK hp e13 e14 e15, if_pos hk, h5, iI_nI]
        simp only [Option.bind_some]
        rw [in_lit _ 0 7 (by omega) (by omega)]
        simp only [Option.bind_some, ite_b2]
        rw [if_pos (by rw [nI_toInt (by omega)]; omega)]
        exact ⟨M1, a1, a2, a3, a4⟩
    · exact none' (fun v hv z => by rw [h1 v (Nat.zero_le _) (by omega)] at z; exact absurd z.2 (by decide)) (by rw [if_pos hk, h2]; rfl)
  · exact none' (fun v hv z => hk z.1) (by rw [if_neg hk])
/-! the lines, both sides -/
theorem PCi.tk {M M1 : Mem} {I : PI} (h : PCi M I) (hf : Fr TkF M M1) : PCi M1 I := by
  obtain ⟨a, b, c, d⟩ := h
  exact ⟨a.fr hf (fun c j x y => by unfold TkF; omega), by rw [hf _ _ (by unfold TkF; omega), b], by rw [hf _ _ (by unfold TkF; omega), c], by rw [hf _ _ (by unfold TkF; omega), d]⟩
theorem loopBoth {b : Nat → Nat} {n : Nat} (hB : TpB b n) : ∀ d p I L, n - p < d → p ≤ n → L ≤ p → PW I → ∃ o : (Nat × Sv) ⊕ (Nat × Nat), (match o with | .inl z => WF z.2 | .inr e => 1 ≤ e.1 ∧ e.1 ≤ 5 ∧ e.2 ≤ n) ∧ (∀ f M, n - p < f → TpC M b n → CS M (.inl p) → PCi M I → ∃ r M1, f_X1_readAll_36 f (nI L) M = some (r, M1) ∧ Fr LnC M M1 ∧ (match o with | .inl z => r = nI z.1 ∧ M1 1 2 = nI 0 ∧ RepC M1 4 z.2 | .inr e => M1 1 2 = nI e.1 ∧ M1 1 3 = nI e.2)) ∧ (∀ f M, n - p < f → TpM M b n → RConst M → MS M b n p → PMi M I → ∃ r M1, f_X6_text_57 f (nI L) M = f_X6_text_81 r M1 ∧ Fr LnM M M1 ∧ (match o with | .inl z => r = nI z.1 ∧ M1 54 11 = nI 0 ∧ RepP M1 z.2 | .inr e => MF M1 e.1 e.2)) := by
  have n160 := hB.1
  intro d
  induction d with
  | zero => intro p _ _ q; omega
  | succ d ih =>
    intro p I L hd hp hL hI
    have sb := tS_b (b := b) hp
    have eb := tE_b (b := b) hp
    have kl := tK_le (b := b) (n := n) (p := p)
    by_cases h0 : tK b n p = 0
    · refine ⟨.inl (L, I.1), hI.1, fun f M hf hT hS hI' => ?_, fun f M hf hT hK hS hI' => ?_⟩
      · obtain ⟨f, rfl⟩ : ∃ g, f = g + 1 := ⟨f - 1, by omega⟩
        obtain ⟨M1, a1, a2, a3, a4, a5, -⟩ := takeC hB hT hp hS.2
        unfold f_X1_readAll_36 f_X1_readAll_60
        rw [if_neg (fun z => absurd ((lit_lt 160 (by omega) (by omega)).mp z) (by omega)), a1]
        simp only [Option.bind_some]
        rw [a4, h0, if_pos (show nI 0 = (0 : Int32) from rfl)]
        exact ⟨_, M1, rfl, a2.mono (fun c j x => by unfold TkF at x; unfold LnC; omega), rfl, by rw [a2 1 2 (by unfold TkF; omega)]; exact hS.1, (hI'.tk a2).1⟩
      · obtain ⟨f, rfl⟩ : ∃ g, f = g + 1 := ⟨f - 1, by omega⟩
        obtain ⟨e11, -, -, e15, -⟩ := hS.2 (by omega)
        unfold f_X6_text_57
        rw [e11, if_pos (show nI 0 = (0 : Int32) from rfl), e15, h0, if_pos (show nI 0 = (0 : Int32) from rfl)]
        exact ⟨_, M, rfl, Fr.rfl', rfl, e11, hI'.1⟩
    · by_cases h4 : tK b n p = 4
      · refine ⟨.inr (1, tS b n p), ⟨by simp only; omega, by simp only; omega, by simp only; omega⟩, fun f M hf hT hS hI' => ?_, fun f M hf hT hK hS hI' => ?_⟩
        · obtain ⟨f, rfl⟩ : ∃ g, f = g + 1 := ⟨f - 1, by omega⟩
          obtain ⟨M1, a1, a2, a3, a4, a5, -⟩ := takeC hB hT hp hS.2
          have a2' : Fr LnC M M1 := a2.mono (fun c j x => by unfold TkF at x; unfold LnC; omega)
          obtain ⟨M2, b1, b2, b3⟩ := noWordC hB (hT.ln a2') hp a3 a4 a5 (fun v hv z => by omega)
          rw [if_pos h4] at b3
          unfold f_X1_readAll_36 f_X1_readAll_74
          rw [if_neg (fun z => absurd ((lit_lt 160 (by omega) (by omega)).mp z) (by omega)), a1]
          simp only [Option.bind_some]
          rw [a4, if_neg (fun z => h0 ((nI_lit 0 (by omega) (by omega)).mp z)), b1]
          simp only [Option.bind_some]
          rw [b3.1, if_neg (show ¬ (nI 1 = (0 : Int32)) by decide)]
          exact ⟨_, M2, rfl, a2'.trans b2, b3⟩
        · obtain ⟨f, rfl⟩ : ∃ g, f = g + 1 := ⟨f - 1, by omega⟩
          obtain ⟨f1, f2⟩ := hS.1 h4
          unfold f_X6_text_57
          rw [f1, if_neg (show ¬ (nI 1 = (0 : Int32)) by decide)]
          exact ⟨_, M, rfl, Fr.rfl', f1, f2⟩
      · have hlt := tE_lt hp h0
        obtain ⟨st, I', g1, g2, g3, g4, g5⟩ := lineBoth hB hp h0 h4 hI
        -- the class up to the line's end
        have hc : ∀ f M, TpC M b n → CS M (.inl p) → PCi M I → ∃ M1, f_X1_readAll_36 (f + 1) (nI L) M = (if M1 1 2 = 0 then f_X1_readAll_36 f (nI (L + 1)) M1 else some (nI L, M1)) ∧ Fr LnC M M1 ∧ CS M1 st ∧ ∀ z, st = .inl z → PCi M1 I' := by
          intro f M hT hS hI'
          obtain ⟨M1, a1, a2, a3, a4, a5, -⟩ := takeC hB hT hp hS.2
          have a2' : Fr LnC M M1 := a2.mono (fun c j x => by unfold TkF at x; unfold LnC; omega)
          obtain ⟨M2, b1, b2, b3, b4⟩ := g4 M1 (hT.ln a2') a3 a4 a5 (by rw [a2 1 2 (by unfold TkF; omega)]; exact hS.1) (hI'.tk a2)
          refine ⟨M2, ?_, a2'.trans b2, b3, b4⟩
          conv => lhs; unfold f_X1_readAll_36
          unfold f_X1_readAll_74
          rw [if_neg (fun z => absurd ((lit_lt 160 (by omega) (by omega)).mp z) (by omega)), a1]
          simp only [Option.bind_some]
          rw [a4, if_neg (fun z => h0 ((nI_lit 0 (by omega) (by omega)).mp z)), b1]
          simp only [Option.bind_some]
          rw [show nI L + (1 : Int32) = nI (L + 1) by rw [show (1 : Int32) = nI 1 from rfl, nI_add]]
        have hm : ∀ f M, TpM M b n → RConst M → MS M b n p → PMi M I → ∃ M1, f_X6_text_57 (f + 1) (nI L) M = f_X6_text_57 f (nI (L + 1)) M1 ∧ Fr LnM M M1 ∧ MP M1 b n st ∧ ∀ z, st = .inl z → PMi M1 I' := by
          intro f M hT hK hS hI'
          obtain ⟨e11, -, -, e15, -⟩ := hS.2 h4
          obtain ⟨M1, a1, a2, a3, a4⟩ := g5 M hT hK hS hI'
          refine ⟨M1, ?_, a2, a3, a4⟩
          conv => lhs; unfold f_X6_text_57
          rw [e11, if_pos (show nI 0 = (0 : Int32) from rfl), e15, if_neg (fun z => h0 ((nI_lit 0 (by omega) (by omega)).mp z)), a1]
          simp only [Option.bind_some]
          rw [show nI L + (1 : Int32) = nI (L + 1) by rw [show (1 : Int32) = nI 1 from rfl, nI_add]]
        cases hst : st with
        | inr e =>
          rw [hst] at g1
          obtain ⟨c1, c5, cs⟩ := g1
          refine ⟨.inr e, ⟨c1, c5, cs⟩, fun f M hf hT hS hI' => ?_, fun f M hf hT hK hS hI' => ?_⟩
          · obtain ⟨f, rfl⟩ : ∃ g, f = g + 1 := ⟨f - 1, by omega⟩
            obtain ⟨M1, a1, a2, a3, -⟩ := hc f M hT hS hI'
            rw [hst] at a3
            have ne : ¬ (M1 1 2 = (0 : Int32)) := by
              rw [a3.1]
              exact fun z => absurd ((nI_lit 0 (by omega) (by omega)).mp z) (by omega)
            rw [if_neg ne] at a1
            exact ⟨_, M1, a1, a2, a3⟩
          · obtain ⟨f, rfl⟩ : ∃ g, f = g + 1 + 1 := ⟨f - 2, by omega⟩
            obtain ⟨M1, a1, a2, a3, -⟩ := hm (f + 1) M hT hK hS hI'
            rw [hst] at a3
            have ne : ¬ (M1 54 11 = (0 : Int32)) := by
              rw [a3.1]
              exact fun z => absurd ((nI_lit 0 (by omega) (by omega)).mp z) (by omega)
            refine ⟨nI (L + 1), M1, ?_, a2, a3⟩
            rw [a1]
            unfold f_X6_text_57
            rw [if_neg ne]
        | inl q =>
          rw [hst] at g1 g2
          have hq : q ≤ n := g1
          have hq2 : tE b n p ≤ q := g2
          obtain ⟨o, i1, i2, i3⟩ := ih q I' (L + 1) (by omega) hq (by omega) g3
          refine ⟨o, i1, fun f M hf hT hS hI' => ?_, fun f M hf hT hK hS hI' => ?_⟩
          · obtain ⟨f, rfl⟩ : ∃ g, f = g + 1 := ⟨f - 1, by omega⟩
            obtain ⟨M1, a1, a2, a3, a4⟩ := hc f M hT hS hI'
            rw [hst] at a3
            rw [if_pos (show M1 1 2 = (0 : Int32) from a3.1)] at a1
            obtain ⟨r, M2, b1, b2, b3⟩ := i2 f M1 (by omega) (hT.ln a2) a3 (a4 q hst)
            exact ⟨r, M2, by rw [a1, b1], a2.trans b2, b3⟩
          · obtain ⟨f, rfl⟩ : ∃ g, f = g + 1 := ⟨f - 1, by omega⟩
            obtain ⟨M1, a1, a2, a3, a4⟩ := hm f M hT hK hS hI'
            rw [hst] at a3
            obtain ⟨r, M2, b1, b2, b3⟩ := i3 f M1 (by omega) (hT.ln a2) (hK.fr a2 (fun j => by unfold LnM; omega) (fun j => by unfold LnM; omega) (fun j => by unfold LnM; omega) (by unfold LnM; omega)) a3 (a4 q hst)
            exact ⟨r, M2, by rw [a1, b1], a2.trans b2, b3⟩
