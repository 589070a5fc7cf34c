def DayC (M : Mem) (t : Nat) (S : Sv) (n : Nat) : Prop := SlC M t (sailS S t n) ∧ M 45 t = iI (hookS S t n).1 ∧ M 46 t = iI (hookS S t n).2
def Day2 (t c j : Nat) : Prop := 45 ≤ c ∧ c ≤ 46 ∧ j = t
theorem Day2.k {t k : Nat} (hk : k + 4 < 41) : ∀ c j, k ≤ c → c ≤ k + 4 → ¬ Day2 t c j := fun c j a b => by unfold Day2; omega
theorem meet187 {k : Nat} {t n : Nat} {T : Int32 → Int32 → Mem → Option Mem} {x4 : Int32} {i : Nat} {M : Mem} : f_X0_meetTub_187 k (nI t) (nI n) T x4 (nI i) M = T x4 (nI (i + 1)) M := by
  unfold f_X0_meetTub_187
  rw [show (1 : Int32) = nI 1 from rfl, nI_add]
theorem meet167 {k : Nat} {t n : Nat} {T : Int32 → Int32 → Mem → Option Mem} {x6 x7 : Int32} {i : Nat} {M : Mem} (ht : t < 4) : f_X0_meetTub_167 k (nI t) (nI n) T (nI i) x6 x7 M = T x6 (nI (i + 1)) (up (up M 45 t (nI i)) 46 t x7) := by
  unfold f_X0_meetTub_167
  rw [inb_ok ht (by omega), nI_clamp (by omega)]
  simp only [lm]
  rw [inb_ok ht (by omega), meet187]
theorem meetTub_ok {M : Mem} {k t n : Nat} {S : Sv} (hC : RepC M k S) (hk : k + 4 < 41) (hW : WF S) (ht : t < S 0 0) (hn : n ≤ 24) (hs : SlC M t (sailS S t n)) : ∃ M1, f_X0_meetTub k (nI t) (nI n) M = some M1 ∧ Fr (Day2 t) M M1 ∧ DayC M1 t S n := by
  have t4 : t < 4 := Nat.lt_of_lt_of_le ht hW.1
  have hH := hW.2.1
  have f0 : Fr (Day2 t) M (up (up M 45 t (-4)) 46 t (-4)) := (Fr.rfl'.up (by unfold Day2; omega)).up (by unfold Day2; omega)
  have hok := sail_ok hW ht n
  unfold f_X0_meetTub
  rw [inb_ok t4 (by omega), nI_clamp (by omega)]
  simp only [lm]
  rw [inb_ok t4 (by omega), rd_ok t4 (by omega), up_cell (by omega), up_cell (by omega), hs.2.2.1]
  have c4 : (sailS S t n).2.2.1 < 4 := by rcases hok with ⟨a, -⟩ | ⟨a, -⟩ | ⟨a, -⟩ <;> omega
  by_cases z : (sailS S t n).2.2.1 = 2
  · rw [if_pos ((nI_lit 2 (by omega) (by omega)).mpr z)]
    obtain ⟨o, o1, o2, m1, m2⟩ := meet_is hW ht z
    have hx : 0 ≤ (sailS S t n).1 ∧ (sailS S t n).1 ≤ 9 := by
      rcases hok with ⟨a, -⟩ | ⟨-, a, -⟩ | ⟨a, -⟩
      · omega
      · exact a
      · omega
    generalize hF : foldC (ES S (sailS S t n).1 o n) (mS S o) (dS S (sailS S t n).1) = F at m1 m2
    have go : ∀ f i M0, i ≤ S 0 1 → S 0 1 - i < f → Fr (Day2 t) M M0 → M0 45 t = iI (F i).1 → M0 46 t = iI (F i).2.1 → ∃ M1, f_X0_meetTub_33 k (nI t) (nI n) f (iI (F i).2.2) (nI i) M0 = some M1 ∧ Fr (Day2 t) M M1 ∧ M1 45 t = iI (F (S 0 1)).1 ∧ M1 46 t = iI (F (S 0 1)).2.1 := by
      intro f
      induction f with
      | zero => intro i _ _ h; omega
      | succ f ih =>
        intro i M0 hi hf hfr g1 g2
        have hC0 := hC.fr hfr (Day2.k hk)
        unfold f_X0_meetTub_33
        rw [hC0.2.1]
        by_cases q : i = S 0 1
        · subst q
          rw [if_pos ((nI_leN (by omega) (by omega)).mpr (by omega))]
          exact ⟨M0, rfl, hfr, g1, g2⟩
        · have hi' : i < S 0 1 := by omega
          have wi := hW.2.2.2.2.1 i hi'
          have b := foldC_best (ES S (sailS S t n).1 o n) (mS S o) (dS S (sailS S t n).1) i
          rw [hF] at b
          have e : F (i + 1) = (if ES S (sailS S t n).1 o n i ∧ ((F i).1 = -4 ∨ mS S o i < (F i).2.1 ∨ (mS S o i = (F i).2.1 ∧ dS S (sailS S t n).1 i < (F i).2.2)) then ((i : Int), mS S o i, dS S (sailS S t n).1 i) else F i) := by
            rw [← hF]
            rfl
          -- the fold's numbers are small
          have hb : (-4 ≤ (F i).1 ∧ (F i).1 ≤ 4) ∧ (-4 ≤ (F i).2.1 ∧ (F i).2.1 ≤ 24) ∧ ((F i).1 ≠ -4 → 0 ≤ (F i).2.2 ∧ (F i).2.2 ≤ 9) := by
            rcases b with ⟨b1, b2, -⟩ | ⟨y, b1, b2, b3, b4, b5, -⟩
            · exact ⟨by omega, by omega, fun y => absurd b1 y⟩
            · have wy := hW.2.2.2.2.1 y (by omega)
              obtain ⟨e1, e2, e3⟩ := b5
              refine ⟨by omega, ?_, fun _ => ?_⟩
              · rw [b3]
                constructor
                · have : (0 : Int) ≤ mS S o y := by unfold mS; omega
                  omega
                · omega
              · rw [b4]
                constructor
                · unfold dS; omega
                · omega
          clear b
          rw [if_neg (fun z => q (by have := (nI_leN (by omega) (by omega)).mp z; omega)), rd_ok t4 (by omega), hfr 41 t (by unfold Day2; omega), hs.1, show (0 : Int32) = nI 0 from rfl, show (1 : Int32) = nI 1 from rfl, show (2 : Int32) = nI 2 from rfl, show (3 : Int32) = nI 3 from rfl, ofHeirC hC0 hH hi' (by omega), ofHeirC hC0 hH hi' (by omega), ofHeirC hC0 hH hi' (by omega), ofHeirC hC0 hH hi' (by omega)]
          simp only [Option.bind_some, li, Nat.add_zero]
          rw [rd_ok t4 (by omega), hfr 44 t (by unfold Day2; omega), hs.2.2.2, o1, ← iI_nI (S 2 (4 * i)), iI_sub, show nI 0 = iI 0 from rfl, iI_sub]
          have ed : (if iI 0 ≤ iI ((sailS S t n).1 - (S 2 (4 * i) : Int)) then iI ((sailS S t n).1 - (S 2 (4 * i) : Int)) else iI (0 - ((sailS S t n).1 - (S 2 (4 * i) : Int)))) = iI (dS S (sailS S t n).1 i) := by
            unfold dS
            by_cases w : 0 ≤ (sailS S t n).1 - (S 2 (4 * i) : Int)
            · rw [if_pos ((iI_le (by omega) (by omega)).mpr w)]
              congr 1
              omega
            · rw [if_neg (fun y => w ((iI_le (by omega) (by omega)).mp y))]
              congr 1
              omega
          have em : (if iI (o : Int) < nI (S 2 (4 * i + 1)) then nI (S 2 (4 * i + 1)) else iI (o : Int)) = iI (mS S o i) := by
            unfold mS
            rw [← iI_nI]
            by_cases w : (o : Int) < (S 2 (4 * i + 1) : Int)
            · rw [if_pos ((iI_lt (by omega) (by omega)).mpr w)]
              congr 1
              omega
            · rw [if_neg (fun y => w ((iI_lt (by omega) (by omega)).mp y))]
              congr 1
              omega
          have bd : 0 ≤ dS S (sailS S t n).1 i ∧ dS S (sailS S t n).1 i < 100 := by unfold dS; omega
          have bm : 0 ≤ mS S o i ∧ mS S o i < 100 := by unfold mS; omega
          rw [ed, em, ← iI_nI (S 2 (4 * i + 3)), ← iI_nI (S 2 (4 * i + 2)), ← iI_nI n]
          have skip : ¬ (ES S (sailS S t n).1 o n i ∧ ((F i).1 = -4 ∨ mS S o i < (F i).2.1 ∨ (mS S o i = (F i).2.1 ∧ dS S (sailS S t n).1 i < (F i).2.2))) → ∃ M1, f_X0_meetTub_33 k (nI t) (nI n) f (iI (F i).2.2) (nI (i + 1)) M0 = some M1 ∧ Fr (Day2 t) M M1 ∧ M1 45 t = iI (F (S 0 1)).1 ∧ M1 46 t = iI (F (S 0 1)).2.1 := by
            intro hno
            rw [if_neg hno] at e
            have r := ih (i + 1) M0 (by omega) (by omega) hfr (by rw [e]; exact g1) (by rw [e]; exact g2)
            rw [e] at r
            exact r
          have take : (ES S (sailS S t n).1 o n i ∧ ((F i).1 = -4 ∨ mS S o i < (F i).2.1 ∨ (mS S o i = (F i).2.1 ∧ dS S (sailS S t n).1 i < (F i).2.2))) → ∃ M1, f_X0_meetTub_33 k (nI t) (nI n) f (iI (dS S (sailS S t n).1 i)) (nI (i + 1)) (up (up M0 45 t (nI i)) 46 t (iI (mS S o i))) = some M1 ∧ Fr (Day2 t) M M1 ∧ M1 45 t = iI (F (S 0 1)).1 ∧ M1 46 t = iI (F (S 0 1)).2.1 := by
            intro hyes
            rw [if_pos hyes] at e
            have r := ih (i + 1) (up (up M0 45 t (nI i)) 46 t (iI (mS S o i))) (by omega) (by omega) ((hfr.up (by unfold Day2; omega)).up (by unfold Day2; omega)) (by rw [e, up_cell (by omega), up_same, iI_nI]) (by rw [e, up_same])
            rw [e] at r
            exact r
          rw [iI_nI n]
          by_cases w1 : (S 2 (4 * i + 3) : Int) < dS S (sailS S t n).1 i
          · rw [if_pos ((iI_lt (by omega) (by omega)).mpr w1), meet187]
            exact skip (fun y => by have := y.1.1; omega)
          · rw [if_neg (fun y => w1 ((iI_lt (by omega) (by omega)).mp y))]
            by_cases w2 : (S 2 (4 * i + 2) : Int) < mS S o i
            · rw [if_pos ((iI_lt (by omega) (by omega)).mpr w2), meet187]
              exact skip (fun y => by have := y.1.2.1; omega)
            · rw [if_neg (fun y => w2 ((iI_lt (by omega) (by omega)).mp y)), ← iI_nI n]
              by_cases w3 : mS S o i < (n : Int)
              · have hES : ES S (sailS S t n).1 o n i := ⟨by omega, by omega, w3⟩
                rw [if_pos ((iI_lt (by omega) (by omega)).mpr w3), iI_nI n, rd_ok t4 (by omega), g1, rd_ok t4 (by omega), g2]
                unfold f_X0_meetTub_134 f_X0_meetTub_139
                rw [meet167 t4, if_neg (show ¬ ((1 : Int32) = 0) by decide), show (-4 : Int32) = iI (-4) from rfl]
                by_cases w4 : (F i).1 = -4
                · rw [if_pos ((iI_eq (by omega) (by omega)).mpr w4)]
                  exact take ⟨hES, Or.inl w4⟩
                · rw [if_neg (fun y => w4 ((iI_eq (by omega) (by omega)).mp y))]
                  by_cases w5 : (F i).2.1 ≤ mS S o i
                  · rw [if_pos ((iI_le (by omega) (by omega)).mpr w5), if_pos (show iI 0 = 0 from rfl), rd_ok t4 (by omega), g2]
                    by_cases w6 : (F i).2.1 < mS S o i
                    · rw [if_pos ((iI_lt (by omega) (by omega)).mpr w6), meet187]
                      exact skip (fun y => by omega)
                    · rw [if_neg (fun y => w6 ((iI_lt (by omega) (by omega)).mp y))]
                      have bn := hb.2.2 w4
                      by_cases w7 : dS S (sailS S t n).1 i < (F i).2.2
                      · rw [if_pos ((iI_lt (by omega) (by omega)).mpr w7)]
                        exact take ⟨hES, by omega⟩
                      · rw [if_neg (fun y => w7 ((iI_lt (by omega) (by omega)).mp y)), meet187]
                        exact skip (fun y => by omega)
                  · rw [if_neg (fun y => w5 ((iI_le (by omega) (by omega)).mp y))]
                    exact take ⟨hES, by omega⟩
              · rw [if_neg (fun y => w3 ((iI_lt (by omega) (by omega)).mp y)), iI_nI n, meet187]
                exact skip (fun y => by have := y.1.2.2; omega)
    have hF0 : F 0 = (-4, -4, 0) := by rw [← hF]; rfl
    obtain ⟨M1, r1, r2, r3, r4⟩ := go FU 0 (up (up M 45 t (-4)) 46 t (-4)) (by omega) (FU_gt (by omega)) f0 (by rw [hF0, up_cell (by omega), up_same]; rfl) (by rw [hF0, up_same]; rfl)
    rw [hF0] at r1
    refine ⟨M1, r1, r2, ⟨?_, ?_, ?_, ?_⟩, by rw [r3, m1], by rw [r4, m2]⟩
    · rw [r2 41 t (by unfold Day2; omega), hs.1]
    · rw [r2 42 t (by unfold Day2; omega), hs.2.1]
    · rw [r2 43 t (by unfold Day2; omega), hs.2.2.1]
    · rw [r2 44 t (by unfold Day2; omega), hs.2.2.2]
  · rw [if_neg (fun y => z ((nI_lit 2 (by omega) (by omega)).mp y))]
    refine ⟨_, rfl, f0, ⟨?_, ?_, ?_, ?_⟩, ?_, ?_⟩
    · rw [f0 41 t (by unfold Day2; omega), hs.1]
    · rw [f0 42 t (by unfold Day2; omega), hs.2.1]
    · rw [f0 43 t (by unfold Day2; omega), hs.2.2.1]
    · rw [f0 44 t (by unfold Day2; omega), hs.2.2.2]
    · rw [hook_none hW ht z, up_cell (by omega), up_same]; rfl
    · rw [hook_none hW ht z, up_same]; rfl
theorem runTub_ok {M : Mem} {k t n : Nat} {S : Sv} (hC : RepC M k S) (hk : k + 4 < 41) (hW : WF S) (ht : t < S 0 0) (hn : n ≤ 24) : ∃ M1, f_X0_runTub k (nI t) (nI n) M = some M1 ∧ Fr (Day6 t) M M1 ∧ DayC M1 t S n := by
  obtain ⟨M1, a1, a2, a3⟩ := sailTub_ok hC hk hW ht hn
  obtain ⟨M2, b1, b2, b3⟩ := meetTub_ok (hC.fr a2 (Day4.k hk)) hk hW ht hn a3
  refine ⟨M2, ?_, (a2.mono (fun c j q => by unfold Day4 at q; unfold Day6; omega)).trans (b2.mono (fun c j q => by unfold Day2 at q; unfold Day6; omega)), b3⟩
  unfold f_X0_runTub
  rw [a1]
  simp only [Option.bind_some]
  rw [b1]
  rfl
