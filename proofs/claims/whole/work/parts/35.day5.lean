def wayM (S : Sv) (t a b : Nat) : Nat := if (hookS S t b).1 = -4 then (sailS S t a).2.2.1 else 1
def MidM (M : Mem) (S : Sv) (t a b : Nat) : Prop := (M 61 t = iI (sailS S t a).1 ∧ M 62 t = iI (sailS S t a).2.1) ∧ M 63 t = nI (wayM S t a b) ∧ M 64 t = iI (sailS S t a).2.2.2 ∧ M 65 t = iI (hookS S t b).1 ∧ M 66 t = iI (hookS S t b).2
theorem MidM.fr {M M1 : Mem} {S : Sv} {t a b i : Nat} {X : Nat → Nat → Prop} (h : MidM M S t a b) (hf : Fr X M M1) (hx : ∀ c, ¬ X c t) : MidM M1 S t a b := by
  obtain ⟨⟨h1, h2⟩, h3, h4, h5, h6⟩ := h
  exact ⟨⟨by rw [hf _ _ (hx _), h1], by rw [hf _ _ (hx _), h2]⟩, by rw [hf _ _ (hx _), h3], by rw [hf _ _ (hx _), h4], by rw [hf _ _ (hx _), h5], by rw [hf _ _ (hx _), h6]⟩
theorem hook_c {S : Sv} (hW : WF S) {t n : Nat} (ht : t < S 0 0) (h : (hookS S t n).1 ≠ -4) : (sailS S t n).2.2.1 = 2 := by
  apply Classical.byContradiction
  intro q
  rw [hook_none hW ht q] at h
  exact h rfl
theorem wayM_lt {S : Sv} (hW : WF S) {t : Nat} (ht : t < S 0 0) (a b : Nat) : wayM S t a b < 4 := by
  unfold wayM
  have := sail_ok hW ht a
  split
  · rcases this with ⟨q, -⟩ | ⟨q, -⟩ | ⟨q, -⟩ <;> omega
  · omega
theorem sail_step {S : Sv} {t n : Nat} (h : ¬ ((sailS S t n).2.2.1 = 0 ∧ S 1 (5 * t + 3) ≤ n)) : sailS S t (n + 1) = sailS S t n := if_neg h
theorem hook_step {S : Sv} {t n : Nat} (h : ¬ ((sailS S t (n + 1)).2.2.1 = 2 ∧ (hookS S t n).1 = -4)) : hookS S t (n + 1) = hookS S t n := if_neg h
theorem day151 {p n : Nat} {T : Int32 → Int32 → Int32 → Mem → Option Mem} {a b : Int32} {i : Nat} {M : Mem} : f_X6_dayGoes_151 (nI p) (nI n) T a b (nI i) M = T a b (nI (i + 1)) M := by
  unfold f_X6_dayGoes_151
  rw [show (1 : Int32) = nI 1 from rfl, nI_add]
theorem day186 {p n : Nat} {T : Int32 → Int32 → Int32 → Mem → Option Mem} {a b : Int32} {i : Nat} {M : Mem} : f_X6_dayGoes_186 (nI p) (nI n) T a b (nI i) M = T a b (nI (i + 1)) M := by
  unfold f_X6_dayGoes_186
  rw [show (1 : Int32) = nI 1 from rfl, nI_add]
theorem day109 {p n h : Nat} {S : Sv} (hp : p + 72 ≤ 360) (hW : WF S) (hh : h < 24) (K : Int32 → Int32 → Mem → Option Mem) : ∀ f i M0, i ≤ S 0 0 → S 0 0 - i < f → RepE M0 p S → (∀ j, j < i → MidM M0 S j (h + 1) h) → (∀ j, i ≤ j → j < S 0 0 → MidM M0 S j h h) → ∃ M1, f_X6_dayGoes_109 (nI p) (nI n) K f (nI (S 0 0)) (nI h) (nI i) M0 = f_X6_dayGoes_157 (nI p) (nI n) K (nI (S 0 0)) (nI h) M1 ∧ Fr MD M0 M1 ∧ ∀ j, j < S 0 0 → MidM M1 S j (h + 1) h := by
  intro f
  have hT := hW.1
  induction f with
  | zero => intro i _ _ h; omega
  | succ f ih =>
    intro i M0 hi hf hE h1 h2
    unfold f_X6_dayGoes_109
    by_cases q : i = S 0 0
    · subst q
      rw [if_pos ((nI_leN (by omega) (by omega)).mpr (by omega))]
      exact ⟨M0, rfl, Fr.rfl', h1⟩
    · have hi' : i < S 0 0 := by omega
      have mi := h2 i (Nat.le_refl _) hi'
      have wl := wayM_lt hW hi' h h
      have wi := hW.2.2.2.1 i hi'
      rw [if_neg (fun z => q (by have := (nI_leN (by omega) (by omega)).mp z; omega)), rd_ok (by omega) (by omega), mi.2.1, day151]
      have skip : sailS S i (h + 1) = sailS S i h → ∃ M1, f_X6_dayGoes_109 (nI p) (nI n) K f (nI (S 0 0)) (nI h) (nI (i + 1)) M0 = f_X6_dayGoes_157 (nI p) (nI n) K (nI (S 0 0)) (nI h) M1 ∧ Fr MD M0 M1 ∧ ∀ j, j < S 0 0 → MidM M1 S j (h + 1) h := by
        intro e
        refine ih (i + 1) M0 (by omega) (by omega) hE (fun j hj => ?_) (fun j hj hj2 => h2 j (by omega) hj2)
        by_cases qj : j = i
        · subst qj
          unfold MidM wayM
          rw [e]
          exact mi
        · exact h1 j (by omega)
      by_cases w : wayM S i h h = 0
      · have hk : (hookS S i h).1 = -4 := by
          unfold wayM at w
          split at w
          · assumption
          · omega
        have hc : (sailS S i h).2.2.1 = 0 := by
          unfold wayM at w
          rw [if_pos hk] at w
          exact w
        have r3 := hE.2.2.2.1 i 3 hi' (by omega)
        rw [show p + 4 * 3 + i = p + 12 + i by omega] at r3
        rw [if_pos ((nI_lit 0 (by omega) (by omega)).mpr w), show (12 : Int32) = nI 12 from rfl, nI_add, nI_add, rd_ok (by omega) (by omega), r3]
        by_cases c : h < S 1 (5 * i + 3)
        · rw [if_pos ((nI_ltN (by omega) (by omega)).mpr c)]
          exact skip (sail_step (by omega))
        · rw [if_neg (fun z => c ((nI_ltN (by omega) (by omega)).mp z))]
          have hA : Afl (sailS S i h) := by
            rcases sail_ok hW hi' h with ⟨-, a⟩ | ⟨a, -⟩ | ⟨a, -⟩
            · exact a
            · omega
            · omega
          have s4 : Sl4 M0 i (sailS S i h) := ⟨mi.1.1, mi.1.2, by rw [mi.2.1, w, hc], mi.2.2.1⟩
          obtain ⟨M1, a1, a2, a3⟩ := drift_ok hE hp hW hi' hh s4 hA
          have e : sailS S i (h + 1) = hourS S i h (sailS S i h) := if_pos ⟨hc, by omega⟩
          rw [a1]
          simp only [Option.bind_some]
          rw [day151]
          have aMD : Fr MD M0 M1 := a2.mono (fun c j z => by unfold MD4 at z; unfold MD; omega)
          obtain ⟨M2, b1, b2, b3⟩ := ih (i + 1) M1 (by omega) (by omega) (hE.fr aMD) (fun j hj => by
            by_cases qj : j = i
            · subst qj
              refine ⟨⟨?_, ?_⟩, ?_, ?_, ?_, ?_⟩
              · rw [e]; exact a3.1
              · rw [e]; exact a3.2.1
              · unfold wayM; rw [if_pos hk, e]; exact a3.2.2.1
              · rw [e]; exact a3.2.2.2
              · rw [a2 65 j (by unfold MD4; omega)]; exact mi.2.2.2.1
              · rw [a2 66 j (by unfold MD4; omega)]; exact mi.2.2.2.2
            · exact (h1 j (by omega)).fr (i := i) a2 (fun c => by unfold MD4; omega)) (fun j hj hj2 => (h2 j (by omega) hj2).fr (i := i) a2 (fun c => by unfold MD4; omega))
          exact ⟨M2, b1, aMD.trans b2, b3⟩
      · rw [if_neg (fun z => w ((nI_lit 0 (by omega) (by omega)).mp z))]
        refine skip (sail_step (fun z => ?_))
        by_cases hk : (hookS S i h).1 = -4
        · unfold wayM at w
          rw [if_pos hk] at w
          exact w z.1
        · have := hook_c hW hi' hk
          omega
theorem day160 {p n h : Nat} {S : Sv} (hp : p + 72 ≤ 360) (hW : WF S) (hh : h < 24) (K : Int32 → Int32 → Mem → Option Mem) : ∀ f i M0, i ≤ S 0 0 → S 0 0 - i < f → RepE M0 p S → (∀ j, j < i → MidM M0 S j (h + 1) (h + 1)) → (∀ j, i ≤ j → j < S 0 0 → MidM M0 S j (h + 1) h) → ∃ M1, f_X6_dayGoes_160 (nI p) (nI n) K f (nI (S 0 0)) (nI h) (nI i) M0 = K (nI (S 0 0)) (nI (h + 1)) M1 ∧ Fr MD M0 M1 ∧ ∀ j, j < S 0 0 → MidM M1 S j (h + 1) (h + 1) := by
  intro f
  have hT := hW.1
  induction f with
  | zero => intro i _ _ h; omega
  | succ f ih =>
    intro i M0 hi hf hE h1 h2
    unfold f_X6_dayGoes_160
    by_cases q : i = S 0 0
    · subst q
      rw [if_pos ((nI_leN (by omega) (by omega)).mpr (by omega))]
      refine ⟨M0, ?_, Fr.rfl', h1⟩
      unfold f_X6_dayGoes_192
      rw [show (1 : Int32) = nI 1 from rfl, nI_add]
    · have hi' : i < S 0 0 := by omega
      have mi := h2 i (Nat.le_refl _) hi'
      have wl := wayM_lt hW hi' (h + 1) h
      rw [if_neg (fun z => q (by have := (nI_leN (by omega) (by omega)).mp z; omega)), rd_ok (by omega) (by omega), mi.2.1, day186]
      have skip : hookS S i (h + 1) = hookS S i h → ∃ M1, f_X6_dayGoes_160 (nI p) (nI n) K f (nI (S 0 0)) (nI h) (nI (i + 1)) M0 = K (nI (S 0 0)) (nI (h + 1)) M1 ∧ Fr MD M0 M1 ∧ ∀ j, j < S 0 0 → MidM M1 S j (h + 1) (h + 1) := by
        intro e
        refine ih (i + 1) M0 (by omega) (by omega) hE (fun j hj => ?_) (fun j hj hj2 => h2 j (by omega) hj2)
        by_cases qj : j = i
        · subst qj
          unfold MidM wayM
          rw [e]
          exact mi
        · exact h1 j (by omega)
      by_cases w : wayM S i (h + 1) h = 2
      · have hk : (hookS S i h).1 = -4 := by
          unfold wayM at w
          split at w
          · assumption
          · omega
        have hc : (sailS S i (h + 1)).2.2.1 = 2 := by
          unfold wayM at w
          rw [if_pos hk] at w
          exact w
        have e : hookS S i (h + 1) = ((nearS S (sailS S i (h + 1)).1 h).1, if (nearS S (sailS S i (h + 1)).1 h).1 = -4 then -4 else (h : Int)) := if_pos ⟨hc, hk⟩
        have hx : 0 ≤ (sailS S i (h + 1)).1 ∧ (sailS S i (h + 1)).1 ≤ 9 := by
          rcases sail_ok hW hi' (h + 1) with ⟨a, -⟩ | ⟨-, a, -⟩ | ⟨a, -⟩
          · omega
          · exact a
          · omega
        rw [if_pos ((nI_lit 2 (by omega) (by omega)).mpr w), hooks_ok hE hp hW (by omega) hh hx.1 hx.2 mi.1.1]
        simp only [Option.bind_some]
        rw [day186]
        by_cases z : (nearS S (sailS S i (h + 1)).1 h).1 = -4
        · rw [if_pos z]
          refine skip ?_
          rw [e, z, if_pos rfl]
          rcases hook_rng hW (t := i) h with ⟨a, b⟩ | ⟨y, y2, -, -, a, b⟩
          · exact Prod.ext a.symm b.symm
          · omega
        · rw [if_neg z]
          rw [if_neg z] at e
          generalize (nearS S (sailS S i (h + 1)).1 h).1 = B at *
          have a2 : Fr (fun c j => 63 ≤ c ∧ c ≤ 66 ∧ j = i) M0 (up (up (up M0 63 i 1) 65 i (iI B)) 66 i (nI h)) := ((Fr.rfl'.up (by omega)).up (by omega)).up (by omega)
          have aMD : Fr MD M0 (up (up (up M0 63 i 1) 65 i (iI B)) 66 i (nI h)) := a2.mono (fun c j z => by unfold MD; omega)
          obtain ⟨M2, b1, b2, b3⟩ := ih (i + 1) _ (by omega) (by omega) (hE.fr aMD) (fun j hj => by
            by_cases qj : j = i
            · subst qj
              refine ⟨⟨?_, ?_⟩, ?_, ?_, ?_, ?_⟩
              · rw [up_cell (by omega), up_cell (by omega), up_cell (by omega)]; exact mi.1.1
              · rw [up_cell (by omega), up_cell (by omega), up_cell (by omega)]; exact mi.1.2
              · rw [up_cell (by omega), up_cell (by omega), up_same]
                unfold wayM
                rw [e, if_neg z]
                rfl
              · rw [up_cell (by omega), up_cell (by omega), up_cell (by omega)]; exact mi.2.2.1
              · rw [up_cell (by omega), up_same, e]
              · rw [up_same, e, iI_nI]
            · exact (h1 j (by omega)).fr (i := i) a2 (fun c => by omega)) (fun j hj hj2 => (h2 j (by omega) hj2).fr (i := i) a2 (fun c => by omega))
          exact ⟨M2, b1, aMD.trans b2, b3⟩
      · rw [if_neg (fun z => w ((nI_lit 2 (by omega) (by omega)).mp z))]
        refine skip (hook_step (fun z => w ?_))
        unfold wayM
        rw [if_pos z.2]
        exact z.1
theorem day_ok {M : Mem} {p n : Nat} {S : Sv} (hE : RepE M p S) (hp : p + 72 ≤ 360) (hW : WF S) (hn : n ≤ 24) : ∃ M1, f_X6_dayGoes (nI p) (nI n) M = some M1 ∧ Fr MD M M1 ∧ ∀ t, t < S 0 0 → MidM M1 S t n n := by
  have hT := hW.1
  have hours : ∀ f h M0, h ≤ n → n - h < f → RepE M0 p S → (∀ t, t < S 0 0 → MidM M0 S t h h) → ∃ M1, f_X6_dayGoes_100 (nI p) (nI n) f (nI (S 0 0)) (nI h) M0 = some M1 ∧ Fr MD M0 M1 ∧ ∀ t, t < S 0 0 → MidM M1 S t n n := by
    intro f
    induction f with
    | zero => intro i _ _ h; omega
    | succ f ih =>
      intro h M0 hi hf hE0 hm
      unfold f_X6_dayGoes_100
      by_cases q : h = n
      · subst q
        rw [if_pos ((nI_leN (by omega) (by omega)).mpr (by omega))]
        exact ⟨M0, rfl, Fr.rfl', hm⟩
      · rw [if_neg (fun z => q (by have := (nI_leN (by omega) (by omega)).mp z; omega))]
        obtain ⟨M1, a1, a2, a3⟩ := day109 (n := n) hp hW (show h < 24 by omega) (f_X6_dayGoes_100 (nI p) (nI n) f) FU 0 M0 (by omega) (FU_gt (by omega)) hE0 (fun j hj => by omega) (fun j _ hj => hm j hj)
        rw [show (0 : Int32) = nI 0 from rfl, a1]
        unfold f_X6_dayGoes_157
        obtain ⟨M2, b1, b2, b3⟩ := day160 (n := n) hp hW (show h < 24 by omega) (f_X6_dayGoes_100 (nI p) (nI n) f) FU 0 M1 (by omega) (FU_gt (by omega)) (hE0.fr a2) (fun j hj => by omega) (fun j _ hj => a3 j hj)
        rw [show (0 : Int32) = nI 0 from rfl, b1]
        obtain ⟨M3, c1, c2, c3⟩ := ih (h + 1) M2 (by omega) (by omega) ((hE0.fr a2).fr b2) b3
        exact ⟨M3, c1, (a2.trans b2).trans c2, c3⟩
  have inits : ∀ f i M0, i ≤ S 0 0 → S 0 0 - i < f → Fr MD M M0 → (∀ t, t < i → MidM M0 S t 0 0) → ∃ M1, f_X6_dayGoes_13 (nI p) (nI n) f (nI (S 0 0)) (nI i) M0 = some M1 ∧ Fr MD M M1 ∧ ∀ t, t < S 0 0 → MidM M1 S t n n := by
    intro f
    induction f with
    | zero => intro i _ _ h; omega
    | succ f ih =>
      intro i M0 hi hf hfr hm
      unfold f_X6_dayGoes_13
      have hE0 := hE.fr hfr
      by_cases q : i = S 0 0
      · subst q
        rw [if_pos ((nI_leN (by omega) (by omega)).mpr (by omega))]
        unfold f_X6_dayGoes_97
        obtain ⟨M1, a1, a2, a3⟩ := hours FU 0 M0 (by omega) (FU_gt (by omega)) hE0 hm
        exact ⟨M1, a1, hfr.trans a2, a3⟩
      · have hi' : i < S 0 0 := by omega
        have r1 := hE0.2.2.2.1 i 1 hi' (by omega)
        have r2 := hE0.2.2.2.1 i 2 hi' (by omega)
        rw [show p + 4 * 1 + i = p + 4 + i by omega] at r1
        rw [show p + 4 * 2 + i = p + 8 + i by omega] at r2
        rw [if_neg (fun z => q (by have := (nI_leN (by omega) (by omega)).mp z; omega)), show (4 : Int32) = nI 4 from rfl, show (8 : Int32) = nI 8 from rfl, nI_add, nI_add, nI_add, nI_add, rd_ok (by omega) (by omega), r1, inb_ok (by omega) (by omega), nI_clamp (by omega)]
        simp only [lm]
        rw [rd_ok (by omega) (by omega), up_cell (show (55 : Nat) ≠ 61 by omega), r2, inb_ok (by omega) (by omega), inb_ok (by omega) (by omega), inb_ok (by omega) (by omega), inb_ok (by omega) (by omega), inb_ok (by omega) (by omega), show (1 : Int32) = nI 1 from rfl, nI_add]
        have a2 : Fr (fun c j => 61 ≤ c ∧ c ≤ 66 ∧ j = i) M0 (up (up (up (up (up (up M0 61 i (nI (S 1 (5 * i + 1)))) 62 i (nI (S 1 (5 * i + 2)))) 63 i 0) 64 i (-nI 4)) 65 i (-nI 4)) 66 i (-nI 4)) := (((((Fr.rfl'.up (by omega)).up (by omega)).up (by omega)).up (by omega)).up (by omega)).up (by omega)
        refine ih (i + 1) _ (by omega) (by omega) (hfr.trans (a2.mono (fun c j z => by unfold MD; omega))) (fun j hj => ?_)
        by_cases qj : j = i
        · subst qj
          refine ⟨⟨?_, ?_⟩, ?_, ?_, ?_, ?_⟩
          · rw [up_cell (by omega), up_cell (by omega), up_cell (by omega), up_cell (by omega), up_cell (by omega), up_same]; exact (iI_nI _).symm
          · rw [up_cell (by omega), up_cell (by omega), up_cell (by omega), up_cell (by omega), up_same]; exact (iI_nI _).symm
          · rw [up_cell (by omega), up_cell (by omega), up_cell (by omega), up_same]; rfl
          · rw [up_cell (by omega), up_cell (by omega), up_same]; rfl
          · rw [up_cell (by omega), up_same]; rfl
          · rw [up_same]; rfl
        · exact (hm j (by omega)).fr (i := i) a2 (fun c => by omega)
  unfold f_X6_dayGoes
  rw [show (20 : Int32) = nI 20 from rfl, nI_add, rd_ok (by omega) (by omega), hE.1]
  exact inits FU 0 M (by omega) (FU_gt (by omega)) Fr.rfl' (fun t ht => by omega)
