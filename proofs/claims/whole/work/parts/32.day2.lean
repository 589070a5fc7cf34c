theorem FU_succ : ∃ m, FU = m + 1 := ⟨FU - 1, by have := FU_gt (show 0 < 4096 by omega); omega⟩
theorem Day4.k {t k : Nat} (hk : k + 4 < 41) : ∀ c j, k ≤ c → c ≤ k + 4 → ¬ Day4 t c j := fun c j a b => by unfold Day4; omega
theorem Day6.k {t k : Nat} (hk : k + 4 < 41) : ∀ c j, k ≤ c → c ≤ k + 4 → ¬ Day6 t c j := fun c j a b => by unfold Day6; omega
theorem sailTub_ok {M : Mem} {k t n : Nat} {S : Sv} (hC : RepC M k S) (hk : k + 4 < 41) (hW : WF S) (ht : t < S 0 0) (hn : n ≤ 24) : ∃ M1, f_X0_sailTub k (nI t) (nI n) M = some M1 ∧ Fr (Day4 t) M M1 ∧ SlC M1 t (sailS S t n) := by
  have t4 : t < 4 := Nat.lt_of_lt_of_le ht hW.1
  have hT := hW.2.2.2.1 t ht
  have go : ∀ f i M0, S 1 (5 * t + 3) ≤ i → i ≤ n → n - i < f → Fr (Day4 t) M M0 → SlC M0 t (sailS S t i) → ∃ M1, f_X0_sailTub_47 k (nI t) (nI n) f (nI i) M0 = some M1 ∧ Fr (Day4 t) M M1 ∧ SlC M1 t (sailS S t n) := by
    intro f
    induction f with
    | zero => intro i _ _ _ h; omega
    | succ f ih =>
      intro i M0 hc hi hf hfr hs
      unfold f_X0_sailTub_47
      by_cases q : i = n
      · subst q
        rw [if_pos ((nI_leN (by omega) (by omega)).mpr (by omega))]
        exact ⟨M0, rfl, hfr, hs⟩
      · rw [if_neg (fun z => q (by have := (nI_leN (by omega) (by omega)).mp z; omega)), rd_ok t4 (by omega), hs.2.2.1]
        have hok := sail_ok hW ht i
        have c4 : (sailS S t i).2.2.1 < 4 := by rcases hok with ⟨a, -⟩ | ⟨a, -⟩ | ⟨a, -⟩ <;> omega
        by_cases z : (sailS S t i).2.2.1 = 0
        · rw [if_pos ((nI_lit 0 (by omega) (by omega)).mpr z)]
          have hA : Afl (sailS S t i) := by
            rcases hok with ⟨-, a⟩ | ⟨a, -⟩ | ⟨a, -⟩
            · exact a
            · omega
            · omega
          obtain ⟨M1, r1, r2, r3⟩ := sailHour_ok (hC.fr hfr (Day4.k hk)) hk hW ht (show i < 24 by omega) hs hA
          rw [r1]
          simp only [Option.bind_some]
          rw [show (1 : Int32) = nI 1 from rfl, nI_add]
          have e : sailS S t (i + 1) = hourS S t i (sailS S t i) := by
            show (if (sailS S t i).2.2.1 = 0 ∧ S 1 (5 * t + 3) ≤ i then _ else _) = _
            rw [if_pos ⟨z, hc⟩]
          rw [← e] at r3
          exact ih (i + 1) M1 (by omega) (by omega) (by omega) (hfr.trans r2) r3
        · rw [if_neg (fun y => z ((nI_lit 0 (by omega) (by omega)).mp y))]
          refine ⟨M0, rfl, hfr, ?_⟩
          have := sail_stop z (n - i)
          rw [show i + (n - i) = n by omega] at this
          rw [this]
          exact hs
  unfold f_X0_sailTub
  rw [show (1 : Int32) = nI 1 from rfl, ofTubC hC hW.1 ht (by omega)]
  simp only [Option.bind_some]
  rw [inb_ok t4 (by omega), nI_clamp (by omega)]
  simp only [lm]
  have f1 : Fr (Day4 t) M (up M 41 t (nI (S 1 (5 * t + 1)))) := Fr.rfl'.up (by unfold Day4; omega)
  rw [show (2 : Int32) = nI 2 from rfl, ofTubC (hC.fr f1 (Day4.k hk)) hW.1 ht (by omega)]
  simp only [Option.bind_some]
  rw [inb_ok t4 (by omega), inb_ok t4 (by omega), inb_ok t4 (by omega)]
  have f2 : Fr (Day4 t) M (up (up (up (up M 41 t (nI (S 1 (5 * t + 1)))) 42 t (nI (S 1 (5 * t + 2)))) 43 t 0) 44 t (-4)) := ((f1.up (by unfold Day4; omega)).up (by unfold Day4; omega)).up (by unfold Day4; omega)
  rw [show (3 : Int32) = nI 3 from rfl, ofTubC (hC.fr f2 (Day4.k hk)) hW.1 ht (by omega)]
  simp only [Option.bind_some]
  have s0 : SlC (up (up (up (up M 41 t (nI (S 1 (5 * t + 1)))) 42 t (nI (S 1 (5 * t + 2)))) 43 t 0) 44 t (-4)) t (initS S t) := by
    refine ⟨?_, ?_, ?_, ?_⟩
    · rw [up_cell (by omega), up_cell (by omega), up_cell (by omega), up_same]; exact (iI_nI _).symm
    · rw [up_cell (by omega), up_cell (by omega), up_same]; exact (iI_nI _).symm
    · rw [up_cell (by omega), up_same]; rfl
    · rw [up_same]; rfl
  by_cases q : S 1 (5 * t + 3) ≤ n
  · refine go FU _ _ (Nat.le_refl _) q (FU_gt (by omega)) f2 ?_
    rw [sail_init _ (Nat.le_refl _)]
    exact s0
  · obtain ⟨m, hm⟩ := FU_succ
    rw [hm]
    unfold f_X0_sailTub_47
    rw [if_pos ((nI_leN (by omega) (by omega)).mpr (by omega))]
    refine ⟨_, rfl, f2, ?_⟩
    rw [sail_init _ (by omega)]
    exact s0
/-! who meets it: the class's choice and the model's -/
def foldC (E : Nat → Prop) [DecidablePred E] (m d : Nat → Int) : Nat → Int × Int × Int
  | 0 => (-4, -4, 0)
  | j + 1 => if E j ∧ ((foldC E m d j).1 = -4 ∨ m j < (foldC E m d j).2.1 ∨ (m j = (foldC E m d j).2.1 ∧ d j < (foldC E m d j).2.2)) then ((j : Int), m j, d j) else foldC E m d j
def foldN (E : Nat → Prop) [DecidablePred E] (d : Nat → Int) : Nat → Int × Int
  | 0 => (-4, 100)
  | j + 1 => if E j ∧ d j < (foldN E d j).2 then ((j : Int), d j) else foldN E d j
def lexle (m d : Nat → Int) (i j : Nat) : Prop := m i < m j ∨ (m i = m j ∧ (d i < d j ∨ (d i = d j ∧ i ≤ j)))
def Best (E : Nat → Prop) (m d : Nat → Int) (J : Nat) (hk hd : Int) : Prop := (hk = -4 ∧ hd = -4 ∧ ∀ i, i < J → ¬ E i) ∨ ∃ i, i < J ∧ hk = (i : Int) ∧ hd = m i ∧ E i ∧ ∀ j, j < J → E j → lexle m d i j
theorem Best.uniq {E : Nat → Prop} {m d : Nat → Int} {J : Nat} {a b a' b' : Int} (h : Best E m d J a b) (h' : Best E m d J a' b') : a = a' ∧ b = b' := by
  rcases h with ⟨e1, e2, e3⟩ | ⟨i, e1, e2, e3, e4, e5⟩
  · rcases h' with ⟨g1, g2, g3⟩ | ⟨j, g1, g2, g3, g4, g5⟩
    · omega
    · exact absurd g4 (e3 j g1)
  · rcases h' with ⟨g1, g2, g3⟩ | ⟨j, g1, g2, g3, g4, g5⟩
    · exact absurd e4 (g3 i e1)
    · have p := e5 j g1 g4
      have q := g5 i e1 e4
      unfold lexle at p q
      have : i = j := by omega
      subst this
      omega
theorem foldC_best (E : Nat → Prop) [DecidablePred E] (m d : Nat → Int) : ∀ J, ((foldC E m d J).1 = -4 ∧ (foldC E m d J).2.1 = -4 ∧ ∀ i, i < J → ¬ E i) ∨ ∃ i, i < J ∧ (foldC E m d J).1 = (i : Int) ∧ (foldC E m d J).2.1 = m i ∧ (foldC E m d J).2.2 = d i ∧ E i ∧ ∀ j, j < J → E j → lexle m d i j
  | 0 => Or.inl ⟨rfl, rfl, fun i hi => by omega⟩
  | J + 1 => by
    have ih := foldC_best E m d J
    unfold foldC
    generalize foldC E m d J = r at ih
    by_cases hE : E J ∧ (r.1 = -4 ∨ m J < r.2.1 ∨ (m J = r.2.1 ∧ d J < r.2.2))
    · rw [if_pos hE]
      refine Or.inr ⟨J, by omega, rfl, rfl, rfl, hE.1, fun j hj hEj => ?_⟩
      by_cases q : j = J
      · subst q; exact Or.inr ⟨rfl, Or.inr ⟨rfl, Nat.le_refl _⟩⟩
      · rcases ih with ⟨e1, e2, e3⟩ | ⟨i, e1, e2, e3, e4, e5, e6⟩
        · exact absurd hEj (e3 j (by omega))
        · have p := e6 j (by omega) hEj
          have h2 := hE.2
          unfold lexle at p ⊢
          omega
    · rw [if_neg hE]
      rcases ih with ⟨e1, e2, e3⟩ | ⟨i, e1, e2, e3, e4, e5, e6⟩
      · refine Or.inl ⟨e1, e2, fun i hi hEi => ?_⟩
        by_cases q : i = J
        · subst q; exact hE ⟨hEi, Or.inl e1⟩
        · exact e3 i (by omega) hEi
      · refine Or.inr ⟨i, by omega, e2, e3, e4, e5, fun j hj hEj => ?_⟩
        by_cases q : j = J
        · subst q
          have : ¬ (r.1 = -4 ∨ m j < r.2.1 ∨ (m j = r.2.1 ∧ d j < r.2.2)) := fun z => hE ⟨hEj, z⟩
          unfold lexle
          omega
        · exact e6 j (by omega) hEj
theorem foldN_best (E : Nat → Prop) [DecidablePred E] (d : Nat → Int) (hd : ∀ i, E i → d i < 100) : ∀ J, ((foldN E d J).1 = -4 ∧ (foldN E d J).2 = 100 ∧ ∀ i, i < J → ¬ E i) ∨ ∃ i, i < J ∧ (foldN E d J).1 = (i : Int) ∧ (foldN E d J).2 = d i ∧ E i ∧ ∀ j, j < J → E j → d i < d j ∨ (d i = d j ∧ i ≤ j)
  | 0 => Or.inl ⟨rfl, rfl, fun i hi => by omega⟩
  | J + 1 => by
    have ih := foldN_best E d hd J
    unfold foldN
    generalize foldN E d J = r at ih
    by_cases hE : E J ∧ d J < r.2
    · rw [if_pos hE]
      refine Or.inr ⟨J, by omega, rfl, rfl, hE.1, fun j hj hEj => ?_⟩
      by_cases q : j = J
      · subst q; exact Or.inr ⟨rfl, Nat.le_refl _⟩
      · rcases ih with ⟨e1, e2, e3⟩ | ⟨i, e1, e2, e3, e4, e5⟩
        · exact absurd hEj (e3 j (by omega))
        · have p := e5 j (by omega) hEj
          have h2 := hE.2
          omega
    · rw [if_neg hE]
      rcases ih with ⟨e1, e2, e3⟩ | ⟨i, e1, e2, e3, e4, e5⟩
      · refine Or.inl ⟨e1, e2, fun i hi hEi => ?_⟩
        by_cases q : i = J
        · subst q; exact hE ⟨hEi, by have := hd i hEi; omega⟩
        · exact e3 i (by omega) hEi
      · refine Or.inr ⟨i, by omega, e2, e3, e4, fun j hj hEj => ?_⟩
        by_cases q : j = J
        · subst q
          have : ¬ d j < r.2 := fun z => hE ⟨hEj, z⟩
          omega
        · exact e5 j (by omega) hEj
def dS (S : Sv) (x : Int) (i : Nat) : Int := ((x - (S 2 (4 * i) : Int)).natAbs : Int)
def mS (S : Sv) (o : Nat) (i : Nat) : Int := max (o : Int) (S 2 (4 * i + 1) : Int)
abbrev ES (S : Sv) (x : Int) (o n : Nat) (i : Nat) : Prop := dS S x i ≤ (S 2 (4 * i + 3) : Int) ∧ mS S o i ≤ (S 2 (4 * i + 2) : Int) ∧ mS S o i < (n : Int)
abbrev NS (S : Sv) (x : Int) (h : Nat) (i : Nat) : Prop := (S 2 (4 * i + 1) ≤ h ∧ h ≤ S 2 (4 * i + 2)) ∧ dS S x i ≤ (S 2 (4 * i + 3) : Int)
def nearS (S : Sv) (x : Int) (h : Nat) : Int × Int := foldN (NS S x h) (dS S x) (S 0 1)
def hookS (S : Sv) (t : Nat) : Nat → Int × Int
  | 0 => (-4, -4)
  | n + 1 => if (sailS S t (n + 1)).2.2.1 = 2 ∧ (hookS S t n).1 = -4 then ((nearS S (sailS S t (n + 1)).1 n).1, if (nearS S (sailS S t (n + 1)).1 n).1 = -4 then -4 else (n : Int)) else hookS S t n
theorem hook_no {S : Sv} {t : Nat} : ∀ n, (∀ j, j ≤ n → (sailS S t j).2.2.1 ≠ 2) → hookS S t n = (-4, -4)
  | 0, _ => rfl
  | n + 1, h => by
    unfold hookS
    rw [if_neg (fun q => h (n + 1) (Nat.le_refl _) q.1)]
    exact hook_no n (fun j hj => h j (by omega))
theorem NS_lt {S : Sv} (hW : WF S) {x : Int} {h i : Nat} (hi : i < S 0 1) (hN : NS S x h i) : dS S x i < 100 := by
  have := hW.2.2.2.2.1 i hi
  have := hN.2
  omega
theorem foldN_congr (E E' : Nat → Prop) [DecidablePred E] [DecidablePred E'] (d : Nat → Int) : ∀ J, (∀ i, i < J → (E i ↔ E' i)) → foldN E d J = foldN E' d J
  | 0, _ => rfl
  | J + 1, h => by
    unfold foldN
    rw [foldN_congr E E' d J (fun i hi => h i (by omega))]
    by_cases q : E J
    · have q' := (h J (by omega)).mp q
      simp only [q, q', true_and]
    · have q' : ¬ E' J := fun z => q ((h J (by omega)).mpr z)
      simp only [q, q', false_and, if_false]
theorem near_best {S : Sv} (hW : WF S) (x : Int) (h : Nat) : ((nearS S x h).1 = -4 ∧ ∀ i, i < S 0 1 → ¬ NS S x h i) ∨ ∃ i, i < S 0 1 ∧ (nearS S x h).1 = (i : Int) ∧ NS S x h i ∧ ∀ j, j < S 0 1 → NS S x h j → dS S x i < dS S x j ∨ (dS S x i = dS S x j ∧ i ≤ j) := by
  have e : nearS S x h = foldN (fun i => i < S 0 1 ∧ NS S x h i) (dS S x) (S 0 1) := foldN_congr _ _ _ _ (fun i hi => ⟨fun q => ⟨hi, q⟩, fun q => q.2⟩)
  rw [e]
  rcases foldN_best (fun i => i < S 0 1 ∧ NS S x h i) (dS S x) (fun i q => NS_lt hW q.1 q.2) (S 0 1) with ⟨a, b, c⟩ | ⟨i, a, b, c, d, f⟩
  · exact Or.inl ⟨a, fun i hi q => c i hi ⟨hi, q⟩⟩
  · exact Or.inr ⟨i, a, b, d.2, fun j hj q => f j hj ⟨hj, q⟩⟩
/-- the model's hour by hour choice is the class's -/
theorem hook_best {S : Sv} (hW : WF S) {t : Nat} {u : TS} {o : Nat} (h1 : ∀ j, j ≤ o → (sailS S t j).2.2.1 ≠ 2) (h2 : ∀ j, o < j → sailS S t j = u) (hu : u.2.2.1 = 2) : ∀ d, Best (ES S u.1 o (o + d)) (mS S o) (dS S u.1) (S 0 1) (hookS S t (o + d)).1 (hookS S t (o + d)).2
  | 0 => by
    rw [Nat.add_zero, hook_no o h1]
    refine Or.inl ⟨rfl, rfl, fun i hi q => ?_⟩
    have := q.2.2
    unfold mS at this
    omega
  | d + 1 => by
    have ih := hook_best hW h1 h2 hu d
    have e : sailS S t (o + d + 1) = u := h2 _ (by omega)
    show Best (ES S u.1 o (o + d + 1)) (mS S o) (dS S u.1) (S 0 1) (hookS S t (o + d + 1)).1 (hookS S t (o + d + 1)).2
    unfold hookS
    rw [e]
    generalize hookS S t (o + d) = r at ih
    by_cases q : r.1 = -4
    · rw [if_pos ⟨hu, q⟩]
      have none' : ∀ i, i < S 0 1 → ¬ ES S u.1 o (o + d) i := by
        rcases ih with ⟨-, -, e3⟩ | ⟨i, -, e2, -⟩
        · exact e3
        · omega
      have eqv : ∀ i, i < S 0 1 → (ES S u.1 o (o + d + 1) i → mS S o i = ((o + d : Nat) : Int)) := by
        intro i hi ⟨a, b, c⟩
        have := none' i hi
        unfold ES at this
        omega
      rcases near_best hW u.1 (o + d) with ⟨a, b⟩ | ⟨i, a, b, c, f⟩
      · rw [a]
        refine Or.inl ⟨rfl, (if_pos rfl : (if (-4 : Int) = -4 then (-4 : Int) else ((o + d : Nat) : Int)) = -4), fun i hi z => b i hi ?_⟩
        have em := eqv i hi z
        obtain ⟨z1, z2, z3⟩ := z
        refine ⟨?_, z1⟩
        unfold mS at em z2
        omega
      · have mi : ∀ i, i < S 0 1 → NS S u.1 (o + d) i → ES S u.1 o (o + d + 1) i := by
          intro i hi ⟨⟨n1, n2⟩, n3⟩
          refine ⟨n3, ?_, ?_⟩
          · unfold mS; omega
          · unfold mS; omega
        have Ei := mi i a c
        refine Or.inr ⟨i, a, b, ?_, Ei, fun j hj Ej => ?_⟩
        · show (if (nearS S u.1 (o + d)).1 = -4 then (-4 : Int) else ((o + d : Nat) : Int)) = mS S o i
          rw [b, if_neg (by omega), eqv i a Ei]
        · have ej := eqv j hj Ej
          have ei := eqv i a Ei
          have nj : NS S u.1 (o + d) j := by
            obtain ⟨z1, z2, z3⟩ := Ej
            refine ⟨?_, z1⟩
            unfold mS at ej z2
            omega
          have := f j hj nj
          unfold lexle
          omega
    · rw [if_neg (fun z => q z.2)]
      rcases ih with ⟨e1, -⟩ | ⟨i, e1, e2, e3, e4, e5⟩
      · exact absurd e1 q
      · have z3 := e4.2.2
        refine Or.inr ⟨i, e1, e2, e3, ⟨e4.1, e4.2.1, by omega⟩, fun j hj Ej => ?_⟩
        by_cases w : mS S o j < ((o + d : Nat) : Int)
        · exact e5 j hj ⟨Ej.1, Ej.2.1, w⟩
        · left
          omega
/-- what the class's two rows hold -/
theorem meet_is {S : Sv} (hW : WF S) {t n : Nat} (ht : t < S 0 0) (hc : (sailS S t n).2.2.1 = 2) : ∃ o : Nat, (sailS S t n).2.2.2 = (o : Int) ∧ o < n ∧ (foldC (ES S (sailS S t n).1 o n) (mS S o) (dS S (sailS S t n).1) (S 0 1)).1 = (hookS S t n).1 ∧ (foldC (ES S (sailS S t n).1 o n) (mS S o) (dS S (sailS S t n).1) (S 0 1)).2.1 = (hookS S t n).2 := by
  obtain ⟨o, o1, o2, o3, o4⟩ := sail_before hW ht n (by omega)
  refine ⟨o, o1, o2, ?_⟩
  have b := hook_best hW (t := t) (u := sailS S t n) (o := o) (fun j hj => by rw [o3 j hj]; omega) o4 hc (n - o)
  rw [show o + (n - o) = n by omega] at b
  refine Best.uniq (E := ES S (sailS S t n).1 o n) (m := mS S o) (d := dS S (sailS S t n).1) (J := S 0 1) ?_ b
  rcases foldC_best (ES S (sailS S t n).1 o n) (mS S o) (dS S (sailS S t n).1) (S 0 1) with ⟨a, b, c⟩ | ⟨i, a, b, c, d, e, f⟩
  · exact Or.inl ⟨a, b, c⟩
  · exact Or.inr ⟨i, a, b, c, e, f⟩
theorem hook_none {S : Sv} (hW : WF S) {t n : Nat} (ht : t < S 0 0) (hc : (sailS S t n).2.2.1 ≠ 2) : hookS S t n = (-4, -4) := by
  refine hook_no n (fun j hj z => hc ?_)
  have := sail_stop (S := S) (t := t) (i := j) (by omega) (n - j)
  rw [show j + (n - j) = n by omega] at this
  rw [this, z]
theorem hook_rng {S : Sv} (hW : WF S) {t : Nat} : ∀ n, ((hookS S t n).1 = -4 ∧ (hookS S t n).2 = -4) ∨ ∃ i h : Nat, i < S 0 1 ∧ h < n ∧ (hookS S t n).1 = (i : Int) ∧ (hookS S t n).2 = (h : Int)
  | 0 => Or.inl ⟨rfl, rfl⟩
  | n + 1 => by
    have ih := hook_rng hW (t := t) n
    unfold hookS
    by_cases q : (sailS S t (n + 1)).2.2.1 = 2 ∧ (hookS S t n).1 = -4
    · rw [if_pos q]
      rcases near_best hW (sailS S t (n + 1)).1 n with ⟨a, b⟩ | ⟨i, a, b, c, f⟩
      · exact Or.inl ⟨a, if_pos a⟩
      · exact Or.inr ⟨i, n, a, by omega, b, if_neg (by simp only [b]; omega)⟩
    · rw [if_neg q]
      rcases ih with a | ⟨i, h, a, b, c, d⟩
      · exact Or.inl a
      · exact Or.inr ⟨i, h, a, by omega, c, d⟩
