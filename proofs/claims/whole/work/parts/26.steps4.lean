theorem lt_lit {a : Nat} (k : Nat) (ha : a < 2147483648) (hk : k < 2147483648) : nI a < (@OfNat.ofNat Int32 k Int32.instOfNat) ↔ a < k := nI_ltN (b := k) ha hk
theorem le_lit {a : Nat} (k : Nat) (ha : a < 2147483648) (hk : k < 2147483648) : nI a ≤ (@OfNat.ofNat Int32 k Int32.instOfNat) ↔ a ≤ k := nI_leN (b := k) ha hk
theorem lit_le {a : Nat} (k : Nat) (ha : a < 2147483648) (hk : k < 2147483648) : (@OfNat.ofNat Int32 k Int32.instOfNat) ≤ nI a ↔ k ≤ a := nI_leN (a := k) hk ha
theorem lit_lt {a : Nat} (k : Nat) (ha : a < 2147483648) (hk : k < 2147483648) : (@OfNat.ofNat Int32 k Int32.instOfNat) < nI a ↔ k < a := nI_ltN (a := k) hk ha
theorem st_feed : St_feed Rel := by
  intro M a h
  obtain ⟨-, ⟨n, hn, t1, t2, t3⟩, -⟩ := id h
  unfold f_X5_feed f_X6_feed
  simp only [within_lit _ 0 127 (by omega) (by omega), in_lit _ 0 127 (by omega) (by omega), Option.bind_some, ite_b2]
  by_cases h1 : ((0 : Nat) : Int) ≤ a.toInt ∧ a.toInt ≤ ((127 : Nat) : Int)
  · simp only [if_pos h1]
    obtain ⟨b, -, hb, rfl⟩ := nI_rng h1
    unfold f_X4_add
    rw [t1]
    by_cases hf : n < 160
    · rw [if_pos ((lt_lit 160 (by omega) (by omega)).mpr hf), inb_ok hf (by omega)]
      simp only [lm, Option.bind_some]
      rw [nI_clamp (by omega), up_cell (show (2 : Nat) ≠ 3 by omega), t1, if_neg (by decide)]
      refine ⟨_, _, up (up (up (up M 3 n (nI b)) 2 1 (nI n + 1)) 58 n (nI b)) 54 9 (nI n + 1), rfl, ?_, ?_⟩
      · have e1 : (up (up M 3 n (nI b)) 2 1 (nI n + 1)) 54 9 = nI n := by rw [up_cell (by omega), up_cell (by omega), t2]
        rw [e1, if_neg (fun q => absurd ((nI_lit 160 (by omega) (by omega)).mp q) (by omega)), inb_ok hf (by omega), nI_clamp (by omega), up_cell (show (54 : Nat) ≠ 58 by omega), e1, up_same, up_same]
      · refine h.tape0 ((((Fr.rfl'.up ?_).up ?_).up ?_).up ?_) ⟨n + 1, by omega, ?_, ?_, fun j hj => ?_⟩
        · unfold Loc_tape0; omega
        · unfold Loc_tape0; omega
        · unfold Loc_tape0; omega
        · unfold Loc_tape0; omega
        · rw [up_cell (by omega), up_cell (by omega), up_same]; exact nI_add n 1
        · rw [up_same]; exact nI_add n 1
        · by_cases q : j = n
          · subst q
            refine ⟨b, by omega, ?_, ?_⟩
            · rw [up_cell (by omega), up_cell (by omega), up_cell (by omega), up_same]
            · rw [up_cell (by omega), up_same]
          · obtain ⟨c, c1, c2, c3⟩ := t3 j (by omega)
            refine ⟨c, c1, ?_, ?_⟩
            · rw [up_cell (by omega), up_cell (by omega), up_cell (by omega), up_slot q, c2]
            · rw [up_cell (by omega), up_slot q, up_cell (by omega), up_cell (by omega), c3]
    · rw [if_neg (fun q => hf ((lt_lit 160 (by omega) (by omega)).mp q))]
      simp only [Option.bind_some, if_true]
      refine ⟨_, _, _, rfl, ?_, h⟩
      rw [t2, if_pos ((nI_lit 160 (by omega) (by omega)).mpr (by omega))]
  · simp only [if_neg h1]
    exact ⟨_, _, _, rfl, rfl, h⟩
theorem st_end : St_end Rel := by
  intro M a h
  obtain ⟨-, ⟨n, hn, t1, t2, t3⟩, -⟩ := id h
  unfold f_X5_end f_X6_end
  simp only [within_eq, in_eq, t1, Option.bind_some, ite_b2, nI_toInt (show n < 2147483648 by omega), toI0, lit64T 0 (show 0 < 2147483648 by omega), Int32.toInt_toInt64]
  by_cases h1 : (0 : Int) ≤ a.toInt ∧ a.toInt ≤ (n : Int)
  · simp only [if_pos h1, lm, li]
    obtain ⟨v, -, hv, rfl⟩ := nI_rng (lo := 0) (hi := n) (x := a) (by omega)
    have e1 : (up M 2 1 (nI v)) 54 9 = nI n := by rw [up_cell (by omega), t2]
    refine ⟨_, _, up (up M 2 1 (nI v)) 54 9 (nI v), rfl, ?_, ?_⟩
    · rw [e1, nI_toInt (show n < 2147483648 by omega), if_pos (by omega)]
    · refine h.tape0 ((Fr.rfl'.up ?_).up ?_) ⟨v, by omega, ?_, ?_, fun j hj => ?_⟩
      · unfold Loc_tape0; omega
      · unfold Loc_tape0; omega
      · rw [up_cell (by omega), up_same]
      · rw [up_same]
      · rw [up_cell (by omega), up_cell (by omega), up_cell (by omega), up_cell (by omega)]
        exact t3 j (by omega)
  · simp only [if_neg h1]
    refine ⟨_, _, _, rfl, ?_, h⟩
    rw [t2, nI_toInt (show n < 2147483648 by omega), if_neg (by omega)]
theorem st_forget : St_forget Rel := by
  intro M a h
  obtain ⟨-, -, -, ⟨n, hn, t1, t2, t3⟩, -⟩ := id h
  unfold f_X5_forget f_X6_forget
  simp only [within_eq, in_eq, t1, Option.bind_some, ite_b2, nI_toInt (show n < 2147483648 by omega), toI0, lit64T 0 (show 0 < 2147483648 by omega), Int32.toInt_toInt64]
  by_cases h1 : (0 : Int) ≤ a.toInt ∧ a.toInt ≤ (n : Int)
  · simp only [if_pos h1, lm, li]
    obtain ⟨v, -, hv, rfl⟩ := nI_rng (lo := 0) (hi := n) (x := a) (by omega)
    have e1 : (up M 0 15 (nI v)) 54 29 = nI n := by rw [up_cell (by omega), t2]
    refine ⟨_, _, up (up M 0 15 (nI v)) 54 29 (nI v), rfl, ?_, ?_⟩
    · rw [e1, nI_toInt (show n < 2147483648 by omega), if_pos (by omega)]
    · refine h.seen0 ((Fr.rfl'.up ?_).up ?_) ⟨v, by omega, ?_, ?_, fun j hj => ?_⟩
      · unfold Loc_seen0; omega
      · unfold Loc_seen0; omega
      · rw [up_cell (by omega), up_same]
      · rw [up_same]
      · obtain ⟨x, y, z, w⟩ := t3 j (by omega)
        refine ⟨x, y, z, ?_⟩
        simp only [up_cell (show (47 : Nat) ≠ 54 by omega), up_cell (show (48 : Nat) ≠ 54 by omega), up_cell (show (49 : Nat) ≠ 54 by omega), up_cell (show (69 : Nat) ≠ 54 by omega), up_cell (show (47 : Nat) ≠ 0 by omega), up_cell (show (48 : Nat) ≠ 0 by omega), up_cell (show (49 : Nat) ≠ 0 by omega), up_cell (show (69 : Nat) ≠ 0 by omega)]
        exact w
  · simp only [if_neg h1]
    refine ⟨_, _, _, rfl, ?_, h⟩
    rw [t2, nI_toInt (show n < 2147483648 by omega), if_neg (by omega)]
theorem st_see : St_see Rel := by
  intro M a b c h
  obtain ⟨⟨S, hW, hC, hM⟩, -, -, ⟨n, hn, t1, t2, t3⟩, -⟩ := id h
  have hS0 := hW.1
  unfold f_X5_see f_X6_see
  rw [isTubC hC hS0]
  simp only [within_lit _ 0 24 (by omega) (by omega), in_lit _ 0 24 (by omega) (by omega), within_lit _ 0 30 (by omega) (by omega), in_lit _ 0 30 (by omega) (by omega), Option.bind_some, ite_b2]
  by_cases ht : 0 ≤ a.toInt ∧ a.toInt < S 0 0
  · simp only [if_pos ht]
    by_cases h1 : ((0 : Nat) : Int) ≤ b.toInt ∧ b.toInt ≤ ((24 : Nat) : Int)
    · simp only [if_pos h1]
      by_cases h2 : ((0 : Nat) : Int) ≤ c.toInt ∧ c.toInt ≤ ((30 : Nat) : Int)
      · simp only [if_pos h2]
        obtain ⟨t, -, ht2, rfl⟩ := nI_rng (lo := 0) (hi := S 0 0 - 1) (x := a) (by omega)
        obtain ⟨x, -, hx, rfl⟩ := nI_rng h1
        obtain ⟨y, -, hy, rfl⟩ := nI_rng h2
        rw [t1]
        by_cases hf : n < 6
        · rw [if_pos ((lt_lit 6 (by omega) (by omega)).mpr hf), inb_ok hf (by omega)]
          simp only [lm]
          rw [nI_clamp (by omega), up_cell (show (0 : Nat) ≠ 47 by omega), t1, inb_ok hf (by omega), nI_clamp (by omega), up_cell (show (0 : Nat) ≠ 48 by omega), up_cell (show (0 : Nat) ≠ 47 by omega), t1, inb_ok hf (by omega), nI_clamp (by omega), up_cell (show (0 : Nat) ≠ 49 by omega), up_cell (show (0 : Nat) ≠ 48 by omega), up_cell (show (0 : Nat) ≠ 47 by omega), t1, up_same]
          refine ⟨_, _, up (up (up (up (up (up (up (up M 47 n (nI t)) 48 n (nI x)) 49 n (nI y)) 0 15 (nI n + 1)) 69 (3 * n) (nI t)) 69 (3 * n + 1) (nI x)) 69 (3 * n + 2) (nI y)) 54 29 (nI n + 1), rfl, ?_, ?_⟩
          · have hM1 := (((hM.upC (c := 47) (j := n) (v := nI t) (by omega)).upC (c := 48) (j := n) (v := nI x) (by omega)).upC (c := 49) (j := n) (v := nI y) (by omega)).upC (c := 0) (j := 15) (v := nI n + 1) (by omega)
            rw [isTubM hM1 hS0]
            generalize eM : up (up (up (up M 47 n (nI t)) 48 n (nI x)) 49 n (nI y)) 0 15 (nI n + 1) = M1
            have e1 : M1 54 29 = nI n := by rw [← eM, up_cell (by omega), up_cell (by omega), up_cell (by omega), up_cell (by omega), t2]
            simp only [Option.bind_some, ite_b2]
            simp only [lm, up_cell (show (54 : Nat) ≠ 69 by omega), e1, up_same]
            rw [if_pos ht, if_neg (fun q => absurd ((nI_lit 6 (by omega) (by omega)).mp q) (by omega)), show (3 : Int32) = nI 3 from rfl, show (1 : Int32) = nI 1 from rfl, show (2 : Int32) = nI 2 from rfl, nI_mulN, nI_add, nI_add, inb_ok (by omega) (by omega), inb_ok (by omega) (by omega), inb_ok (by omega) (by omega), nI_clamp (by omega), nI_clamp (by omega), nI_clamp (by omega)]
          · refine h.seen0 ((((((((Fr.rfl'.up ?_).up ?_).up ?_).up ?_).up ?_).up ?_).up ?_).up ?_) ⟨n + 1, by omega, ?_, ?_, fun j hj => ?_⟩
            · unfold Loc_seen0; omega
            · unfold Loc_seen0; omega
            · unfold Loc_seen0; omega
            · unfold Loc_seen0; omega
            · unfold Loc_seen0; omega
            · unfold Loc_seen0; omega
            · unfold Loc_seen0; omega
            · unfold Loc_seen0; omega
            · rw [up_cell (by omega), up_cell (by omega), up_cell (by omega), up_cell (by omega), up_same]; exact nI_add n 1
            · rw [up_same]; exact nI_add n 1
            · by_cases q : j = n
              · subst q
                refine ⟨t, x, y, by omega, hx, hy, ?_, ?_, ?_, ?_, ?_, ?_⟩ <;> simp [up_at]
              · obtain ⟨x', y', z', w1, w2, w3, u1, u2, u3, u4, u5, u6⟩ := t3 j (by omega)
                refine ⟨x', y', z', w1, w2, w3, ?_, ?_, ?_, ?_, ?_, ?_⟩ <;> grind [up_at]
        · rw [if_neg (fun q => hf ((lt_lit 6 (by omega) (by omega)).mp q))]
          refine ⟨_, _, _, rfl, ?_, h⟩
          rw [isTubM hM hS0]
          simp only [Option.bind_some, ite_b2]
          rw [if_pos ht, t2, if_pos ((nI_lit 6 (by omega) (by omega)).mpr (by omega))]
      · simp only [if_neg h2]
        refine ⟨_, _, _, rfl, ?_, h⟩
        rw [isTubM hM hS0]
        simp only [Option.bind_some, ite_b2]
        rw [if_pos ht]
    · simp only [if_neg h1]
      refine ⟨_, _, _, rfl, ?_, h⟩
      rw [isTubM hM hS0]
      simp only [Option.bind_some, ite_b2]
      rw [if_pos ht]
  · simp only [if_neg ht]
    refine ⟨_, _, _, rfl, ?_, h⟩
    rw [isTubM hM hS0]
    simp only [Option.bind_some, ite_b2]
    rw [if_neg ht]
/-! copies -/
theorem cp_at (M : Mem) (s d n c j : Nat) : cp M s d n c j = if c = d ∧ j < n then M s j else M c j := by
  unfold cp upR va_cpy
  by_cases h : c = d
  · subst h
    by_cases hj : j < n
    · simp [hj]
    · simp [hj]
  · simp [h]
def Sea5 (k c j : Nat) : Prop := k ≤ c ∧ c ≤ k + 4
theorem become_ok {M : Mem} {k0 k1 : Nat} {S : Sv} (hk : k0 + 4 < k1 ∨ k1 + 4 < k0) (h : RepC M k1 S) (h0 : S 0 0 ≤ 4) (h1 : S 0 1 ≤ 4) : ∃ M1, f_X2_become k0 k1 M = some M1 ∧ Fr (Sea5 k0) M M1 ∧ RepC M1 k0 S := by
  unfold f_X2_become
  simp only [lm]
  refine ⟨_, rfl, ?_, ?_⟩
  · intro c j hc
    unfold Sea5 at hc
    simp only [cp_at, up_at]
    rw [if_neg (by omega), if_neg (by omega), if_neg (by omega), if_neg (by omega), if_neg (by omega), if_neg (by omega), if_neg (by omega)]
  · obtain ⟨a1, a2, a3, a4, a5, a6, a7⟩ := h
    refine ⟨?_, ?_, ?_, fun j hj => ?_, fun j hj => ?_, fun j hj => ?_, fun j hj => ?_⟩
    · grind [cp_at, up_at]
    · grind [cp_at, up_at]
    · grind [cp_at, up_at]
    · rw [← a4 j hj]
      grind [cp_at, up_at]
    · rw [← a5 j hj]
      grind [cp_at, up_at]
    · rw [← a6 j hj]
      grind [cp_at, up_at]
    · rw [← a7 j hj]
      grind [cp_at, up_at]
/-- the model's copying loop -/
def cpN (M : Mem) (p q i : Nat) : Mem := upR M 55 (fun j => if q ≤ j ∧ j < q + i then M 55 (p + (j - q)) else M 55 j)
theorem cpN_at (M : Mem) (p q i c j : Nat) : cpN M p q i c j = if c = 55 ∧ q ≤ j ∧ j < q + i then M 55 (p + (j - q)) else M c j := by
  unfold cpN upR
  by_cases h : c = 55
  · subst h; simp
  · simp [h]
theorem copies_go {M : Mem} {p q : Nat} (hp : p + 72 ≤ 360) (hq : q + 72 ≤ 360) (hd : p + 72 ≤ q ∨ q + 72 ≤ p) : ∀ n i, i ≤ 72 → 72 - i < n → f_X6_copies_2 (nI p) (nI q) n (nI i) (cpN M p q i) = some (cpN M p q 72) := by
  intro n
  induction n with
  | zero => intro i _ h; omega
  | succ n ih =>
    intro i hi hn
    unfold f_X6_copies_2
    by_cases h : i = 72
    · subst h
      rw [if_pos (by decide)]
    · rw [if_neg (fun z => absurd ((lit_le 72 (by omega) (by omega)).mp z) (by omega)), nI_add, nI_add, rd_ok (by omega) (by omega), inb_ok (by omega) (by omega)]
      simp only [lm]
      rw [nI_clamp (by omega), show (1 : Int32) = nI 1 from rfl, nI_add]
      have e : up (cpN M p q i) 55 (q + i) (cpN M p q i 55 (p + i)) = cpN M p q (i + 1) := by
        funext c j
        simp only [up_at, cpN_at]
        grind
      rw [e]
      exact ih (i + 1) (by omega) (by omega)
theorem copies_ok {M : Mem} {p q : Nat} (hp : p + 72 ≤ 360) (hq : q + 72 ≤ 360) (hd : p + 72 ≤ q ∨ q + 72 ≤ p) : f_X6_copies (nI p) (nI q) M = some (cpN M p q 72) := by
  have e : cpN M p q 0 = M := by
    funext c j
    rw [cpN_at, if_neg (by omega)]
  have := copies_go (M := M) hp hq hd FU 0 (by omega) (FU_gt (by omega))
  rw [e] at this
  exact this
def Page (q c j : Nat) : Prop := c = 55 ∧ q ≤ j ∧ j < q + 72
theorem cpN_fr {M : Mem} {p q : Nat} : Fr (Page q) M (cpN M p q 72) := by
  intro c j h
  unfold Page at h
  rw [cpN_at, if_neg h]
theorem cpN_rep {M : Mem} {p q : Nat} {S : Sv} (h : RepM M p S) (h0 : S 0 0 ≤ 4) (h1 : S 0 1 ≤ 4) : RepM (cpN M p q 72) q S := by
  obtain ⟨a1, a2, a3, a4, a5, a6, a7⟩ := h
  refine ⟨?_, ?_, ?_, fun t w ht hw => ?_, fun j hj => ?_, fun j hj => ?_, fun j hj => ?_⟩
  · rw [cpN_at, if_pos (by omega), ← a1]; congr 1; omega
  · rw [cpN_at, if_neg (by omega), a2]
  · rw [cpN_at, if_pos (by omega), ← a3]; congr 1; omega
  · rw [cpN_at, if_pos (by omega), ← a4 t w ht hw]; congr 1; omega
  · rw [cpN_at, if_pos (by omega), ← a5 j hj]; congr 1; omega
  · rw [cpN_at, if_pos (by omega), ← a6 j hj]; congr 1; omega
  · rw [cpN_at, if_pos (by omega), ← a7 j hj]; congr 1; omega
