theorem w_new {p : Program} {l : Launch} {e : Env} {R9 : Room} {s : State} {m : MethodId} {args : Array Value} {below : List Frame} {meth : Method} {c0 : Code} {H : Heap} {locs : List Loc} {cs ss : Nat} {Q9 : State → Prop} {ls : Array Slot} {cc : ByteArray} {E : GE} {B n pc idx c N : Nat} {R : RM} {M : Mem} {rest : List Value} {own C9 : String} {T : u_T} (hx : p.tables.exec = Jvm.exec) (hb : c0.code = cc) (g : ∀ w ∈ gwL, w.before args s = true) (hown : s.vm.findClass own = some m.cls) (hK : va_K (ge_D E) vwCl (tysE E) s) (hB : ∀ k, ad E k = B + k) (hd : decode cc pc = .ok (.new idx, 3)) (hc : vwCl[c]? = some (C9, T, N)) (hk : kd n = c) (hlk9 : Cond.classLink own idx C9 ∈ gwL) (hins : Cond.instantiable C9 N ∈ gwL) (hini : Cond.initialized C9 ∈ gwL) (ty : Nat → FieldType) (hty : ∀ k, k < N → parseFieldDescriptor (T k).2.2.1 = some (ty k)) (hdf : ∀ j, j < N → defaultValue (ty j) = if isRefF c j = true then .null else .int 0) (hcs : cs + 1 ≤ R9.cells) (hss : ss + N ≤ R9.slots) (hz : H.size = B + n) (hP : va_P (ge_D E) vwCl (wlR E R n M) H) (hS : va_S (AC B) s.heap H locs)
    (kk : ∀ H1 : Heap, H1.size = B + (n + 1) → va_P (ge_D E) vwCl (wlR E (upOR R n (fun _ => none)) (n + 1) (upR M n (fun _ => 0))) H1 → va_S (AC B) s.heap H1 locs → W p l e R9 s m args below meth c0 H1 locs (cs + 1) (ss + N) Q9 (F0 m (pc + 3) ls (.ref (ad E n) :: rest))) : W p l e R9 s m args below meth c0 H locs cs ss Q9 (F0 m pc ls rest) := by
  have hKn := hK.1 c _ hc
  refine W.newcK hx hb hown (g _ hlk9) (g _ hins) (g _ hini) rfl hd hcs hss hKn.2.1 rfl fun H1 kC hkC e1 z1 o1 => ?_
  have ha : va_at (ge_D E) vwCl (ad E n, entR E (upOR R n (fun _ => none)) n (fun _ => 0)) H1 := by
    rw [entR_obj _ hk hc]
    refine ⟨_, hc, ?_⟩
    rw [hB, ← hz]
    refine (u_born ty g (clOK c C9 T N hc).1 hKn hkC e1 hty).to (fun j hj => ?_)
    rw [hdf j hj]
    simp [vp_V, fvR, upOR, hj, va_rf]
  have hP1 := wlR_new hz hB hP o1 ha
  have := kk H1 (by rw [z1, hz]; omega) hP1 ⟨Nat.le_trans hS.1 (by omega), fun x h1 h2 => (o1 x (Nat.lt_of_lt_of_le h1 hS.1)).trans (hS.2.1 x h1 h2), hS.2.2⟩
  rw [hB, ← hz] at this
  exact this
theorem law_E {p : Program} {s : State} {m : MethodId} {meth : Method} {c : Code} {b L : Nat} {xs : Nat → Int32} (l : Launch) (C0 : lw_At p s m meth c b L xs) : ∃ E : GE, ge_l E = l ∧ LOK E p s m meth c b L xs := by
  obtain ⟨hx, hb, hr, hml, hown, hts, hX, hbl, hlk, hgv⟩ := id C0
  have g : ∀ w ∈ gwL, w.before #[Value.ref b] s = true := fun w h => hts w (List.mem_filter.mp h).1
  have hn := flat_of_before _ hgv
  have hcl : ∀ k : Nat, ∃ q : ClassId × (Nat → Nat), ∀ r : vw_C, vwCl[k]? = some r → u_Kn s r.1 r.2.1 r.2.2 q.1 q.2 := by
    intro k
    match k with
    | 0 => obtain ⟨a, b, h⟩ := u_known (C := RX0) (T := TX0) (N := 6) (n := 6) g (clOK 0 _ _ _ rfl).1 (g _ ni_X0); exact ⟨(a, b), fun r hr => by cases hr; exact h⟩
    | 1 => obtain ⟨a, b, h⟩ := u_known (C := RX1) (T := TX1) (N := 7) (n := 7) g (clOK 1 _ _ _ rfl).1 (g _ ni_X1); exact ⟨(a, b), fun r hr => by cases hr; exact h⟩
    | 2 => obtain ⟨a, b, h⟩ := u_known (C := RX2) (T := TX2) (N := 7) (n := 7) g (clOK 2 _ _ _ rfl).1 (g _ ni_X2); exact ⟨(a, b), fun r hr => by cases hr; exact h⟩
    | 3 => obtain ⟨a, b, h⟩ := u_known (C := RX3) (T := TX3) (N := 3) (n := 3) g (clOK 3 _ _ _ rfl).1 (g _ ni_X3); exact ⟨(a, b), fun r hr => by cases hr; exact h⟩
    | 4 => obtain ⟨a, b, h⟩ := u_known (C := RX4) (T := TX4) (N := 6) (n := 6) g (clOK 4 _ _ _ rfl).1 (g _ ni_X4); exact ⟨(a, b), fun r hr => by cases hr; exact h⟩
    | 5 => obtain ⟨a, b, h⟩ := u_known (C := RX5) (T := TX5) (N := 17) (n := 17) g (clOK 5 _ _ _ rfl).1 (g _ ni_X5); exact ⟨(a, b), fun r hr => by cases hr; exact h⟩
    | 6 => obtain ⟨a, b, h⟩ := u_known (C := RX6) (T := TX6) (N := 36) (n := 36) g (clOK 6 _ _ _ rfl).1 (g _ ni_X6); exact ⟨(a, b), fun r hr => by cases hr; exact h⟩
    | k + 7 => obtain ⟨a, b, h⟩ := u_known (C := RX0) (T := TX0) (N := 6) (n := 6) g (clOK 0 _ _ _ rfl).1 (g _ ni_X0); exact ⟨(a, b), fun r hr => by simp [vwCl] at hr⟩
  obtain ⟨f, hf⟩ := Classical.axiomOfChoice hcl
  obtain ⟨cI, kI, coI, i1, i2, i3⟩ := Cond.arrayClass_spec (g _ arr_I)
  obtain ⟨cZ, kZ, coZ, z1, z2, z3⟩ := Cond.arrayClass_spec (g _ arr_Z)
  obtain ⟨co2, c2, k2, o1, o2, o3, o4, o5⟩ := Cond.arrayOver_spec (hts _ ao_2)
  obtain ⟨co3, c3, k3, u1, u2, u3, u4, u5⟩ := Cond.arrayOver_spec (hts _ ao_3)
  generalize hA0 : (fun q : Nat => ∃ k, k < NC ∧ q = s.heap.size + k) = A0
  have hA : ∀ a : Nat, a < s.heap.size → ¬ A0 a := fun a h => by rw [← hA0]; intro q; obtain ⟨k, _, q⟩ := q; omega
  have hT : ∀ i : Nat, ∃ t : Nat, i < 6 → va_Z RX5 (tbN i) "[I" (.ref t) A0 s s.heap ∧ va_T .int t (tbL i) (fun j => .int (tbV i j)) A0 s s.heap := by
    intro i
    match i with
    | 0 =>
      obtain ⟨t, ht, h⟩ := va_Tof (tm := (Term.static RX5 "TUB_LEAST" "[I")) (ty := .int) (N := 5) (f := fun j => .int (tbV 0 j)) (A := A0) (by decide) (hn (Cond.arrayOf (Term.static RX5 "TUB_LEAST" "[I") .int) (by decide +kernel)) (va_eqt (z := 5) (hn (Cond.eq (Term.length (Term.static RX5 "TUB_LEAST" "[I")) (.int 5)) (by decide +kernel))) (fun j hj => by
        match j, hj with
        | 0, _ => exact va_eqt (hn (Cond.eq (Term.elem (Term.static RX5 "TUB_LEAST" "[I") (.int 0)) (.int 0)) (by decide +kernel))
        | 1, _ => exact va_eqt (hn (Cond.eq (Term.elem (Term.static RX5 "TUB_LEAST" "[I") (.int 1)) (.int 0)) (by decide +kernel))
        | 2, _ => exact va_eqt (hn (Cond.eq (Term.elem (Term.static RX5 "TUB_LEAST" "[I") (.int 2)) (.int 1)) (by decide +kernel))
        | 3, _ => exact va_eqt (hn (Cond.eq (Term.elem (Term.static RX5 "TUB_LEAST" "[I") (.int 3)) (.int 0)) (by decide +kernel))
        | 4, _ => exact va_eqt (hn (Cond.eq (Term.elem (Term.static RX5 "TUB_LEAST" "[I") (.int 4)) (.int 1)) (by decide +kernel))
        | j + 5, hj => exact absurd hj (by omega)) hA
      exact ⟨t, fun _ => ⟨va_Zof (hts _ (stT_in 0 (by decide))) (hts _ in_X5) ht hA, h⟩⟩
    | 1 =>
      obtain ⟨t, ht, h⟩ := va_Tof (tm := (Term.static RX5 "TUB_MOST" "[I")) (ty := .int) (N := 5) (f := fun j => .int (tbV 1 j)) (A := A0) (by decide) (hn (Cond.arrayOf (Term.static RX5 "TUB_MOST" "[I") .int) (by decide +kernel)) (va_eqt (z := 5) (hn (Cond.eq (Term.length (Term.static RX5 "TUB_MOST" "[I")) (.int 5)) (by decide +kernel))) (fun j hj => by
        match j, hj with
        | 0, _ => exact va_eqt (hn (Cond.eq (Term.elem (Term.static RX5 "TUB_MOST" "[I") (.int 0)) (.int 3)) (by decide +kernel))
        | 1, _ => exact va_eqt (hn (Cond.eq (Term.elem (Term.static RX5 "TUB_MOST" "[I") (.int 1)) (.int 9)) (by decide +kernel))
        | 2, _ => exact va_eqt (hn (Cond.eq (Term.elem (Term.static RX5 "TUB_MOST" "[I") (.int 2)) (.int 9)) (by decide +kernel))
        | 3, _ => exact va_eqt (hn (Cond.eq (Term.elem (Term.static RX5 "TUB_MOST" "[I") (.int 3)) (.int 23)) (by decide +kernel))
        | 4, _ => exact va_eqt (hn (Cond.eq (Term.elem (Term.static RX5 "TUB_MOST" "[I") (.int 4)) (.int 99)) (by decide +kernel))
        | j + 5, hj => exact absurd hj (by omega)) hA
      exact ⟨t, fun _ => ⟨va_Zof (hts _ (stT_in 1 (by decide))) (hts _ in_X5) ht hA, h⟩⟩
    | 2 =>
      obtain ⟨t, ht, h⟩ := va_Tof (tm := (Term.static RX5 "HEIR_MOST" "[I")) (ty := .int) (N := 4) (f := fun j => .int (tbV 2 j)) (A := A0) (by decide) (hn (Cond.arrayOf (Term.static RX5 "HEIR_MOST" "[I") .int) (by decide +kernel)) (va_eqt (z := 4) (hn (Cond.eq (Term.length (Term.static RX5 "HEIR_MOST" "[I")) (.int 4)) (by decide +kernel))) (fun j hj => by
        match j, hj with
        | 0, _ => exact va_eqt (hn (Cond.eq (Term.elem (Term.static RX5 "HEIR_MOST" "[I") (.int 0)) (.int 9)) (by decide +kernel))
        | 1, _ => exact va_eqt (hn (Cond.eq (Term.elem (Term.static RX5 "HEIR_MOST" "[I") (.int 1)) (.int 23)) (by decide +kernel))
        | 2, _ => exact va_eqt (hn (Cond.eq (Term.elem (Term.static RX5 "HEIR_MOST" "[I") (.int 2)) (.int 23)) (by decide +kernel))
        | 3, _ => exact va_eqt (hn (Cond.eq (Term.elem (Term.static RX5 "HEIR_MOST" "[I") (.int 3)) (.int 9)) (by decide +kernel))
        | j + 4, hj => exact absurd hj (by omega)) hA
      exact ⟨t, fun _ => ⟨va_Zof (hts _ (stT_in 2 (by decide))) (hts _ in_X5) ht hA, h⟩⟩
    | 3 =>
      obtain ⟨t, ht, h⟩ := va_Tof (tm := (Term.static RX5 "WINDAGES" "[I")) (ty := .int) (N := 4) (f := fun j => .int (tbV 3 j)) (A := A0) (by decide) (hn (Cond.arrayOf (Term.static RX5 "WINDAGES" "[I") .int) (by decide +kernel)) (va_eqt (z := 4) (hn (Cond.eq (Term.length (Term.static RX5 "WINDAGES" "[I")) (.int 4)) (by decide +kernel))) (fun j hj => by
        match j, hj with
        | 0, _ => exact va_eqt (hn (Cond.eq (Term.elem (Term.static RX5 "WINDAGES" "[I") (.int 0)) (.int 1)) (by decide +kernel))
        | 1, _ => exact va_eqt (hn (Cond.eq (Term.elem (Term.static RX5 "WINDAGES" "[I") (.int 1)) (.int 0)) (by decide +kernel))
        | 2, _ => exact va_eqt (hn (Cond.eq (Term.elem (Term.static RX5 "WINDAGES" "[I") (.int 2)) (.int 2)) (by decide +kernel))
        | 3, _ => exact va_eqt (hn (Cond.eq (Term.elem (Term.static RX5 "WINDAGES" "[I") (.int 3)) (.int 3)) (by decide +kernel))
        | j + 4, hj => exact absurd hj (by omega)) hA
      exact ⟨t, fun _ => ⟨va_Zof (hts _ (stT_in 3 (by decide))) (hts _ in_X5) ht hA, h⟩⟩
    | 4 =>
      obtain ⟨t, ht, h⟩ := va_Tof (tm := (Term.static RX5 "WIND_X" "[I")) (ty := .int) (N := 5) (f := fun j => .int (tbV 4 j)) (A := A0) (by decide) (hn (Cond.arrayOf (Term.static RX5 "WIND_X" "[I") .int) (by decide +kernel)) (va_eqt (z := 5) (hn (Cond.eq (Term.length (Term.static RX5 "WIND_X" "[I")) (.int 5)) (by decide +kernel))) (fun j hj => by
        match j, hj with
        | 0, _ => exact va_eqt (hn (Cond.eq (Term.elem (Term.static RX5 "WIND_X" "[I") (.int 0)) (.int 0)) (by decide +kernel))
        | 1, _ => exact va_eqt (hn (Cond.eq (Term.elem (Term.static RX5 "WIND_X" "[I") (.int 1)) (.int 0)) (by decide +kernel))
        | 2, _ => exact va_eqt (hn (Cond.eq (Term.elem (Term.static RX5 "WIND_X" "[I") (.int 2)) (.int 1)) (by decide +kernel))
        | 3, _ => exact va_eqt (hn (Cond.eq (Term.elem (Term.static RX5 "WIND_X" "[I") (.int 3)) (.int 0)) (by decide +kernel))
        | 4, _ => exact va_eqt (hn (Cond.eq (Term.elem (Term.static RX5 "WIND_X" "[I") (.int 4)) (.int (-1))) (by decide +kernel))
        | j + 5, hj => exact absurd hj (by omega)) hA
      exact ⟨t, fun _ => ⟨va_Zof (hts _ (stT_in 4 (by decide))) (hts _ in_X5) ht hA, h⟩⟩
    | 5 =>
      obtain ⟨t, ht, h⟩ := va_Tof (tm := (Term.static RX5 "WIND_Y" "[I")) (ty := .int) (N := 5) (f := fun j => .int (tbV 5 j)) (A := A0) (by decide) (hn (Cond.arrayOf (Term.static RX5 "WIND_Y" "[I") .int) (by decide +kernel)) (va_eqt (z := 5) (hn (Cond.eq (Term.length (Term.static RX5 "WIND_Y" "[I")) (.int 5)) (by decide +kernel))) (fun j hj => by
        match j, hj with
        | 0, _ => exact va_eqt (hn (Cond.eq (Term.elem (Term.static RX5 "WIND_Y" "[I") (.int 0)) (.int 0)) (by decide +kernel))
        | 1, _ => exact va_eqt (hn (Cond.eq (Term.elem (Term.static RX5 "WIND_Y" "[I") (.int 1)) (.int (-1))) (by decide +kernel))
        | 2, _ => exact va_eqt (hn (Cond.eq (Term.elem (Term.static RX5 "WIND_Y" "[I") (.int 2)) (.int 0)) (by decide +kernel))
        | 3, _ => exact va_eqt (hn (Cond.eq (Term.elem (Term.static RX5 "WIND_Y" "[I") (.int 3)) (.int 1)) (by decide +kernel))
        | 4, _ => exact va_eqt (hn (Cond.eq (Term.elem (Term.static RX5 "WIND_Y" "[I") (.int 4)) (.int 0)) (by decide +kernel))
        | j + 5, hj => exact absurd hj (by omega)) hA
      exact ⟨t, fun _ => ⟨va_Zof (hts _ (stT_in 5 (by decide))) (hts _ in_X5) ht hA, h⟩⟩
    | i + 6 => exact ⟨0, fun h => absurd h (by omega)⟩
  obtain ⟨sT9, hT⟩ := Classical.axiomOfChoice hT
  obtain ⟨sK9, sV9, hStr, hStrE⟩ := vk_Sof (args := #[Value.ref b]) (s := s) (N := 8) (tm := fun i => Term.string RX1 (tx_ix i)) (len := tx_len) (byt := tx_byt) (A := A0)
    (fun i hi => by match i, hi with
      | 0, _ => decide
      | 1, _ => decide
      | 2, _ => decide
      | 3, _ => decide
      | 4, _ => decide
      | 5, _ => decide
      | 6, _ => decide
      | 7, _ => decide
      | i + 8, hi => exact absurd hi (by omega))
    (fun i hi => by match i, hi with
      | 0, _ => exact hn (Cond.exactly (Term.string RX1 54) "java/lang/String") (by decide +kernel)
      | 1, _ => exact hn (Cond.exactly (Term.string RX1 64) "java/lang/String") (by decide +kernel)
      | 2, _ => exact hn (Cond.exactly (Term.string RX1 66) "java/lang/String") (by decide +kernel)
      | 3, _ => exact hn (Cond.exactly (Term.string RX1 68) "java/lang/String") (by decide +kernel)
      | 4, _ => exact hn (Cond.exactly (Term.string RX1 70) "java/lang/String") (by decide +kernel)
      | 5, _ => exact hn (Cond.exactly (Term.string RX1 75) "java/lang/String") (by decide +kernel)
      | 6, _ => exact hn (Cond.exactly (Term.string RX1 80) "java/lang/String") (by decide +kernel)
      | 7, _ => exact hn (Cond.exactly (Term.string RX1 85) "java/lang/String") (by decide +kernel)
      | i + 8, hi => exact absurd hi (by omega))
    (fun i hi => by match i, hi with
      | 0, _ => exact hn (Cond.eq (Term.field (Term.string RX1 54) "java/lang/String" "coder" "B") (.int 0)) (by decide +kernel)
      | 1, _ => exact hn (Cond.eq (Term.field (Term.string RX1 64) "java/lang/String" "coder" "B") (.int 0)) (by decide +kernel)
      | 2, _ => exact hn (Cond.eq (Term.field (Term.string RX1 66) "java/lang/String" "coder" "B") (.int 0)) (by decide +kernel)
      | 3, _ => exact hn (Cond.eq (Term.field (Term.string RX1 68) "java/lang/String" "coder" "B") (.int 0)) (by decide +kernel)
      | 4, _ => exact hn (Cond.eq (Term.field (Term.string RX1 70) "java/lang/String" "coder" "B") (.int 0)) (by decide +kernel)
      | 5, _ => exact hn (Cond.eq (Term.field (Term.string RX1 75) "java/lang/String" "coder" "B") (.int 0)) (by decide +kernel)
      | 6, _ => exact hn (Cond.eq (Term.field (Term.string RX1 80) "java/lang/String" "coder" "B") (.int 0)) (by decide +kernel)
      | 7, _ => exact hn (Cond.eq (Term.field (Term.string RX1 85) "java/lang/String" "coder" "B") (.int 0)) (by decide +kernel)
      | i + 8, hi => exact absurd hi (by omega))
    (fun i hi => by match i, hi with
      | 0, _ => exact hn (Cond.arrayOf (Term.field (Term.string RX1 54) "java/lang/String" "value" "[B") .byte) (by decide +kernel)
      | 1, _ => exact hn (Cond.arrayOf (Term.field (Term.string RX1 64) "java/lang/String" "value" "[B") .byte) (by decide +kernel)
      | 2, _ => exact hn (Cond.arrayOf (Term.field (Term.string RX1 66) "java/lang/String" "value" "[B") .byte) (by decide +kernel)
      | 3, _ => exact hn (Cond.arrayOf (Term.field (Term.string RX1 68) "java/lang/String" "value" "[B") .byte) (by decide +kernel)
      | 4, _ => exact hn (Cond.arrayOf (Term.field (Term.string RX1 70) "java/lang/String" "value" "[B") .byte) (by decide +kernel)
      | 5, _ => exact hn (Cond.arrayOf (Term.field (Term.string RX1 75) "java/lang/String" "value" "[B") .byte) (by decide +kernel)
      | 6, _ => exact hn (Cond.arrayOf (Term.field (Term.string RX1 80) "java/lang/String" "value" "[B") .byte) (by decide +kernel)
      | 7, _ => exact hn (Cond.arrayOf (Term.field (Term.string RX1 85) "java/lang/String" "value" "[B") .byte) (by decide +kernel)
      | i + 8, hi => exact absurd hi (by omega))
    (fun i hi => by match i, hi with
      | 0, _ => exact hn (Cond.eq (Term.length (Term.field (Term.string RX1 54) "java/lang/String" "value" "[B")) (.int 3)) (by decide +kernel)
      | 1, _ => exact hn (Cond.eq (Term.length (Term.field (Term.string RX1 64) "java/lang/String" "value" "[B")) (.int 6)) (by decide +kernel)
      | 2, _ => exact hn (Cond.eq (Term.length (Term.field (Term.string RX1 66) "java/lang/String" "value" "[B")) (.int 5)) (by decide +kernel)
      | 3, _ => exact hn (Cond.eq (Term.length (Term.field (Term.string RX1 68) "java/lang/String" "value" "[B")) (.int 4)) (by decide +kernel)
      | 4, _ => exact hn (Cond.eq (Term.length (Term.field (Term.string RX1 70) "java/lang/String" "value" "[B")) (.int 4)) (by decide +kernel)
      | 5, _ => exact hn (Cond.eq (Term.length (Term.field (Term.string RX1 75) "java/lang/String" "value" "[B")) (.int 7)) (by decide +kernel)
      | 6, _ => exact hn (Cond.eq (Term.length (Term.field (Term.string RX1 80) "java/lang/String" "value" "[B")) (.int 4)) (by decide +kernel)
      | 7, _ => exact hn (Cond.eq (Term.length (Term.field (Term.string RX1 85) "java/lang/String" "value" "[B")) (.int 5)) (by decide +kernel)
      | i + 8, hi => exact absurd hi (by omega))
    (fun i hi j hj => by match i, hi, j, hj with
      | 0, _, 0, _ => exact hn (Cond.eq (Term.elem (Term.field (Term.string RX1 54) "java/lang/String" "value" "[B") (.int 0)) (.int 116)) (by decide +kernel)
      | 0, _, 1, _ => exact hn (Cond.eq (Term.elem (Term.field (Term.string RX1 54) "java/lang/String" "value" "[B") (.int 1)) (.int 117)) (by decide +kernel)
      | 0, _, 2, _ => exact hn (Cond.eq (Term.elem (Term.field (Term.string RX1 54) "java/lang/String" "value" "[B") (.int 2)) (.int 98)) (by decide +kernel)
      | 0, _, j + 3, hj => exact absurd hj (by show ¬ j + 3 < 3; omega)
      | 1, _, 0, _ => exact hn (Cond.eq (Term.elem (Term.field (Term.string RX1 64) "java/lang/String" "value" "[B") (.int 0)) (.int 98)) (by decide +kernel)
      | 1, _, 1, _ => exact hn (Cond.eq (Term.elem (Term.field (Term.string RX1 64) "java/lang/String" "value" "[B") (.int 1)) (.int 111)) (by decide +kernel)
      | 1, _, 2, _ => exact hn (Cond.eq (Term.elem (Term.field (Term.string RX1 64) "java/lang/String" "value" "[B") (.int 2)) (.int 116)) (by decide +kernel)
      | 1, _, 3, _ => exact hn (Cond.eq (Term.elem (Term.field (Term.string RX1 64) "java/lang/String" "value" "[B") (.int 3)) (.int 116)) (by decide +kernel)
      | 1, _, 4, _ => exact hn (Cond.eq (Term.elem (Term.field (Term.string RX1 64) "java/lang/String" "value" "[B") (.int 4)) (.int 108)) (by decide +kernel)
      | 1, _, 5, _ => exact hn (Cond.eq (Term.elem (Term.field (Term.string RX1 64) "java/lang/String" "value" "[B") (.int 5)) (.int 101)) (by decide +kernel)
      | 1, _, j + 6, hj => exact absurd hj (by show ¬ j + 6 < 6; omega)
      | 2, _, 0, _ => exact hn (Cond.eq (Term.elem (Term.field (Term.string RX1 66) "java/lang/String" "value" "[B") (.int 0)) (.int 112)) (by decide +kernel)
      | 2, _, 1, _ => exact hn (Cond.eq (Term.elem (Term.field (Term.string RX1 66) "java/lang/String" "value" "[B") (.int 1)) (.int 105)) (by decide +kernel)
      | 2, _, 2, _ => exact hn (Cond.eq (Term.elem (Term.field (Term.string RX1 66) "java/lang/String" "value" "[B") (.int 2)) (.int 97)) (by decide +kernel)
      | 2, _, 3, _ => exact hn (Cond.eq (Term.elem (Term.field (Term.string RX1 66) "java/lang/String" "value" "[B") (.int 3)) (.int 110)) (by decide +kernel)
      | 2, _, 4, _ => exact hn (Cond.eq (Term.elem (Term.field (Term.string RX1 66) "java/lang/String" "value" "[B") (.int 4)) (.int 111)) (by decide +kernel)
      | 2, _, j + 5, hj => exact absurd hj (by show ¬ j + 5 < 5; omega)
      | 3, _, 0, _ => exact hn (Cond.eq (Term.elem (Term.field (Term.string RX1 68) "java/lang/String" "value" "[B") (.int 0)) (.int 99)) (by decide +kernel)
      | 3, _, 1, _ => exact hn (Cond.eq (Term.elem (Term.field (Term.string RX1 68) "java/lang/String" "value" "[B") (.int 1)) (.int 111)) (by decide +kernel)
      | 3, _, 2, _ => exact hn (Cond.eq (Term.elem (Term.field (Term.string RX1 68) "java/lang/String" "value" "[B") (.int 2)) (.int 111)) (by decide +kernel)
      | 3, _, 3, _ => exact hn (Cond.eq (Term.elem (Term.field (Term.string RX1 68) "java/lang/String" "value" "[B") (.int 3)) (.int 112)) (by decide +kernel)
      | 3, _, j + 4, hj => exact absurd hj (by show ¬ j + 4 < 4; omega)
      | 4, _, 0, _ => exact hn (Cond.eq (Term.elem (Term.field (Term.string RX1 70) "java/lang/String" "value" "[B") (.int 0)) (.int 104)) (by decide +kernel)
      | 4, _, 1, _ => exact hn (Cond.eq (Term.elem (Term.field (Term.string RX1 70) "java/lang/String" "value" "[B") (.int 1)) (.int 101)) (by decide +kernel)
      | 4, _, 2, _ => exact hn (Cond.eq (Term.elem (Term.field (Term.string RX1 70) "java/lang/String" "value" "[B") (.int 2)) (.int 105)) (by decide +kernel)
      | 4, _, 3, _ => exact hn (Cond.eq (Term.elem (Term.field (Term.string RX1 70) "java/lang/String" "value" "[B") (.int 3)) (.int 114)) (by decide +kernel)
      | 4, _, j + 4, hj => exact absurd hj (by show ¬ j + 4 < 4; omega)
      | 5, _, 0, _ => exact hn (Cond.eq (Term.elem (Term.field (Term.string RX1 75) "java/lang/String" "value" "[B") (.int 0)) (.int 99)) (by decide +kernel)
      | 5, _, 1, _ => exact hn (Cond.eq (Term.elem (Term.field (Term.string RX1 75) "java/lang/String" "value" "[B") (.int 1)) (.int 117)) (by decide +kernel)
      | 5, _, 2, _ => exact hn (Cond.eq (Term.elem (Term.field (Term.string RX1 75) "java/lang/String" "value" "[B") (.int 2)) (.int 114)) (by decide +kernel)
      | 5, _, 3, _ => exact hn (Cond.eq (Term.elem (Term.field (Term.string RX1 75) "java/lang/String" "value" "[B") (.int 3)) (.int 114)) (by decide +kernel)
      | 5, _, 4, _ => exact hn (Cond.eq (Term.elem (Term.field (Term.string RX1 75) "java/lang/String" "value" "[B") (.int 4)) (.int 101)) (by decide +kernel)
      | 5, _, 5, _ => exact hn (Cond.eq (Term.elem (Term.field (Term.string RX1 75) "java/lang/String" "value" "[B") (.int 5)) (.int 110)) (by decide +kernel)
      | 5, _, 6, _ => exact hn (Cond.eq (Term.elem (Term.field (Term.string RX1 75) "java/lang/String" "value" "[B") (.int 6)) (.int 116)) (by decide +kernel)
      | 5, _, j + 7, hj => exact absurd hj (by show ¬ j + 7 < 7; omega)
      | 6, _, 0, _ => exact hn (Cond.eq (Term.elem (Term.field (Term.string RX1 80) "java/lang/String" "value" "[B") (.int 0)) (.int 119)) (by decide +kernel)
      | 6, _, 1, _ => exact hn (Cond.eq (Term.elem (Term.field (Term.string RX1 80) "java/lang/String" "value" "[B") (.int 1)) (.int 105)) (by decide +kernel)
      | 6, _, 2, _ => exact hn (Cond.eq (Term.elem (Term.field (Term.string RX1 80) "java/lang/String" "value" "[B") (.int 2)) (.int 110)) (by decide +kernel)
      | 6, _, 3, _ => exact hn (Cond.eq (Term.elem (Term.field (Term.string RX1 80) "java/lang/String" "value" "[B") (.int 3)) (.int 100)) (by decide +kernel)
      | 6, _, j + 4, hj => exact absurd hj (by show ¬ j + 4 < 4; omega)
      | 7, _, 0, _ => exact hn (Cond.eq (Term.elem (Term.field (Term.string RX1 85) "java/lang/String" "value" "[B") (.int 0)) (.int 112)) (by decide +kernel)
      | 7, _, 1, _ => exact hn (Cond.eq (Term.elem (Term.field (Term.string RX1 85) "java/lang/String" "value" "[B") (.int 1)) (.int 104)) (by decide +kernel)
      | 7, _, 2, _ => exact hn (Cond.eq (Term.elem (Term.field (Term.string RX1 85) "java/lang/String" "value" "[B") (.int 2)) (.int 97)) (by decide +kernel)
      | 7, _, 3, _ => exact hn (Cond.eq (Term.elem (Term.field (Term.string RX1 85) "java/lang/String" "value" "[B") (.int 3)) (.int 115)) (by decide +kernel)
      | 7, _, 4, _ => exact hn (Cond.eq (Term.elem (Term.field (Term.string RX1 85) "java/lang/String" "value" "[B") (.int 4)) (.int 101)) (by decide +kernel)
      | 7, _, j + 5, hj => exact absurd hj (by show ¬ j + 5 < 5; omega)
      | i + 8, hi, _, _ => exact absurd hi (by omega))
    (fun i j hi hj hij => by match i, hi, j, hj with
      | 0, _, 0, _ => exact absurd rfl hij
      | 0, _, 1, _ => exact Or.inl (hn (Cond.not (Cond.eq (Term.string RX1 54) (Term.string RX1 64))) (by decide +kernel))
      | 0, _, 2, _ => exact Or.inl (hn (Cond.not (Cond.eq (Term.string RX1 54) (Term.string RX1 66))) (by decide +kernel))
      | 0, _, 3, _ => exact Or.inl (hn (Cond.not (Cond.eq (Term.string RX1 54) (Term.string RX1 68))) (by decide +kernel))
      | 0, _, 4, _ => exact Or.inl (hn (Cond.not (Cond.eq (Term.string RX1 54) (Term.string RX1 70))) (by decide +kernel))
      | 0, _, 5, _ => exact Or.inl (hn (Cond.not (Cond.eq (Term.string RX1 54) (Term.string RX1 75))) (by decide +kernel))
      | 0, _, 6, _ => exact Or.inl (hn (Cond.not (Cond.eq (Term.string RX1 54) (Term.string RX1 80))) (by decide +kernel))
      | 0, _, 7, _ => exact Or.inl (hn (Cond.not (Cond.eq (Term.string RX1 54) (Term.string RX1 85))) (by decide +kernel))
      | 0, _, j + 8, hj => exact absurd hj (by omega)
      | 1, _, 0, _ => exact Or.inr (hn (Cond.not (Cond.eq (Term.string RX1 54) (Term.string RX1 64))) (by decide +kernel))
      | 1, _, 1, _ => exact absurd rfl hij
      | 1, _, 2, _ => exact Or.inl (hn (Cond.not (Cond.eq (Term.string RX1 64) (Term.string RX1 66))) (by decide +kernel))
      | 1, _, 3, _ => exact Or.inl (hn (Cond.not (Cond.eq (Term.string RX1 64) (Term.string RX1 68))) (by decide +kernel))
      | 1, _, 4, _ => exact Or.inl (hn (Cond.not (Cond.eq (Term.string RX1 64) (Term.string RX1 70))) (by decide +kernel))
      | 1, _, 5, _ => exact Or.inl (hn (Cond.not (Cond.eq (Term.string RX1 64) (Term.string RX1 75))) (by decide +kernel))
      | 1, _, 6, _ => exact Or.inl (hn (Cond.not (Cond.eq (Term.string RX1 64) (Term.string RX1 80))) (by decide +kernel))
      | 1, _, 7, _ => exact Or.inl (hn (Cond.not (Cond.eq (Term.string RX1 64) (Term.string RX1 85))) (by decide +kernel))
      | 1, _, j + 8, hj => exact absurd hj (by omega)
      | 2, _, 0, _ => exact Or.inr (hn (Cond.not (Cond.eq (Term.string RX1 54) (Term.string RX1 66))) (by decide +kernel))
      | 2, _, 1, _ => exact Or.inr (hn (Cond.not (Cond.eq (Term.string RX1 64) (Term.string RX1 66))) (by decide +kernel))
      | 2, _, 2, _ => exact absurd rfl hij
      | 2, _, 3, _ => exact Or.inl (hn (Cond.not (Cond.eq (Term.string RX1 66) (Term.string RX1 68))) (by decide +kernel))
      | 2, _, 4, _ => exact Or.inl (hn (Cond.not (Cond.eq (Term.string RX1 66) (Term.string RX1 70))) (by decide +kernel))
      | 2, _, 5, _ => exact Or.inl (hn (Cond.not (Cond.eq (Term.string RX1 66) (Term.string RX1 75))) (by decide +kernel))
      | 2, _, 6, _ => exact Or.inl (hn (Cond.not (Cond.eq (Term.string RX1 66) (Term.string RX1 80))) (by decide +kernel))
      | 2, _, 7, _ => exact Or.inl (hn (Cond.not (Cond.eq (Term.string RX1 66) (Term.string RX1 85))) (by decide +kernel))
      | 2, _, j + 8, hj => exact absurd hj (by omega)
      | 3, _, 0, _ => exact Or.inr (hn (Cond.not (Cond.eq (Term.string RX1 54) (Term.string RX1 68))) (by decide +kernel))
      | 3, _, 1, _ => exact Or.inr (hn (Cond.not (Cond.eq (Term.string RX1 64) (Term.string RX1 68))) (by decide +kernel))
      | 3, _, 2, _ => exact Or.inr (hn (Cond.not (Cond.eq (Term.string RX1 66) (Term.string RX1 68))) (by decide +kernel))
      | 3, _, 3, _ => exact absurd rfl hij
      | 3, _, 4, _ => exact Or.inl (hn (Cond.not (Cond.eq (Term.string RX1 68) (Term.string RX1 70))) (by decide +kernel))
      | 3, _, 5, _ => exact Or.inl (hn (Cond.not (Cond.eq (Term.string RX1 68) (Term.string RX1 75))) (by decide +kernel))
      | 3, _, 6, _ => exact Or.inl (hn (Cond.not (Cond.eq (Term.string RX1 68) (Term.string RX1 80))) (by decide +kernel))
      | 3, _, 7, _ => exact Or.inl (hn (Cond.not (Cond.eq (Term.string RX1 68) (Term.string RX1 85))) (by decide +kernel))
      | 3, _, j + 8, hj => exact absurd hj (by omega)
      | 4, _, 0, _ => exact Or.inr (hn (Cond.not (Cond.eq (Term.string RX1 54) (Term.string RX1 70))) (by decide +kernel))
      | 4, _, 1, _ => exact Or.inr (hn (Cond.not (Cond.eq (Term.string RX1 64) (Term.string RX1 70))) (by decide +kernel))
      | 4, _, 2, _ => exact Or.inr (hn (Cond.not (Cond.eq (Term.string RX1 66) (Term.string RX1 70))) (by decide +kernel))
      | 4, _, 3, _ => exact Or.inr (hn (Cond.not (Cond.eq (Term.string RX1 68) (Term.string RX1 70))) (by decide +kernel))
      | 4, _, 4, _ => exact absurd rfl hij
      | 4, _, 5, _ => exact Or.inl (hn (Cond.not (Cond.eq (Term.string RX1 70) (Term.string RX1 75))) (by decide +kernel))
      | 4, _, 6, _ => exact Or.inl (hn (Cond.not (Cond.eq (Term.string RX1 70) (Term.string RX1 80))) (by decide +kernel))
      | 4, _, 7, _ => exact Or.inl (hn (Cond.not (Cond.eq (Term.string RX1 70) (Term.string RX1 85))) (by decide +kernel))
      | 4, _, j + 8, hj => exact absurd hj (by omega)
      | 5, _, 0, _ => exact Or.inr (hn (Cond.not (Cond.eq (Term.string RX1 54) (Term.string RX1 75))) (by decide +kernel))
      | 5, _, 1, _ => exact Or.inr (hn (Cond.not (Cond.eq (Term.string RX1 64) (Term.string RX1 75))) (by decide +kernel))
      | 5, _, 2, _ => exact Or.inr (hn (Cond.not (Cond.eq (Term.string RX1 66) (Term.string RX1 75))) (by decide +kernel))
      | 5, _, 3, _ => exact Or.inr (hn (Cond.not (Cond.eq (Term.string RX1 68) (Term.string RX1 75))) (by decide +kernel))
      | 5, _, 4, _ => exact Or.inr (hn (Cond.not (Cond.eq (Term.string RX1 70) (Term.string RX1 75))) (by decide +kernel))
      | 5, _, 5, _ => exact absurd rfl hij
      | 5, _, 6, _ => exact Or.inl (hn (Cond.not (Cond.eq (Term.string RX1 75) (Term.string RX1 80))) (by decide +kernel))
      | 5, _, 7, _ => exact Or.inl (hn (Cond.not (Cond.eq (Term.string RX1 75) (Term.string RX1 85))) (by decide +kernel))
      | 5, _, j + 8, hj => exact absurd hj (by omega)
      | 6, _, 0, _ => exact Or.inr (hn (Cond.not (Cond.eq (Term.string RX1 54) (Term.string RX1 80))) (by decide +kernel))
      | 6, _, 1, _ => exact Or.inr (hn (Cond.not (Cond.eq (Term.string RX1 64) (Term.string RX1 80))) (by decide +kernel))
      | 6, _, 2, _ => exact Or.inr (hn (Cond.not (Cond.eq (Term.string RX1 66) (Term.string RX1 80))) (by decide +kernel))
      | 6, _, 3, _ => exact Or.inr (hn (Cond.not (Cond.eq (Term.string RX1 68) (Term.string RX1 80))) (by decide +kernel))
      | 6, _, 4, _ => exact Or.inr (hn (Cond.not (Cond.eq (Term.string RX1 70) (Term.string RX1 80))) (by decide +kernel))
      | 6, _, 5, _ => exact Or.inr (hn (Cond.not (Cond.eq (Term.string RX1 75) (Term.string RX1 80))) (by decide +kernel))
      | 6, _, 6, _ => exact absurd rfl hij
      | 6, _, 7, _ => exact Or.inl (hn (Cond.not (Cond.eq (Term.string RX1 80) (Term.string RX1 85))) (by decide +kernel))
      | 6, _, j + 8, hj => exact absurd hj (by omega)
      | 7, _, 0, _ => exact Or.inr (hn (Cond.not (Cond.eq (Term.string RX1 54) (Term.string RX1 85))) (by decide +kernel))
      | 7, _, 1, _ => exact Or.inr (hn (Cond.not (Cond.eq (Term.string RX1 64) (Term.string RX1 85))) (by decide +kernel))
      | 7, _, 2, _ => exact Or.inr (hn (Cond.not (Cond.eq (Term.string RX1 66) (Term.string RX1 85))) (by decide +kernel))
      | 7, _, 3, _ => exact Or.inr (hn (Cond.not (Cond.eq (Term.string RX1 68) (Term.string RX1 85))) (by decide +kernel))
      | 7, _, 4, _ => exact Or.inr (hn (Cond.not (Cond.eq (Term.string RX1 70) (Term.string RX1 85))) (by decide +kernel))
      | 7, _, 5, _ => exact Or.inr (hn (Cond.not (Cond.eq (Term.string RX1 75) (Term.string RX1 85))) (by decide +kernel))
      | 7, _, 6, _ => exact Or.inr (hn (Cond.not (Cond.eq (Term.string RX1 80) (Term.string RX1 85))) (by decide +kernel))
      | 7, _, 7, _ => exact absurd rfl hij
      | 7, _, j + 8, hj => exact absurd hj (by omega)
      | i + 8, hi, _, _ => exact absurd hi (by omega)) hA
  refine ⟨(l, (fun k => (f k).1, fun k => (f k).2), (fun k => s.heap.size + k), (fun t => match t with | 0 => cI | 1 => cZ | 2 => c2 | _ => c3), sT9, sK9, sV9), rfl, C0, ⟨fun c q h => hf c q h, fun k q h => ?_⟩, ?_, ⟨va_AO.of (hts _ ao_2), va_AO.of (hts _ ao_3), fun q hq => va_Nw.of rfl (hts _ (List.mem_append_right _ (nestF_in q hq))), fun q hq => va_Nw.of rfl (hts _ (List.mem_append_right _ (nestM_in q hq)))⟩, fun k => rfl⟩
  · match k, h with
    | 0, h => cases h; exact ⟨fun n z => ⟨(fun k h => by cases h), kI, i2, coI, i3⟩, i1⟩
    | 1, h => cases h; exact ⟨fun n z => ⟨(fun k h => by cases h), kZ, z2, coZ, z3⟩, z1⟩
    | 2, h => cases h; exact ⟨fun n z => ⟨(fun k h => by cases h), k2, o3, co2, o4⟩, k2, co2, o3, o4, o1, o5⟩
    | 3, h => cases h; exact ⟨fun n z => ⟨(fun k h => by cases h), k3, u3, co3, u4⟩, k3, co3, u3, u4, u1, u5⟩
    | k + 4, h => cases h
  · subst hA0
    exact ⟨fun i hi => hT i hi, hStr, fun i hi => vk_R.of (hts _ (sr_in i hi)) (hStrE i hi), va_Zof (hts _ st_CS) (hts _ in_String) (va_eqi (hn (Cond.eq (Term.static "java/lang/String" "COMPACT_STRINGS" "Z") (.int 1)) (by decide +kernel))) hA, va_Zqof (hts _ st_FM) (hts _ in_Prec) (hn (Cond.isRef (Term.static "jdk/internal/util/Preconditions" "SIOOBE_FORMATTER" "Ljava/util/function/BiFunction;")) (by decide +kernel)) hA, fun q hq => va_Nw.of rfl (hts _ (List.mem_append_right _ (nestF_in q hq))), fun q hq => va_Nw.of rfl (hts _ (List.mem_append_right _ (nestM_in q hq)))⟩
def slotR (k j : Nat) : Bool := if kd k < 7 then isRefF (kd k) j else decide (9 ≤ kd k)
def fullR (R : RM) : Bool := (List.range NC).all fun k => (List.range (ln k)).all fun j => !(slotR k j) || decide (R k j = some (rf k j))
theorem ln_obj : ∀ k, k < NC → kd k < 7 → nf (kd k) = ln k := by decide +kernel
theorem full_of {R : RM} (h : fullR R = true) {k j : Nat} (hk : k < NC) (hj : j < ln k) (hs : slotR k j = true) : R k j = some (rf k j) := by
  have h1 := List.all_eq_true.mp (List.all_eq_true.mp h k (List.mem_range.mpr hk)) j (List.mem_range.mpr hj)
  rw [hs] at h1
  simpa using h1
theorem wl_full {E : GE} {R : RM} {M : Mem} {H : Heap} (h : fullR R = true) (hP : va_P (ge_D E) vwCl (wlR E R NC M) H) : va_P (ge_D E) vwCl (wl E M) H := by
  intro k q hq
  have hk : k < NC := by
    have := (List.getElem?_eq_some_iff.mp hq).1
    simpa [wl] using this
  rw [wl_at E M hk] at hq
  cases hq
  have h1 := hP k _ (wlR_at E R M hk)
  by_cases h7 : kd k < 7
  · obtain ⟨r, hcl⟩ : ∃ r, vwCl[kd k]? = some r := ⟨vwCl[kd k]'h7, List.getElem?_eq_getElem h7⟩
    have e1 := entR_obj (E := E) (R := R) (M k) rfl (show vwCl[kd k]? = some (r.1, r.2.1, r.2.2) from hcl)
    have e2 := ent_obj (E := E) (M k) rfl (show vwCl[kd k]? = some (r.1, r.2.1, r.2.2) from hcl)
    rw [e2]
    rw [e1] at h1
    have e3 : (List.range r.2.2).map (fvR E R k (kd k) (M k)) = (List.range r.2.2).map (fv E k (kd k) (M k)) := by
      apply List.map_congr_left
      intro j hj
      have hj := List.mem_range.mp hj
      have hln : r.2.2 = ln k := by rw [← ln_obj k hk h7]; simp [nf, hcl]
      unfold fvR fv
      by_cases hr : isRefF (kd k) j = true
      · rw [if_pos hr, if_pos hr, full_of h hk (by omega) (by unfold slotR; rw [if_pos h7]; exact hr)]
        rfl
      · rw [if_neg hr, if_neg hr]
    rw [e3] at h1
    exact h1
  · by_cases h9 : kd k < 9
    · have e : entR E R k (M k) = ent E k (M k) := by
        unfold entR ent
        rw [if_neg h7, if_neg h7, if_pos h9, if_pos h9]
      rw [e] at h1
      exact h1
    · have e1 : entR E R k (M k) = .inl (ge_cy E (kd k - 7), ln k, .inr (.inr (.inr (.inr (fun j => (R k j).map (ad E)))))) := by
        unfold entR
        rw [if_neg h7, if_neg h9]
      have e2 : ent E k (M k) = .inl (ge_cy E (kd k - 7), ln k, .inr (.inr (.inr (.inr (fun j => some (ad E (rf k j))))))) := by
        unfold ent
        rw [if_neg h7, if_neg h9]
      rw [e1] at h1
      rw [e2]
      have h2 : H[ad E k]? = some (vp_cell _ _) := h1
      show H[ad E k]? = some (vp_cell _ _)
      rw [h2, vp_cell_q, vp_cell_q]
      congr 1
      unfold arrV
      congr 1
      congr 1
      funext j
      show va_rf ((R k j.val).map (ad E)) = va_rf (some (ad E (rf k j.val)))
      rw [full_of h hk j.isLt (by unfold slotR; rw [if_neg h7]; simp; omega)]
      rfl
def RINIT : RM := rX6_init (upOR (rX5_init (upOR (fun _ _ => none) 0 (fun _ => none))) 54 (fun _ => none))
def MINIT : Mem := mX6_init (upR (mX5_init (upR (fun _ _ => 0) 0 (fun _ => 0))) 54 (fun _ => 0))
theorem rinit_full : fullR RINIT = true := by decide +kernel
theorem law_start {p : Program} {e : Env} {s : State} {m : MethodId} {below : List Frame} {meth : Method} {c : Code} (l : Launch) {b L : Nat} {xs : Nat → Int32} (hL : L ≤ 320) (C0 : lw_At p s m meth c b L xs) {Rel : Mem → Prop} (hSt : StepAll Rel) (h0 : Rel MINIT) : W p l e room_1 s m #[Value.ref b] below meth c s.heap [] 0 0 (lw_Z below #[Value.ref b] s) (entryFrame m ([Value.ref b] : List Value).toArray 4) := by
  obtain ⟨E, rfl, C⟩ := law_E l C0
  obtain ⟨⟨hx, hb, hr, hml, hown, hts, hX, hbl, hlk, hgv⟩, hK, hSta, hSc, hB⟩ := id C
  have g : ∀ w ∈ gwL, w.before #[Value.ref b] s = true := fun w h => hts w (List.mem_filter.mp h).1
  have hG : ∀ (z : MI) (k : Nat), MCC z k → GoodIn gwL (ws z) := fun z k h w hw => by
    rcases List.mem_cons.mp hw with q | q
    · rw [q]; exact ⟨h.1.2, good_of_word (List.mem_filter.mp h.1.2).2⟩
    · exact ⟨q, good_of_word (List.mem_filter.mp q).2⟩
  have hP : va_P (ge_D E) vwCl (wlR E (fun _ _ => none) 0 (fun _ _ => 0)) s.heap := fun k q h => by simp [wlR] at h
  have hS : va_S (AC s.heap.size) s.heap s.heap [] := va_S.rf
  have hl := lv_entry ([.ref b]) (n := 4) (Nat.le_of_ble_eq_true rfl)
  rw [lg_entry_eq]
  generalize (lg_sl ([.ref b]) ++ List.replicate (4 - (lg_sl ([.ref b])).length) Slot.unset).toArray = ls at hl ⊢
  have hl : lv_has ls 4 [(0, .ref b)] := hl
  refine w_new (n := 0) hx hb g hown hK hB dL_law_0 (c := 5) rfl rfl nk_L_X5 ni_X5 nn_X5 tyX5 tyX5_ok new_ty5 (Nat.le_of_ble_eq_true rfl) (Nat.le_of_ble_eq_true rfl) rfl hP hS (fun H hz hP hS => ?_)
  refine lv_dup hx hb dL_law_3 rfl ?_
  refine ec_call (va_runI (own := R_law) (As := []) (rest := [.ref (ad E 0)]) ⟨hx, hb, hml, hown, g⟩ (k_X5_init (Q := fun n1 R1 M1 => n1 = 54 ∧ R1 = _ ∧ M1 = _) ⟨rfl, rfl, rfl⟩) ⟨callB_of 0 g (hG _ _ mcc_X5_init) rfl rfl rfl (g _ mcc_X5_init.1.1) (g _ ki_L_X5) ⟨mcc_X5_init.2.2.1, mcc_X5_init.2.2.2.1, mcc_X5_init.2.2.2.2.1⟩ (by exact ⟨Nat.le_of_ble_eq_true rfl, Nat.le_of_ble_eq_true rfl⟩), rfl, g _ mcc_X5_init.2.2.2.2.2⟩ ⟨prec_blind, fun U hU hW => prec_at hU hW hz hP hK hSc hB⟩ rfl rfl hl.1 rfl (lv_room (Nat.le_of_ble_eq_true rfl)) dL_law_4 ⟨Nat.le_of_ble_eq_true rfl, Nat.le_of_ble_eq_true rfl⟩) hS (fun n1 R1 M1 H locs hq hz hP hS => ?_)
  obtain ⟨rfl, rfl, rfl⟩ := hq
  refine lv_astore_n (lv' := [(1, .ref (ad E 0)), (0, .ref b)]) hx hb dL_law_7 rfl hl (by decide) rfl (fun ls hl => ?_)
  refine w_new (n := 54) hx hb g hown hK hB dL_law_8 (c := 6) rfl rfl nk_L_X6 ni_X6 nn_X6 tyX6 tyX6_ok new_ty6 (Nat.le_of_ble_eq_true rfl) (Nat.le_of_ble_eq_true rfl) hz hP hS (fun H hz hP hS => ?_)
  refine lv_dup hx hb dL_law_11 rfl ?_
  refine ec_call (va_runI (own := R_law) (As := []) (rest := [.ref (ad E 54)]) ⟨hx, hb, hml, hown, g⟩ (k_X6_init (Q := fun n1 R1 M1 => n1 = 75 ∧ R1 = _ ∧ M1 = _) ⟨rfl, rfl, rfl⟩) ⟨callB_of 0 g (hG _ _ mcc_X6_init) rfl rfl rfl (g _ mcc_X6_init.1.1) (g _ ki_L_X6) ⟨mcc_X6_init.2.2.1, mcc_X6_init.2.2.2.1, mcc_X6_init.2.2.2.2.1⟩ (by exact ⟨Nat.le_of_ble_eq_true rfl, Nat.le_of_ble_eq_true rfl⟩), rfl, g _ mcc_X6_init.2.2.2.2.2⟩ ⟨prec_blind, fun U hU hW => prec_at hU hW hz hP hK hSc hB⟩ rfl rfl hl.1 rfl (lv_room (Nat.le_of_ble_eq_true rfl)) dL_law_12 ⟨Nat.le_of_ble_eq_true rfl, Nat.le_of_ble_eq_true rfl⟩) hS (fun n1 R1 M1 H locs hq hz hP hS => ?_)
  obtain ⟨rfl, rfl, rfl⟩ := hq
  refine lv_astore_n (lv' := [(2, .ref (ad E 54)), (1, .ref (ad E 0)), (0, .ref b)]) hx hb dL_law_15 rfl hl (by decide) rfl (fun ls hl => ?_)
  refine lv_iconst (v := 0) hx hb dL_law_16 (by decide) ?_
  refine lv_istore_n (lv' := [(3, .int 0), (2, .ref (ad E 54)), (1, .ref (ad E 0)), (0, .ref b)]) hx hb dL_law_17 rfl hl (by decide) rfl (fun ls hl => ?_)
  have hP : va_P (ge_D E) vwCl (wlR E RINIT NC MINIT) H := hP
  exact law_head hSt C hL (L + 1) 0 MINIT (by omega) (by omega) h0 ls (by rw [← nI_0] at hl; exact lv_sub hl [3, 2, 1, 0] rfl) H locs (wl_full rinit_full hP) hS
