-- ===== end of PART A; then your names; then what follows =====
/-! THE CLAIM OUT OF ONE WALK OF THE LAW'S BODY. Your part is whole_start (and what it stands on); all else here is the same for every law, but numbers. -/
def R_law : String := "FlotsamWillLaw"
def lw_P (b : Addr) (xs : List Int32) (args : Array Value) (s : State) : Prop := args = #[.ref b] ∧ s.IntsAt b xs ∧ xs.length ≤ 320 ∧ (Jvm.Cond.and given_1 narrow_1).before args s = true
def lw_Q (_ : Array Value) (s : State) (o : Outcome) (t : State) : Prop := o = .returned (some (.int 1)) ∧ Framed s o t [] 75 2222
def lw_Z (below : List Frame) (a : Array Value) (s : State) : State → Prop := fun t => ∃ o, t.status = .running ∧ Ended t below o ∧ lw_Q a s o t
/-- the law's own end, with 1 on the stack, nothing written that was there before, its room as the claim has it -/
theorem lw_ret {p : Program} {l : Launch} {e : Env} {s : State} {m : MethodId} {below : List Frame} {meth : Method} {c : Code} {b : Nat} (hx : p.tables.exec = Jvm.exec) (hb : c.code = code) (hr : meth.sig.returnType = ret) (hlocks : meth.locks = false) {pc : Nat} {H : Heap} {ls : Array Slot} (hdg : decode code pc = .ok (.ireturn, 1)) : W p l e room_1 s m #[Value.ref b] below meth c H [] 75 2222 (lw_Z below #[Value.ref b] s) (F0 m pc ls [.int 1]) := by
  intro T hT X
  obtain ⟨fs, hret, hrun, hended, hW, hframe⟩ := X.leave (v := some (.int 1)) (hlocks := hlocks) (fun h => by rw [hr] at h; cases h)
  have hmeth' : T.vm.method? m = some meth := X.method'
  refine ⟨T.setFrames fs, ?_, .returned (some (.int 1)), hrun, hended, rfl, ⟨_, rfl⟩, hW, hframe⟩
  jvm_step X.here [X.here.top, hx, hb, hdg, hmeth', hr, ret, narrow_b1]
  (try refine ⟨rfl, ?_⟩); (try refine ⟨rfl, ?_⟩)
  first | (intro acts; rw [hret _ acts rfl rfl rfl]) | rw [hret _ _ rfl rfl rfl]
  exact Steps.refl _
/-- what holds at the law's entry: the machine, the code, the tables' words (any of lw_tbl by 'hts w (by decide +kernel)'), the script of L ints xs at the cell b, what the Statement gives of the start (any of its parts by flat_of_before) -/
def lw_At (p : Program) (s : State) (m : MethodId) (meth : Method) (c : Code) (b L : Nat) (xs : Nat → Int32) : Prop :=
  p.tables.exec = Jvm.exec ∧ c.code = code ∧ meth.sig.returnType = ret ∧ c.maxLocals = 4 ∧ s.vm.findClass R_law = some m.cls ∧ (∀ w ∈ lw_tbl, w.before #[Value.ref b] s = true) ∧ va_X b L xs s s.heap ∧ b < s.heap.size ∧ meth.locks = false ∧ (Jvm.Cond.and given_1 narrow_1).before #[Value.ref b] s = true
/-! THE LAW'S BODY over the same graph of cells -/
def LOK (E : GE) (p : Program) (s : State) (m : MethodId) (meth : Method) (c : Code) (b L : Nat) (xs : Nat → Int32) : Prop :=
  lw_At p s m meth c b L xs ∧ va_K (ge_D E) vwCl (tysE E) s ∧ Sta E s s.heap ∧ Stc s ∧ ∀ k, ad E k = s.heap.size + k
def lvL (E : GE) (b i : Nat) : List (Nat × Value) := [(0, .ref b), (1, .ref (ad E 0)), (2, .ref (ad E 54)), (3, .int (nI i))]
def Lx (E : GE) (p : Program) (e : Env) (s : State) (m : MethodId) (below : List Frame) (meth : Method) (c : Code) (b i pc : Nat) (stk : List Value) (M : Mem) : Prop :=
  ∀ ls : Array Slot, lv_has ls 4 (lvL E b i) → ∀ (H : Heap) (locs : List Loc), va_P (ge_D E) vwCl (wl E M) H → va_S (AC s.heap.size) s.heap H locs → W p (ge_l E) e room_1 s m #[Value.ref b] below meth c H locs 75 2222 (lw_Z below #[Value.ref b] s) (F0 m pc ls stk)
section LXR
variable {E : GE} {p : Program} {e : Env} {s : State} {m : MethodId} {below : List Frame} {meth : Method} {c : Code} {b L i pc : Nat} {xs : Nat → Int32} {M : Mem} {stk rest : List Value}
theorem Lx.a (C : LOK E p s m meth c b L xs) (f : Fin 4) {x : Nat} (hd : decode code pc = .ok (.aload_n f, 1)) (hj : (lvL E b i)[(f : Nat)]? = some ((f : Nat), .ref x)) (k : Lx E p e s m below meth c b i (pc + 1) (.ref x :: stk) M) : Lx E p e s m below meth c b i pc stk M := fun ls hl H locs hP hS =>
  lv_aload_n C.1.1 C.1.2.1 hd rfl (lv_at hl _ hj) (k ls hl H locs hP hS)
theorem Lx.arg (C : LOK E p s m meth c b L xs) (j : Nat) (hi : i + 5 ≤ L ∧ L ≤ 320) (hj : j < 5) (d0 : decode code pc = .ok (.aload_n 0, 1)) (d1 : decode code (pc + 1) = .ok (.iload_n 3, 1)) (d2 : decode code (pc + 1 + 1) = .ok (.iconst (j : Int), 1)) (d3 : decode code (pc + 1 + 1 + 1) = .ok (.iadd, 1)) (d4 : decode code (pc + 1 + 1 + 1 + 1) = .ok (.iaload, 1)) (k : Lx E p e s m below meth c b i (pc + 1 + 1 + 1 + 1 + 1) (.int (xs (i + j)) :: stk) M) : Lx E p e s m below meth c b i pc stk M := by
  intro ls hl H locs hP hS
  obtain ⟨⟨hx, hb, hr, hml, hown, hts, hX, hbl, hlk, hgv⟩, hK, hSt, hSc, hB⟩ := id C
  refine lv_aload_n hx hb d0 rfl (lv_at hl 0 rfl) ?_
  refine lv_iload_n hx hb d1 rfl (lv_at hl 3 rfl) ?_
  refine lv_iconst (v := nI j) hx hb d2 rfl ?_
  refine lv_iadd hx hb d3 ?_
  rw [nI_add]
  refine va_sld hx hb hX hbl (fun h => absurd h (Nat.not_le.mpr hbl)) hS (vp_in_nI (by omega) (by omega)) d4 ?_
  rw [nI_clamp (by omega)]
  exact k ls hl H locs hP hS
theorem Lx.call {idx k n : Nat} {z : MI} {as : List Value} (C : LOK E p s m meth c b L xs) (hd : decode code pc = .ok (.invokevirtual idx, 3)) (hw : CLk R_law idx z) (ho : MOK z n) (hc : clN (kd k) = (mi_nm z).cls) (hc7 : kd k < 7) (hn : k < NC) (hR : (mi_rm z).frames + 1 ≤ room_1.frames ∧ 8 + (mi_maxL z + 11) + (mi_rm z).locals ≤ room_1.locals) (hs : (rest.map fun v => v.category).sum ≤ 8) (ha : as.length = n) (hst : stk = as.reverse ++ .ref (ad E k) :: rest) (hrun : Runs E z (.ref (ad E k) :: as) M (fun v M' => Lx E p e s m below meth c b i (pc + 3) (v.toList ++ rest) M')) : Lx E p e s m below meth c b i pc stk M := by
  intro ls hl H locs hP hS
  obtain ⟨⟨hx, hb, hr, hml, hown, hts, hX, hbl, hlk, hgv⟩, hK, hSt, hSc, hB⟩ := id C
  have g : ∀ w ∈ gwL, w.before #[Value.ref b] s = true := fun w h => hts w (List.mem_filter.mp h).1
  have hAD : AD E := fun i j _ _ h => by rw [hB, hB] at h; omega
  obtain ⟨⟨⟨h1, h2⟩, h3, h4, h5, h6, h7⟩, h8, h9⟩ := ho
  have hG : GoodIn gwL (ws z) := fun w hw => by
    rcases List.mem_cons.mp hw with h | h
    · rw [h]; exact ⟨h2, good_of_word (List.mem_filter.mp h2).2⟩
    · exact ⟨h, good_of_word (List.mem_filter.mp h).2⟩
  have he := wl_at E M hn
  obtain ⟨r, hcl⟩ : ∃ r, vwCl[kd k]? = some r := ⟨vwCl[kd k]'hc7, List.getElem?_eq_getElem hc7⟩
  have hcn : r.1 = (mi_nm z).cls := by rw [← hc]; simp [clN, hcl]
  rw [ent_obj (M k) rfl (show vwCl[kd k]? = some (r.1, r.2.1, r.2.2) from hcl)] at he
  have hcell := va_recv hK hP hcl he
  have hkept : ∀ a : Nat, a < s.heap.size → ¬ AW E a → H[a]? = s.heap[a]? := fun a h1 _ => hS.2.1 a h1 (Nat.not_le.mpr h1)
  have hrun := va_runV (own := R_law) (C := (mi_nm z).cls) (As := as) (rest := rest) (cells := 75) (slots := 2222) (locs := locs) (H := H) (below := below) (e := e) (meth := meth) (g := F0 m pc ls stk) ⟨hx, hb, hml, hown, g⟩ hrun ⟨callB_of n g hG rfl h3 h4 (g _ h1) (g _ hw) ⟨h5, h6, h7⟩ hR, g _ h8, g _ h9⟩ ⟨pre_blind, by rw [hcn] at hcell; exact hcell, fun U hU hW => ⟨rfl, by rw [hU]; exact hP, va_K.moved hW.alike hK, by rw [hU]; exact Sta.warm hW (Sta.kept hkept hSt), hAD⟩⟩ rfl ha hl.1 hst (lv_room hs) hd ⟨Nat.le_of_ble_eq_true rfl, Nat.le_of_ble_eq_true rfl⟩
  intro T hT X
  obtain ⟨v, st₀, t, T', LL, h0, X', hL, e1, e2, ⟨⟨v2, M', hv, hp, hb2⟩, hz, hk⟩, st⟩ := hrun T hT X
  cases hv
  rw [h0] at hz hk
  have hAC : ∀ q, AW E q → AC s.heap.size q := fun q ⟨k, _, h⟩ => by show s.heap.size ≤ q; rw [h, hB]; omega
  obtain ⟨t2, a1, b1⟩ := hp ls hl T'.heap (locs ++ LL) (by rw [e1]; exact hb2) ⟨Nat.le_trans hS.1 (by rw [e1]; exact hz), fun q h1 h2 => by rw [e1, hk q (Nat.lt_of_lt_of_le h1 hS.1) (fun h => h2 (hAC q h))]; exact hS.2.1 q h1 h2, fun q hq => by
      rcases List.mem_append.mp hq with h | h
      · exact hS.2.2 q h
      · exact hAC _ (hL q h)⟩ T' rfl X'
  exact ⟨t2, st t2 a1, b1⟩
theorem Lx.eqI {r : Int32} {off : Int} {tgt : Nat} (C : LOK E p s m meth c b L xs) (hd : decode code pc = .ok (.if_icmp .eq off, 3)) (ht : (pc : Int) + off = (tgt : Int)) (k : Lx E p e s m below meth c b i tgt rest M) : Lx E p e s m below meth c b i pc (.int r :: .int r :: rest) M := fun ls hl H locs hP hS =>
  lv_icmp_eq C.1.1 C.1.2.1 hd ht (fun _ => k ls hl H locs hP hS) (fun h => absurd rfl h)
theorem lg_cmp_self (r : Int64) : lg_cmp r r = 0 := by
  unfold lg_cmp
  rw [if_neg (by simp), if_pos rfl]
theorem Lx.eqL {r : Int64} {off : Int} {tgt : Nat} (C : LOK E p s m meth c b L xs) (hd : decode code pc = .ok (.lcmp, 1)) (hd2 : decode code (pc + 1) = .ok (.ifCond .eq off, 3)) (ht : ((pc + 1 : Nat) : Int) + off = (tgt : Int)) (k : Lx E p e s m below meth c b i tgt rest M) : Lx E p e s m below meth c b i pc (.long r :: .long r :: rest) M := fun ls hl H locs hP hS =>
  W.lcmp C.1.1 C.1.2.1 hd (lv_if_eq C.1.1 C.1.2.1 hd2 ht (fun _ => k ls hl H locs hP hS) (fun h => absurd (lg_cmp_self r) h))
theorem Lx.sw (C : LOK E p s m meth c b L xs) (d0 : decode code pc = .ok (.aload_n 0, 1)) (d1 : decode code (pc + 1) = .ok (.iload_n 3, 1)) (d2 : decode code (pc + 1 + 1) = .ok (.iaload, 1)) (d3 : decode code (pc + 1 + 1 + 1) = .ok (.bipush 63, 2)) (d4 : decode code (pc + 1 + 1 + 1 + 2) = .ok (.iand, 1)) (hi : i < L ∧ L ≤ 320) (k : Lx E p e s m below meth c b i (pc + 1 + 1 + 1 + 2 + 1) (.int (xs i &&& 63) :: stk) M) : Lx E p e s m below meth c b i pc stk M := by
  intro ls hl H locs hP hS
  obtain ⟨⟨hx, hb, hr, hml, hown, hts, hX, hbl, hlk, hgv⟩, hK, hSt, hSc, hB⟩ := id C
  refine lv_aload_n hx hb d0 rfl (lv_at hl 0 rfl) ?_
  refine lv_iload_n hx hb d1 rfl (lv_at hl 3 rfl) ?_
  refine va_sld hx hb hX hbl (fun h => absurd h (Nat.not_le.mpr hbl)) hS (vp_in_nI hi.1 (by omega)) d2 ?_
  rw [nI_clamp (by omega)]
  refine lv_bipush (v := 63) hx hb d3 rfl ?_
  exact lv_iand hx hb d4 (k ls hl H locs hP hS)
theorem Lx.swIn {dflt lo hi : Int} {offs : Array Int} {len : Nat} {x v : Int32} {off : Int} {tgt : Nat} (C : LOK E p s m meth c b L xs) (hd : decode code pc = .ok (.tableswitch dflt lo hi offs, len)) (hx : x = v) (h1 : ¬ v.toInt < lo) (h2 : ¬ hi < v.toInt) (ho : offs[(v.toInt - lo).toNat]? = some off) (ht : (pc : Int) + off = (tgt : Int)) (k : Lx E p e s m below meth c b i tgt rest M) : Lx E p e s m below meth c b i pc (.int x :: rest) M := fun ls hl H locs hP hS =>
  lv_tableIn C.1.1 C.1.2.1 hd (by rw [hx]; exact h1) (by rw [hx]; exact h2) (by rw [hx]; exact ho) ht (k ls hl H locs hP hS)
theorem Lx.swOut {dflt lo hi : Int} {offs : Array Int} {len : Nat} {x : Int32} {tgt : Nat} (C : LOK E p s m meth c b L xs) (hd : decode code pc = .ok (.tableswitch dflt lo hi offs, len)) (h : x.toInt < lo ∨ hi < x.toInt) (ht : (pc : Int) + dflt = (tgt : Int)) (k : Lx E p e s m below meth c b i tgt rest M) : Lx E p e s m below meth c b i pc (.int x :: rest) M := fun ls hl H locs hP hS =>
  lv_tableOut C.1.1 C.1.2.1 hd h ht (k ls hl H locs hP hS)
theorem Lx.next (C : LOK E p s m meth c b L xs) (k : Lx E p e s m below meth c b (i + 5) 18 [] M) : Lx E p e s m below meth c b i 1571 [] M := by
  intro ls hl H locs hP hS
  obtain ⟨⟨hx, hb, hr, hml, hown, hts, hX, hbl, hlk, hgv⟩, hK, hSt, hSc, hB⟩ := id C
  refine lv_iinc (v := nI (i + 5)) (lv' := [(3, .int (nI (i + 5))), (0, .ref b), (1, .ref (ad E 0)), (2, .ref (ad E 54))]) hx hb dL_law_1571 hl (k := 3) rfl (nI_add i 5) (by decide) rfl (fun ls hl => ?_)
  refine lv_goto (tgt := 18) hx hb dL_law_1574 (by decide) ?_
  exact k ls (lv_sub hl [1, 2, 3, 0] rfl) H locs hP hS
theorem Lx.ret (C : LOK E p s m meth c b L xs) : Lx E p e s m below meth c b i 1577 [] M := by
  intro ls hl H locs hP hS
  obtain ⟨⟨hx, hb, hr, hml, hown, hts, hX, hbl, hlk, hgv⟩, hK, hSt, hSc, hB⟩ := id C
  refine lv_iconst (v := 1) hx hb dL_law_1577 rfl ?_
  refine va_forget (fun q hq => hS.2.2 q hq) ?_
  exact lw_ret hx hb hr hlk dL_law_1578
end LXR
def St_feed (Rel : Mem → Prop) : Prop := ∀ (M : Mem) (a1 : Int32), Rel M → ∃ (r : Int32) (M1 : Mem) (M2 : Mem), f_X5_feed a1 M = some (r, M1) ∧ f_X6_feed a1 M1 = some (r, M2) ∧ Rel M2
theorem cl_L_13 : CLk R_law 13 mi_X5_feed := gw_of (q1_in _ (List.mem_of_getElem? (i := 236) rfl)) rfl
theorem cl_L_17 : CLk R_law 17 mi_X6_feed := gw_of (q4_in _ (List.mem_of_getElem? (i := 142) rfl)) rfl
def St_end (Rel : Mem → Prop) : Prop := ∀ (M : Mem) (a1 : Int32), Rel M → ∃ (r : Int32) (M1 : Mem) (M2 : Mem), f_X5_end a1 M = some (r, M1) ∧ f_X6_end a1 M1 = some (r, M2) ∧ Rel M2
theorem cl_L_18 : CLk R_law 18 mi_X5_end := gw_of (q2_in _ (List.mem_of_getElem? (i := 7) rfl)) rfl
theorem cl_L_21 : CLk R_law 21 mi_X6_end := gw_of (q4_in _ (List.mem_of_getElem? (i := 150) rfl)) rfl
def St_text (Rel : Mem → Prop) : Prop := ∀ (M : Mem), Rel M → ∃ (r : Int32) (M1 : Mem) (M2 : Mem), f_X5_text M = some (r, M1) ∧ f_X6_text M1 = some (r, M2) ∧ Rel M2
theorem cl_L_22 : CLk R_law 22 mi_X5_text := gw_of (q2_in _ (List.mem_of_getElem? (i := 11) rfl)) rfl
theorem cl_L_26 : CLk R_law 26 mi_X6_text := gw_of (q4_in _ (List.mem_of_getElem? (i := 154) rfl)) rfl
def St_fault (Rel : Mem → Prop) : Prop := ∀ (M : Mem), Rel M → ∃ (r : Int32), f_X5_fault M = some r ∧ f_X6_fault M = some r ∧ Rel M
theorem cl_L_27 : CLk R_law 27 mi_X5_fault := gw_of (q2_in _ (List.mem_of_getElem? (i := 158) rfl)) rfl
theorem cl_L_30 : CLk R_law 30 mi_X6_fault := gw_of (q4_in _ (List.mem_of_getElem? (i := 199) rfl)) rfl
def St_rule (Rel : Mem → Prop) : Prop := ∀ (M : Mem) (a1 : Int32), Rel M → ∃ (r : Int32) (M1 : Mem), f_X5_rule a1 M = some (r, M1) ∧ f_X6_rule a1 M1 = some r ∧ Rel M1
theorem cl_L_31 : CLk R_law 31 mi_X5_rule := gw_of (q2_in _ (List.mem_of_getElem? (i := 162) rfl)) rfl
theorem cl_L_34 : CLk R_law 34 mi_X6_rule := gw_of (q4_in _ (List.mem_of_getElem? (i := 203) rfl)) rfl
def St_tub (Rel : Mem → Prop) : Prop := ∀ (M : Mem) (a1 : Int32) (a2 : Int32), Rel M → ∃ (r : Int32), f_X5_tub a1 a2 M = some r ∧ f_X6_tub a1 a2 M = some r ∧ Rel M
theorem cl_L_35 : CLk R_law 35 mi_X5_tub := gw_of (q2_in _ (List.mem_of_getElem? (i := 178) rfl)) rfl
theorem cl_L_39 : CLk R_law 39 mi_X6_tub := gw_of (q4_in _ (List.mem_of_getElem? (i := 218) rfl)) rfl
def St_heir (Rel : Mem → Prop) : Prop := ∀ (M : Mem) (a1 : Int32) (a2 : Int32), Rel M → ∃ (r : Int32), f_X5_heir a1 a2 M = some r ∧ f_X6_heir a1 a2 M = some r ∧ Rel M
theorem cl_L_40 : CLk R_law 40 mi_X5_heir := gw_of (q2_in _ (List.mem_of_getElem? (i := 189) rfl)) rfl
theorem cl_L_43 : CLk R_law 43 mi_X6_heir := gw_of (q4_in _ (List.mem_of_getElem? (i := 227) rfl)) rfl
def St_current (Rel : Mem → Prop) : Prop := ∀ (M : Mem) (a1 : Int32), Rel M → ∃ (r : Int32), f_X5_current a1 M = some r ∧ f_X6_current a1 M = some r ∧ Rel M
theorem cl_L_44 : CLk R_law 44 mi_X5_current := gw_of (q2_in _ (List.mem_of_getElem? (i := 198) rfl)) rfl
theorem cl_L_47 : CLk R_law 47 mi_X6_current := gw_of (q4_in _ (List.mem_of_getElem? (i := 236) rfl)) rfl
def St_wind (Rel : Mem → Prop) : Prop := ∀ (M : Mem) (a1 : Int32), Rel M → ∃ (r : Int32), f_X5_wind a1 M = some r ∧ f_X6_wind a1 M = some r ∧ Rel M
theorem cl_L_48 : CLk R_law 48 mi_X5_wind := gw_of (q2_in _ (List.mem_of_getElem? (i := 202) rfl)) rfl
theorem cl_L_51 : CLk R_law 51 mi_X6_wind := gw_of (q5_in _ (List.mem_of_getElem? (i := 1) rfl)) rfl
def St_alter (Rel : Mem → Prop) : Prop := ∀ (M : Mem) (a1 : Int32) (a2 : Int32) (a3 : Int32), Rel M → ∃ (r : Int32) (M1 : Mem) (M2 : Mem), f_X5_alter a1 a2 a3 M = some (r, M1) ∧ f_X6_alter a1 a2 a3 M1 = some (r, M2) ∧ Rel M2
theorem cl_L_52 : CLk R_law 52 mi_X5_alter := gw_of (q2_in _ (List.mem_of_getElem? (i := 206) rfl)) rfl
theorem cl_L_56 : CLk R_law 56 mi_X6_alter := gw_of (q5_in _ (List.mem_of_getElem? (i := 9) rfl)) rfl
def St_stand (Rel : Mem → Prop) : Prop := ∀ (M : Mem) (a1 : Int32) (a2 : Int32) (a3 : Int32), Rel M → ∃ (r : Int32) (M1 : Mem) (M2 : Mem), f_X5_stand a1 a2 a3 M = some (r, M1) ∧ f_X6_stand a1 a2 a3 M1 = some (r, M2) ∧ Rel M2
theorem cl_L_57 : CLk R_law 57 mi_X5_stand := gw_of (q2_in _ (List.mem_of_getElem? (i := 216) rfl)) rfl
theorem cl_L_60 : CLk R_law 60 mi_X6_stand := gw_of (q5_in _ (List.mem_of_getElem? (i := 18) rfl)) rfl
def St_set (Rel : Mem → Prop) : Prop := ∀ (M : Mem) (a1 : Int32) (a2 : Int32), Rel M → ∃ (r : Int32) (M1 : Mem) (M2 : Mem), f_X5_set a1 a2 M = some (r, M1) ∧ f_X6_set a1 a2 M1 = some (r, M2) ∧ Rel M2
theorem cl_L_61 : CLk R_law 61 mi_X5_set := gw_of (q2_in _ (List.mem_of_getElem? (i := 225) rfl)) rfl
theorem cl_L_64 : CLk R_law 64 mi_X6_set := gw_of (q5_in _ (List.mem_of_getElem? (i := 22) rfl)) rfl
def St_blow (Rel : Mem → Prop) : Prop := ∀ (M : Mem) (a1 : Int32) (a2 : Int32), Rel M → ∃ (r : Int32) (M1 : Mem) (M2 : Mem), f_X5_blow a1 a2 M = some (r, M1) ∧ f_X6_blow a1 a2 M1 = some (r, M2) ∧ Rel M2
theorem cl_L_65 : CLk R_law 65 mi_X5_blow := gw_of (q2_in _ (List.mem_of_getElem? (i := 229) rfl)) rfl
theorem cl_L_68 : CLk R_law 68 mi_X6_blow := gw_of (q5_in _ (List.mem_of_getElem? (i := 26) rfl)) rfl
def St_phase (Rel : Mem → Prop) : Prop := ∀ (M : Mem) (a1 : Int32), Rel M → ∃ (r : Int32) (M1 : Mem) (M2 : Mem), f_X5_phase a1 M = some (r, M1) ∧ f_X6_phase a1 M1 = some (r, M2) ∧ Rel M2
theorem cl_L_69 : CLk R_law 69 mi_X5_phase := gw_of (q2_in _ (List.mem_of_getElem? (i := 233) rfl)) rfl
theorem cl_L_72 : CLk R_law 72 mi_X6_phase := gw_of (q5_in _ (List.mem_of_getElem? (i := 30) rfl)) rfl
def St_cast (Rel : Mem → Prop) : Prop := ∀ (M : Mem) (a1 : Int32) (a2 : Int32) (a3 : Int32), Rel M → ∃ (r : Int32) (M1 : Mem) (M2 : Mem), f_X5_cast a1 a2 a3 M = some (r, M1) ∧ f_X6_cast a1 a2 a3 M1 = some (r, M2) ∧ Rel M2
theorem cl_L_73 : CLk R_law 73 mi_X5_cast := gw_of (q2_in _ (List.mem_of_getElem? (i := 237) rfl)) rfl
theorem cl_L_76 : CLk R_law 76 mi_X6_cast := gw_of (q5_in _ (List.mem_of_getElem? (i := 34) rfl)) rfl
def St_sink (Rel : Mem → Prop) : Prop := ∀ (M : Mem) (a1 : Int32), Rel M → ∃ (r : Int32) (M1 : Mem) (M2 : Mem), f_X5_sink a1 M = some (r, M1) ∧ f_X6_sink a1 M1 = some (r, M2) ∧ Rel M2
theorem cl_L_77 : CLk R_law 77 mi_X5_sink := gw_of (q3_in _ (List.mem_of_getElem? (i := 10) rfl)) rfl
theorem cl_L_80 : CLk R_law 80 mi_X6_sink := gw_of (q5_in _ (List.mem_of_getElem? (i := 42) rfl)) rfl
def St_fate (Rel : Mem → Prop) : Prop := ∀ (M : Mem) (a1 : Int32) (a2 : Int32), Rel M → ∃ (r : Int32) (M1 : Mem) (M2 : Mem), f_X5_fate a1 a2 M = some (r, M1) ∧ f_X6_fate a1 a2 M1 = some (r, M2) ∧ Rel M2
theorem cl_L_81 : CLk R_law 81 mi_X5_fate := gw_of (q3_in _ (List.mem_of_getElem? (i := 14) rfl)) rfl
theorem cl_L_84 : CLk R_law 84 mi_X6_fate := gw_of (q5_in _ (List.mem_of_getElem? (i := 46) rfl)) rfl
def St_where (Rel : Mem → Prop) : Prop := ∀ (M : Mem) (a1 : Int32) (a2 : Int32) (a3 : Int32), Rel M → ∃ (r : Int32) (M1 : Mem) (M2 : Mem), f_X5_where a1 a2 a3 M = some (r, M1) ∧ f_X6_where a1 a2 a3 M1 = some (r, M2) ∧ Rel M2
theorem cl_L_85 : CLk R_law 85 mi_X5_where := gw_of (q3_in _ (List.mem_of_getElem? (i := 59) rfl)) rfl
theorem cl_L_88 : CLk R_law 88 mi_X6_where := gw_of (q5_in _ (List.mem_of_getElem? (i := 62) rfl)) rfl
def St_has (Rel : Mem → Prop) : Prop := ∀ (M : Mem) (a1 : Int32) (a2 : Int32), Rel M → ∃ (r : Int32) (M1 : Mem) (M2 : Mem), f_X5_has a1 a2 M = some (r, M1) ∧ f_X6_has a1 a2 M1 = some (r, M2) ∧ Rel M2
theorem cl_L_89 : CLk R_law 89 mi_X5_has := gw_of (q3_in _ (List.mem_of_getElem? (i := 67) rfl)) rfl
theorem cl_L_92 : CLk R_law 92 mi_X6_has := gw_of (q5_in _ (List.mem_of_getElem? (i := 68) rfl)) rfl
def St_all (Rel : Mem → Prop) : Prop := ∀ (M : Mem) (a1 : Int32), Rel M → ∃ (r : Int32) (M1 : Mem) (M2 : Mem), f_X5_all a1 M = some (r, M1) ∧ f_X6_all a1 M1 = some (r, M2) ∧ Rel M2
theorem cl_L_93 : CLk R_law 93 mi_X5_all := gw_of (q3_in _ (List.mem_of_getElem? (i := 84) rfl)) rfl
theorem cl_L_96 : CLk R_law 96 mi_X6_all := gw_of (q5_in _ (List.mem_of_getElem? (i := 84) rfl)) rfl
def St_when (Rel : Mem → Prop) : Prop := ∀ (M : Mem) (a1 : Int32) (a2 : Int32), Rel M → ∃ (r : Int32) (M1 : Mem) (M2 : Mem), f_X5_when a1 a2 M = some (r, M1) ∧ f_X6_when a1 a2 M1 = some (r, M2) ∧ Rel M2
theorem cl_L_97 : CLk R_law 97 mi_X5_when := gw_of (q3_in _ (List.mem_of_getElem? (i := 97) rfl)) rfl
theorem cl_L_100 : CLk R_law 100 mi_X6_when := gw_of (q5_in _ (List.mem_of_getElem? (i := 88) rfl)) rfl
def St_aim (Rel : Mem → Prop) : Prop := ∀ (M : Mem) (a1 : Int32) (a2 : Int32), Rel M → ∃ (r : Int32) (M1 : Mem) (M2 : Mem), f_X5_aim a1 a2 M = some (r, M1) ∧ f_X6_aim a1 a2 M1 = some (r, M2) ∧ Rel M2
theorem cl_L_101 : CLk R_law 101 mi_X5_aim := gw_of (q3_in _ (List.mem_of_getElem? (i := 105) rfl)) rfl
theorem cl_L_104 : CLk R_law 104 mi_X6_aim := gw_of (q5_in _ (List.mem_of_getElem? (i := 100) rfl)) rfl
def St_ways (Rel : Mem → Prop) : Prop := ∀ (M : Mem) (a1 : Int32) (a2 : Int32), Rel M → ∃ (r : Int32) (M1 : Mem) (M2 : Mem), f_X5_ways a1 a2 M = some (r, M1) ∧ f_X6_ways a1 a2 M1 = some (r, M2) ∧ Rel M2
theorem cl_L_105 : CLk R_law 105 mi_X5_ways := gw_of (q3_in _ (List.mem_of_getElem? (i := 109) rfl)) rfl
theorem cl_L_108 : CLk R_law 108 mi_X6_ways := gw_of (q5_in _ (List.mem_of_getElem? (i := 104) rfl)) rfl
def St_place (Rel : Mem → Prop) : Prop := ∀ (M : Mem) (a1 : Int32) (a2 : Int32), Rel M → ∃ (r : Int32) (M1 : Mem) (M2 : Mem), f_X5_place a1 a2 M = some (r, M1) ∧ f_X6_place a1 a2 M1 = some (r, M2) ∧ Rel M2
theorem cl_L_109 : CLk R_law 109 mi_X5_place := gw_of (q3_in _ (List.mem_of_getElem? (i := 113) rfl)) rfl
theorem cl_L_112 : CLk R_law 112 mi_X6_place := gw_of (q5_in _ (List.mem_of_getElem? (i := 108) rfl)) rfl
def St_hook (Rel : Mem → Prop) : Prop := ∀ (M : Mem) (a1 : Int32) (a2 : Int32), Rel M → ∃ (r : Int32) (M1 : Mem) (M2 : Mem), f_X5_hook a1 a2 M = some (r, M1) ∧ f_X6_hook a1 a2 M1 = some (r, M2) ∧ Rel M2
theorem cl_L_113 : CLk R_law 113 mi_X5_hook := gw_of (q3_in _ (List.mem_of_getElem? (i := 125) rfl)) rfl
theorem cl_L_116 : CLk R_law 116 mi_X6_hook := gw_of (q5_in _ (List.mem_of_getElem? (i := 112) rfl)) rfl
def St_fire (Rel : Mem → Prop) : Prop := ∀ (M : Mem) (a1 : Int32) (a2 : Int32), Rel M → ∃ (r : Int32) (M1 : Mem) (M2 : Mem), f_X5_fire a1 a2 M = some (r, M1) ∧ f_X6_fire a1 a2 M1 = some (r, M2) ∧ Rel M2
theorem cl_L_117 : CLk R_law 117 mi_X5_fire := gw_of (q3_in _ (List.mem_of_getElem? (i := 129) rfl)) rfl
theorem cl_L_120 : CLk R_law 120 mi_X6_fire := gw_of (q5_in _ (List.mem_of_getElem? (i := 117) rfl)) rfl
def St_moon (Rel : Mem → Prop) : Prop := ∀ (M : Mem) (a1 : Int32), Rel M → ∃ (r : Int32) (M1 : Mem) (M2 : Mem), f_X5_moon a1 M = some (r, M1) ∧ f_X6_moon a1 M1 = some (r, M2) ∧ Rel M2
theorem cl_L_121 : CLk R_law 121 mi_X5_moon := gw_of (q3_in _ (List.mem_of_getElem? (i := 133) rfl)) rfl
theorem cl_L_124 : CLk R_law 124 mi_X6_moon := gw_of (q5_in _ (List.mem_of_getElem? (i := 121) rfl)) rfl
def St_rest (Rel : Mem → Prop) : Prop := ∀ (M : Mem) (a1 : Int32) (a2 : Int32) (a3 : Int32), Rel M → ∃ (r : Int32) (M1 : Mem) (M2 : Mem), f_X5_rest a1 a2 a3 M = some (r, M1) ∧ f_X6_rest a1 a2 a3 M1 = some (r, M2) ∧ Rel M2
theorem cl_L_125 : CLk R_law 125 mi_X5_rest := gw_of (q3_in _ (List.mem_of_getElem? (i := 137) rfl)) rfl
theorem cl_L_128 : CLk R_law 128 mi_X6_rest := gw_of (q5_in _ (List.mem_of_getElem? (i := 125) rfl)) rfl
def St_luck (Rel : Mem → Prop) : Prop := ∀ (M : Mem) (a1 : Int32) (a2 : Int32) (a3 : Int32) (a4 : Int32), Rel M → ∃ (r : Int64) (M1 : Mem) (M2 : Mem), f_X5_luck a1 a2 a3 a4 M = some (r, M1) ∧ f_X6_luck a1 a2 a3 a4 M1 = some (r, M2) ∧ Rel M2
theorem cl_L_129 : CLk R_law 129 mi_X5_luck := gw_of (q3_in _ (List.mem_of_getElem? (i := 149) rfl)) rfl
theorem cl_L_133 : CLk R_law 133 mi_X6_luck := gw_of (q5_in _ (List.mem_of_getElem? (i := 133) rfl)) rfl
def St_mean (Rel : Mem → Prop) : Prop := ∀ (M : Mem) (a1 : Int32) (a2 : Int32) (a3 : Int32), Rel M → ∃ (r : Int64) (M1 : Mem) (M2 : Mem), f_X5_mean a1 a2 a3 M = some (r, M1) ∧ f_X6_mean a1 a2 a3 M1 = some (r, M2) ∧ Rel M2
theorem cl_L_134 : CLk R_law 134 mi_X5_mean := gw_of (q3_in _ (List.mem_of_getElem? (i := 169) rfl)) rfl
theorem cl_L_138 : CLk R_law 138 mi_X6_mean := gw_of (q5_in _ (List.mem_of_getElem? (i := 147) rfl)) rfl
def St_see (Rel : Mem → Prop) : Prop := ∀ (M : Mem) (a1 : Int32) (a2 : Int32) (a3 : Int32), Rel M → ∃ (r : Int32) (M1 : Mem) (M2 : Mem), f_X5_see a1 a2 a3 M = some (r, M1) ∧ f_X6_see a1 a2 a3 M1 = some (r, M2) ∧ Rel M2
theorem cl_L_139 : CLk R_law 139 mi_X5_see := gw_of (q3_in _ (List.mem_of_getElem? (i := 173) rfl)) rfl
theorem cl_L_142 : CLk R_law 142 mi_X6_see := gw_of (q5_in _ (List.mem_of_getElem? (i := 151) rfl)) rfl
def St_forget (Rel : Mem → Prop) : Prop := ∀ (M : Mem) (a1 : Int32), Rel M → ∃ (r : Int32) (M1 : Mem) (M2 : Mem), f_X5_forget a1 M = some (r, M1) ∧ f_X6_forget a1 M1 = some (r, M2) ∧ Rel M2
theorem cl_L_143 : CLk R_law 143 mi_X5_forget := gw_of (q3_in _ (List.mem_of_getElem? (i := 177) rfl)) rfl
theorem cl_L_146 : CLk R_law 146 mi_X6_forget := gw_of (q5_in _ (List.mem_of_getElem? (i := 156) rfl)) rfl
def St_kinds (Rel : Mem → Prop) : Prop := ∀ (M : Mem) (a1 : Int32), Rel M → ∃ (r : Int32) (M1 : Mem) (M2 : Mem), f_X5_kinds a1 M = some (r, M1) ∧ f_X6_kinds a1 M1 = some (r, M2) ∧ Rel M2
theorem cl_L_147 : CLk R_law 147 mi_X5_kinds := gw_of (q3_in _ (List.mem_of_getElem? (i := 181) rfl)) rfl
theorem cl_L_150 : CLk R_law 150 mi_X6_kinds := gw_of (q5_in _ (List.mem_of_getElem? (i := 160) rfl)) rfl
def St_sets (Rel : Mem → Prop) : Prop := ∀ (M : Mem) (a1 : Int32), Rel M → ∃ (r : Int32) (M1 : Mem) (M2 : Mem), f_X5_sets a1 M = some (r, M1) ∧ f_X6_sets a1 M1 = some (r, M2) ∧ Rel M2
theorem cl_L_151 : CLk R_law 151 mi_X5_sets := gw_of (q3_in _ (List.mem_of_getElem? (i := 194) rfl)) rfl
theorem cl_L_154 : CLk R_law 154 mi_X6_sets := gw_of (q5_in _ (List.mem_of_getElem? (i := 172) rfl)) rfl
def St_look (Rel : Mem → Prop) : Prop := ∀ (M : Mem) (a1 : Int32) (a2 : Int32), Rel M → ∃ (r : Int32) (M1 : Mem) (M2 : Mem), f_X5_look a1 a2 M = some (r, M1) ∧ f_X6_look a1 a2 M1 = some (r, M2) ∧ Rel M2
theorem cl_L_155 : CLk R_law 155 mi_X5_look := gw_of (q3_in _ (List.mem_of_getElem? (i := 198) rfl)) rfl
theorem cl_L_158 : CLk R_law 158 mi_X6_look := gw_of (q5_in _ (List.mem_of_getElem? (i := 176) rfl)) rfl
def St_drift (Rel : Mem → Prop) : Prop := ∀ (M : Mem) (a1 : Int32) (a2 : Int32) (a3 : Int32), Rel M → ∃ (r : Int32) (M1 : Mem) (M2 : Mem), f_X5_drift a1 a2 a3 M = some (r, M1) ∧ f_X6_drift a1 a2 a3 M1 = some (r, M2) ∧ Rel M2
theorem cl_L_159 : CLk R_law 159 mi_X5_drift := gw_of (q3_in _ (List.mem_of_getElem? (i := 213) rfl)) rfl
theorem cl_L_162 : CLk R_law 162 mi_X6_drift := gw_of (q5_in _ (List.mem_of_getElem? (i := 180) rfl)) rfl
def St_keep (Rel : Mem → Prop) : Prop := ∀ (M : Mem) (a1 : Int32), Rel M → ∃ (r : Int32) (M1 : Mem) (M2 : Mem), f_X5_keep a1 M = some (r, M1) ∧ f_X6_keep a1 M1 = some (r, M2) ∧ Rel M2
theorem cl_L_163 : CLk R_law 163 mi_X5_keep := gw_of (q3_in _ (List.mem_of_getElem? (i := 218) rfl)) rfl
theorem cl_L_166 : CLk R_law 166 mi_X6_keep := gw_of (q5_in _ (List.mem_of_getElem? (i := 186) rfl)) rfl
def St_back (Rel : Mem → Prop) : Prop := ∀ (M : Mem) (a1 : Int32), Rel M → ∃ (r : Int32) (M1 : Mem) (M2 : Mem), f_X5_back a1 M = some (r, M1) ∧ f_X6_back a1 M1 = some (r, M2) ∧ Rel M2
theorem cl_L_167 : CLk R_law 167 mi_X5_back := gw_of (q3_in _ (List.mem_of_getElem? (i := 222) rfl)) rfl
theorem cl_L_170 : CLk R_law 170 mi_X6_back := gw_of (q5_in _ (List.mem_of_getElem? (i := 190) rfl)) rfl
def St_sheet (Rel : Mem → Prop) : Prop := ∀ (M : Mem) (a1 : Int32) (a2 : Int32) (a3 : Int32), Rel M → ∃ (r : Int32) (M1 : Mem) (M2 : Mem), f_X5_sheet a1 a2 a3 M = some (r, M1) ∧ f_X6_sheet a1 a2 a3 M1 = some (r, M2) ∧ Rel M2
theorem cl_L_171 : CLk R_law 171 mi_X5_sheet := gw_of (q3_in _ (List.mem_of_getElem? (i := 226) rfl)) rfl
theorem cl_L_174 : CLk R_law 174 mi_X6_sheet := gw_of (q5_in _ (List.mem_of_getElem? (i := 194) rfl)) rfl
def St_lay (Rel : Mem → Prop) : Prop := ∀ (M : Mem) (a1 : Int32) (a2 : Int32) (a3 : Int32), Rel M → ∃ (r : Int32) (M1 : Mem) (M2 : Mem), f_X5_lay a1 a2 a3 M = some (r, M1) ∧ f_X6_lay a1 a2 a3 M1 = some (r, M2) ∧ Rel M2
theorem cl_L_175 : CLk R_law 175 mi_X5_lay := gw_of (q3_in _ (List.mem_of_getElem? (i := 234) rfl)) rfl
theorem cl_L_178 : CLk R_law 178 mi_X6_lay := gw_of (q5_in _ (List.mem_of_getElem? (i := 198) rfl)) rfl
def St_read (Rel : Mem → Prop) : Prop := ∀ (M : Mem) (a1 : Int32) (a2 : Int32) (a3 : Int32) (a4 : Int32), Rel M → ∃ (r : Int32) (M1 : Mem) (M2 : Mem), f_X5_read a1 a2 a3 a4 M = some (r, M1) ∧ f_X6_read a1 a2 a3 a4 M1 = some (r, M2) ∧ Rel M2
theorem cl_L_179 : CLk R_law 179 mi_X5_read := gw_of (q4_in _ (List.mem_of_getElem? (i := 6) rfl)) rfl
theorem cl_L_183 : CLk R_law 183 mi_X6_read := gw_of (q5_in _ (List.mem_of_getElem? (i := 202) rfl)) rfl
def St_torn (Rel : Mem → Prop) : Prop := ∀ (M : Mem), Rel M → ∃ (r : Int32), f_X5_torn M = some r ∧ f_X6_torn M = some r ∧ Rel M
theorem cl_L_184 : CLk R_law 184 mi_X5_torn := gw_of (q4_in _ (List.mem_of_getElem? (i := 10) rfl)) rfl
theorem cl_L_187 : CLk R_law 187 mi_X6_torn := gw_of (q5_in _ (List.mem_of_getElem? (i := 207) rfl)) rfl
def St_count (Rel : Mem → Prop) : Prop := ∀ (M : Mem) (a1 : Int32), Rel M → ∃ (r : Int32), f_X5_count a1 M = some r ∧ f_X6_count a1 M = some r ∧ Rel M
theorem cl_L_188 : CLk R_law 188 mi_X5_count := gw_of (q4_in _ (List.mem_of_getElem? (i := 14) rfl)) rfl
theorem cl_L_191 : CLk R_law 191 mi_X6_count := gw_of (q5_in _ (List.mem_of_getElem? (i := 211) rfl)) rfl
def StepAll (Rel : Mem → Prop) : Prop := St_feed Rel ∧ St_end Rel ∧ St_text Rel ∧ St_fault Rel ∧ St_rule Rel ∧ St_tub Rel ∧ St_heir Rel ∧ St_current Rel ∧ St_wind Rel ∧ St_alter Rel ∧ St_stand Rel ∧ St_set Rel ∧ St_blow Rel ∧ St_phase Rel ∧ St_cast Rel ∧ St_sink Rel ∧ St_fate Rel ∧ St_where Rel ∧ St_has Rel ∧ St_all Rel ∧ St_when Rel ∧ St_aim Rel ∧ St_ways Rel ∧ St_place Rel ∧ St_hook Rel ∧ St_fire Rel ∧ St_moon Rel ∧ St_rest Rel ∧ St_luck Rel ∧ St_mean Rel ∧ St_see Rel ∧ St_forget Rel ∧ St_kinds Rel ∧ St_sets Rel ∧ St_look Rel ∧ St_drift Rel ∧ St_keep Rel ∧ St_back Rel ∧ St_sheet Rel ∧ St_lay Rel ∧ St_read Rel ∧ St_torn Rel ∧ St_count Rel
section LXC
variable {E : GE} {p : Program} {e : Env} {s : State} {m : MethodId} {below : List Frame} {meth : Method} {c : Code} {b L i : Nat} {xs : Nat → Int32} {M : Mem}
theorem law_c0 {Rel : Mem → Prop} (hS : StepAll Rel) (C : LOK E p s m meth c b L xs) (hi : i + 5 ≤ L ∧ L ≤ 320) (hM : Rel M) (cont : ∀ M9, Rel M9 → Lx E p e s m below meth c b i 1571 [] M9) : Lx E p e s m below meth c b i 220 [] M := by
  obtain ⟨r, M1, M2, e1, e2, hR⟩ := hS.1 M (xs (i + 1)) hM
  refine Lx.a C 1 dL_law_220 rfl ?_
  refine Lx.arg C 1 hi (Nat.le_of_ble_eq_true rfl) dL_law_221 dL_law_222 dL_law_223 dL_law_224 dL_law_225 ?_
  refine Lx.call (k := 0) (as := [.int (xs (i + 1))]) (rest := []) C dL_law_226 cl_L_13 mok_X5_feed rfl (Nat.le_of_ble_eq_true rfl) (Nat.le_of_ble_eq_true rfl) ⟨Nat.le_of_ble_eq_true rfl, Nat.le_of_ble_eq_true rfl⟩ (Nat.le_of_ble_eq_true rfl) rfl rfl (o_X5_feed ⟨_, e1, ?_⟩)
  show Lx E p e s m below meth c b i 229 [.int r] M1
  refine Lx.a C 2 dL_law_229 rfl ?_
  refine Lx.arg C 1 hi (Nat.le_of_ble_eq_true rfl) dL_law_230 dL_law_231 dL_law_232 dL_law_233 dL_law_234 ?_
  refine Lx.call (k := 54) (as := [.int (xs (i + 1))]) (rest := [.int r]) C dL_law_235 cl_L_17 mok_X6_feed rfl (Nat.le_of_ble_eq_true rfl) (Nat.le_of_ble_eq_true rfl) ⟨Nat.le_of_ble_eq_true rfl, Nat.le_of_ble_eq_true rfl⟩ (Nat.le_of_ble_eq_true rfl) rfl rfl (o_X6_feed ⟨_, e2, ?_⟩)
  show Lx E p e s m below meth c b i 238 [.int r, .int r] M2
  refine Lx.eqI (tgt := 1571) C dL_law_238 (by decide) ?_
  exact cont M2 hR
theorem law_c1 {Rel : Mem → Prop} (hS : StepAll Rel) (C : LOK E p s m meth c b L xs) (hi : i + 5 ≤ L ∧ L ≤ 320) (hM : Rel M) (cont : ∀ M9, Rel M9 → Lx E p e s m below meth c b i 1571 [] M9) : Lx E p e s m below meth c b i 243 [] M := by
  obtain ⟨r, M1, M2, e1, e2, hR⟩ := hS.2.1 M (xs (i + 1)) hM
  refine Lx.a C 1 dL_law_243 rfl ?_
  refine Lx.arg C 1 hi (Nat.le_of_ble_eq_true rfl) dL_law_244 dL_law_245 dL_law_246 dL_law_247 dL_law_248 ?_
  refine Lx.call (k := 0) (as := [.int (xs (i + 1))]) (rest := []) C dL_law_249 cl_L_18 mok_X5_end rfl (Nat.le_of_ble_eq_true rfl) (Nat.le_of_ble_eq_true rfl) ⟨Nat.le_of_ble_eq_true rfl, Nat.le_of_ble_eq_true rfl⟩ (Nat.le_of_ble_eq_true rfl) rfl rfl (o_X5_end ⟨_, e1, ?_⟩)
  show Lx E p e s m below meth c b i 252 [.int r] M1
  refine Lx.a C 2 dL_law_252 rfl ?_
  refine Lx.arg C 1 hi (Nat.le_of_ble_eq_true rfl) dL_law_253 dL_law_254 dL_law_255 dL_law_256 dL_law_257 ?_
  refine Lx.call (k := 54) (as := [.int (xs (i + 1))]) (rest := [.int r]) C dL_law_258 cl_L_21 mok_X6_end rfl (Nat.le_of_ble_eq_true rfl) (Nat.le_of_ble_eq_true rfl) ⟨Nat.le_of_ble_eq_true rfl, Nat.le_of_ble_eq_true rfl⟩ (Nat.le_of_ble_eq_true rfl) rfl rfl (o_X6_end ⟨_, e2, ?_⟩)
  show Lx E p e s m below meth c b i 261 [.int r, .int r] M2
  refine Lx.eqI (tgt := 1571) C dL_law_261 (by decide) ?_
  exact cont M2 hR
theorem law_c2 {Rel : Mem → Prop} (hS : StepAll Rel) (C : LOK E p s m meth c b L xs) (hi : i + 5 ≤ L ∧ L ≤ 320) (hM : Rel M) (cont : ∀ M9, Rel M9 → Lx E p e s m below meth c b i 1571 [] M9) : Lx E p e s m below meth c b i 266 [] M := by
  obtain ⟨r, M1, M2, e1, e2, hR⟩ := hS.2.2.1 M hM
  refine Lx.a C 1 dL_law_266 rfl ?_
  refine Lx.call (k := 0) (as := []) (rest := []) C dL_law_267 cl_L_22 mok_X5_text rfl (Nat.le_of_ble_eq_true rfl) (Nat.le_of_ble_eq_true rfl) ⟨Nat.le_of_ble_eq_true rfl, Nat.le_of_ble_eq_true rfl⟩ (Nat.le_of_ble_eq_true rfl) rfl rfl (o_X5_text ⟨_, e1, ?_⟩)
  show Lx E p e s m below meth c b i 270 [.int r] M1
  refine Lx.a C 2 dL_law_270 rfl ?_
  refine Lx.call (k := 54) (as := []) (rest := [.int r]) C dL_law_271 cl_L_26 mok_X6_text rfl (Nat.le_of_ble_eq_true rfl) (Nat.le_of_ble_eq_true rfl) ⟨Nat.le_of_ble_eq_true rfl, Nat.le_of_ble_eq_true rfl⟩ (Nat.le_of_ble_eq_true rfl) rfl rfl (o_X6_text ⟨_, e2, ?_⟩)
  show Lx E p e s m below meth c b i 274 [.int r, .int r] M2
  refine Lx.eqI (tgt := 1571) C dL_law_274 (by decide) ?_
  exact cont M2 hR
theorem law_c3 {Rel : Mem → Prop} (hS : StepAll Rel) (C : LOK E p s m meth c b L xs) (hi : i + 5 ≤ L ∧ L ≤ 320) (hM : Rel M) (cont : ∀ M9, Rel M9 → Lx E p e s m below meth c b i 1571 [] M9) : Lx E p e s m below meth c b i 279 [] M := by
  obtain ⟨r, e1, e2, hR⟩ := hS.2.2.2.1 M hM
  refine Lx.a C 1 dL_law_279 rfl ?_
  refine Lx.call (k := 0) (as := []) (rest := []) C dL_law_280 cl_L_27 mok_X5_fault rfl (Nat.le_of_ble_eq_true rfl) (Nat.le_of_ble_eq_true rfl) ⟨Nat.le_of_ble_eq_true rfl, Nat.le_of_ble_eq_true rfl⟩ (Nat.le_of_ble_eq_true rfl) rfl rfl (o_X5_fault ⟨_, e1, ?_⟩)
  show Lx E p e s m below meth c b i 283 [.int r] M
  refine Lx.a C 2 dL_law_283 rfl ?_
  refine Lx.call (k := 54) (as := []) (rest := [.int r]) C dL_law_284 cl_L_30 mok_X6_fault rfl (Nat.le_of_ble_eq_true rfl) (Nat.le_of_ble_eq_true rfl) ⟨Nat.le_of_ble_eq_true rfl, Nat.le_of_ble_eq_true rfl⟩ (Nat.le_of_ble_eq_true rfl) rfl rfl (o_X6_fault ⟨_, e2, ?_⟩)
  show Lx E p e s m below meth c b i 287 [.int r, .int r] M
  refine Lx.eqI (tgt := 1571) C dL_law_287 (by decide) ?_
  exact cont M hR
theorem law_c4 {Rel : Mem → Prop} (hS : StepAll Rel) (C : LOK E p s m meth c b L xs) (hi : i + 5 ≤ L ∧ L ≤ 320) (hM : Rel M) (cont : ∀ M9, Rel M9 → Lx E p e s m below meth c b i 1571 [] M9) : Lx E p e s m below meth c b i 292 [] M := by
  obtain ⟨r, M1, e1, e2, hR⟩ := hS.2.2.2.2.1 M (xs (i + 1)) hM
  refine Lx.a C 1 dL_law_292 rfl ?_
  refine Lx.arg C 1 hi (Nat.le_of_ble_eq_true rfl) dL_law_293 dL_law_294 dL_law_295 dL_law_296 dL_law_297 ?_
  refine Lx.call (k := 0) (as := [.int (xs (i + 1))]) (rest := []) C dL_law_298 cl_L_31 mok_X5_rule rfl (Nat.le_of_ble_eq_true rfl) (Nat.le_of_ble_eq_true rfl) ⟨Nat.le_of_ble_eq_true rfl, Nat.le_of_ble_eq_true rfl⟩ (Nat.le_of_ble_eq_true rfl) rfl rfl (o_X5_rule ⟨_, e1, ?_⟩)
  show Lx E p e s m below meth c b i 301 [.int r] M1
  refine Lx.a C 2 dL_law_301 rfl ?_
  refine Lx.arg C 1 hi (Nat.le_of_ble_eq_true rfl) dL_law_302 dL_law_303 dL_law_304 dL_law_305 dL_law_306 ?_
  refine Lx.call (k := 54) (as := [.int (xs (i + 1))]) (rest := [.int r]) C dL_law_307 cl_L_34 mok_X6_rule rfl (Nat.le_of_ble_eq_true rfl) (Nat.le_of_ble_eq_true rfl) ⟨Nat.le_of_ble_eq_true rfl, Nat.le_of_ble_eq_true rfl⟩ (Nat.le_of_ble_eq_true rfl) rfl rfl (o_X6_rule ⟨_, e2, ?_⟩)
  show Lx E p e s m below meth c b i 310 [.int r, .int r] M1
  refine Lx.eqI (tgt := 1571) C dL_law_310 (by decide) ?_
  exact cont M1 hR
theorem law_c5 {Rel : Mem → Prop} (hS : StepAll Rel) (C : LOK E p s m meth c b L xs) (hi : i + 5 ≤ L ∧ L ≤ 320) (hM : Rel M) (cont : ∀ M9, Rel M9 → Lx E p e s m below meth c b i 1571 [] M9) : Lx E p e s m below meth c b i 315 [] M := by
  obtain ⟨r, e1, e2, hR⟩ := hS.2.2.2.2.2.1 M (xs (i + 1)) (xs (i + 2)) hM
  refine Lx.a C 1 dL_law_315 rfl ?_
  refine Lx.arg C 1 hi (Nat.le_of_ble_eq_true rfl) dL_law_316 dL_law_317 dL_law_318 dL_law_319 dL_law_320 ?_
  refine Lx.arg C 2 hi (Nat.le_of_ble_eq_true rfl) dL_law_321 dL_law_322 dL_law_323 dL_law_324 dL_law_325 ?_
  refine Lx.call (k := 0) (as := [.int (xs (i + 1)), .int (xs (i + 2))]) (rest := []) C dL_law_326 cl_L_35 mok_X5_tub rfl (Nat.le_of_ble_eq_true rfl) (Nat.le_of_ble_eq_true rfl) ⟨Nat.le_of_ble_eq_true rfl, Nat.le_of_ble_eq_true rfl⟩ (Nat.le_of_ble_eq_true rfl) rfl rfl (o_X5_tub ⟨_, e1, ?_⟩)
  show Lx E p e s m below meth c b i 329 [.int r] M
  refine Lx.a C 2 dL_law_329 rfl ?_
  refine Lx.arg C 1 hi (Nat.le_of_ble_eq_true rfl) dL_law_330 dL_law_331 dL_law_332 dL_law_333 dL_law_334 ?_
  refine Lx.arg C 2 hi (Nat.le_of_ble_eq_true rfl) dL_law_335 dL_law_336 dL_law_337 dL_law_338 dL_law_339 ?_
  refine Lx.call (k := 54) (as := [.int (xs (i + 1)), .int (xs (i + 2))]) (rest := [.int r]) C dL_law_340 cl_L_39 mok_X6_tub rfl (Nat.le_of_ble_eq_true rfl) (Nat.le_of_ble_eq_true rfl) ⟨Nat.le_of_ble_eq_true rfl, Nat.le_of_ble_eq_true rfl⟩ (Nat.le_of_ble_eq_true rfl) rfl rfl (o_X6_tub ⟨_, e2, ?_⟩)
  show Lx E p e s m below meth c b i 343 [.int r, .int r] M
  refine Lx.eqI (tgt := 1571) C dL_law_343 (by decide) ?_
  exact cont M hR
theorem law_c6 {Rel : Mem → Prop} (hS : StepAll Rel) (C : LOK E p s m meth c b L xs) (hi : i + 5 ≤ L ∧ L ≤ 320) (hM : Rel M) (cont : ∀ M9, Rel M9 → Lx E p e s m below meth c b i 1571 [] M9) : Lx E p e s m below meth c b i 348 [] M := by
  obtain ⟨r, e1, e2, hR⟩ := hS.2.2.2.2.2.2.1 M (xs (i + 1)) (xs (i + 2)) hM
  refine Lx.a C 1 dL_law_348 rfl ?_
  refine Lx.arg C 1 hi (Nat.le_of_ble_eq_true rfl) dL_law_349 dL_law_350 dL_law_351 dL_law_352 dL_law_353 ?_
  refine Lx.arg C 2 hi (Nat.le_of_ble_eq_true rfl) dL_law_354 dL_law_355 dL_law_356 dL_law_357 dL_law_358 ?_
  refine Lx.call (k := 0) (as := [.int (xs (i + 1)), .int (xs (i + 2))]) (rest := []) C dL_law_359 cl_L_40 mok_X5_heir rfl (Nat.le_of_ble_eq_true rfl) (Nat.le_of_ble_eq_true rfl) ⟨Nat.le_of_ble_eq_true rfl, Nat.le_of_ble_eq_true rfl⟩ (Nat.le_of_ble_eq_true rfl) rfl rfl (o_X5_heir ⟨_, e1, ?_⟩)
  show Lx E p e s m below meth c b i 362 [.int r] M
  refine Lx.a C 2 dL_law_362 rfl ?_
  refine Lx.arg C 1 hi (Nat.le_of_ble_eq_true rfl) dL_law_363 dL_law_364 dL_law_365 dL_law_366 dL_law_367 ?_
  refine Lx.arg C 2 hi (Nat.le_of_ble_eq_true rfl) dL_law_368 dL_law_369 dL_law_370 dL_law_371 dL_law_372 ?_
  refine Lx.call (k := 54) (as := [.int (xs (i + 1)), .int (xs (i + 2))]) (rest := [.int r]) C dL_law_373 cl_L_43 mok_X6_heir rfl (Nat.le_of_ble_eq_true rfl) (Nat.le_of_ble_eq_true rfl) ⟨Nat.le_of_ble_eq_true rfl, Nat.le_of_ble_eq_true rfl⟩ (Nat.le_of_ble_eq_true rfl) rfl rfl (o_X6_heir ⟨_, e2, ?_⟩)
  show Lx E p e s m below meth c b i 376 [.int r, .int r] M
  refine Lx.eqI (tgt := 1571) C dL_law_376 (by decide) ?_
  exact cont M hR
theorem law_c7 {Rel : Mem → Prop} (hS : StepAll Rel) (C : LOK E p s m meth c b L xs) (hi : i + 5 ≤ L ∧ L ≤ 320) (hM : Rel M) (cont : ∀ M9, Rel M9 → Lx E p e s m below meth c b i 1571 [] M9) : Lx E p e s m below meth c b i 381 [] M := by
  obtain ⟨r, e1, e2, hR⟩ := hS.2.2.2.2.2.2.2.1 M (xs (i + 1)) hM
  refine Lx.a C 1 dL_law_381 rfl ?_
  refine Lx.arg C 1 hi (Nat.le_of_ble_eq_true rfl) dL_law_382 dL_law_383 dL_law_384 dL_law_385 dL_law_386 ?_
  refine Lx.call (k := 0) (as := [.int (xs (i + 1))]) (rest := []) C dL_law_387 cl_L_44 mok_X5_current rfl (Nat.le_of_ble_eq_true rfl) (Nat.le_of_ble_eq_true rfl) ⟨Nat.le_of_ble_eq_true rfl, Nat.le_of_ble_eq_true rfl⟩ (Nat.le_of_ble_eq_true rfl) rfl rfl (o_X5_current ⟨_, e1, ?_⟩)
  show Lx E p e s m below meth c b i 390 [.int r] M
  refine Lx.a C 2 dL_law_390 rfl ?_
  refine Lx.arg C 1 hi (Nat.le_of_ble_eq_true rfl) dL_law_391 dL_law_392 dL_law_393 dL_law_394 dL_law_395 ?_
  refine Lx.call (k := 54) (as := [.int (xs (i + 1))]) (rest := [.int r]) C dL_law_396 cl_L_47 mok_X6_current rfl (Nat.le_of_ble_eq_true rfl) (Nat.le_of_ble_eq_true rfl) ⟨Nat.le_of_ble_eq_true rfl, Nat.le_of_ble_eq_true rfl⟩ (Nat.le_of_ble_eq_true rfl) rfl rfl (o_X6_current ⟨_, e2, ?_⟩)
  show Lx E p e s m below meth c b i 399 [.int r, .int r] M
  refine Lx.eqI (tgt := 1571) C dL_law_399 (by decide) ?_
  exact cont M hR
theorem law_c8 {Rel : Mem → Prop} (hS : StepAll Rel) (C : LOK E p s m meth c b L xs) (hi : i + 5 ≤ L ∧ L ≤ 320) (hM : Rel M) (cont : ∀ M9, Rel M9 → Lx E p e s m below meth c b i 1571 [] M9) : Lx E p e s m below meth c b i 404 [] M := by
  obtain ⟨r, e1, e2, hR⟩ := hS.2.2.2.2.2.2.2.2.1 M (xs (i + 1)) hM
  refine Lx.a C 1 dL_law_404 rfl ?_
  refine Lx.arg C 1 hi (Nat.le_of_ble_eq_true rfl) dL_law_405 dL_law_406 dL_law_407 dL_law_408 dL_law_409 ?_
  refine Lx.call (k := 0) (as := [.int (xs (i + 1))]) (rest := []) C dL_law_410 cl_L_48 mok_X5_wind rfl (Nat.le_of_ble_eq_true rfl) (Nat.le_of_ble_eq_true rfl) ⟨Nat.le_of_ble_eq_true rfl, Nat.le_of_ble_eq_true rfl⟩ (Nat.le_of_ble_eq_true rfl) rfl rfl (o_X5_wind ⟨_, e1, ?_⟩)
  show Lx E p e s m below meth c b i 413 [.int r] M
  refine Lx.a C 2 dL_law_413 rfl ?_
  refine Lx.arg C 1 hi (Nat.le_of_ble_eq_true rfl) dL_law_414 dL_law_415 dL_law_416 dL_law_417 dL_law_418 ?_
  refine Lx.call (k := 54) (as := [.int (xs (i + 1))]) (rest := [.int r]) C dL_law_419 cl_L_51 mok_X6_wind rfl (Nat.le_of_ble_eq_true rfl) (Nat.le_of_ble_eq_true rfl) ⟨Nat.le_of_ble_eq_true rfl, Nat.le_of_ble_eq_true rfl⟩ (Nat.le_of_ble_eq_true rfl) rfl rfl (o_X6_wind ⟨_, e2, ?_⟩)
  show Lx E p e s m below meth c b i 422 [.int r, .int r] M
  refine Lx.eqI (tgt := 1571) C dL_law_422 (by decide) ?_
  exact cont M hR
theorem law_c9 {Rel : Mem → Prop} (hS : StepAll Rel) (C : LOK E p s m meth c b L xs) (hi : i + 5 ≤ L ∧ L ≤ 320) (hM : Rel M) (cont : ∀ M9, Rel M9 → Lx E p e s m below meth c b i 1571 [] M9) : Lx E p e s m below meth c b i 427 [] M := by
  obtain ⟨r, M1, M2, e1, e2, hR⟩ := hS.2.2.2.2.2.2.2.2.2.1 M (xs (i + 1)) (xs (i + 2)) (xs (i + 3)) hM
  refine Lx.a C 1 dL_law_427 rfl ?_
  refine Lx.arg C 1 hi (Nat.le_of_ble_eq_true rfl) dL_law_428 dL_law_429 dL_law_430 dL_law_431 dL_law_432 ?_
  refine Lx.arg C 2 hi (Nat.le_of_ble_eq_true rfl) dL_law_433 dL_law_434 dL_law_435 dL_law_436 dL_law_437 ?_
  refine Lx.arg C 3 hi (Nat.le_of_ble_eq_true rfl) dL_law_438 dL_law_439 dL_law_440 dL_law_441 dL_law_442 ?_
  refine Lx.call (k := 0) (as := [.int (xs (i + 1)), .int (xs (i + 2)), .int (xs (i + 3))]) (rest := []) C dL_law_443 cl_L_52 mok_X5_alter rfl (Nat.le_of_ble_eq_true rfl) (Nat.le_of_ble_eq_true rfl) ⟨Nat.le_of_ble_eq_true rfl, Nat.le_of_ble_eq_true rfl⟩ (Nat.le_of_ble_eq_true rfl) rfl rfl (o_X5_alter ⟨_, e1, ?_⟩)
  show Lx E p e s m below meth c b i 446 [.int r] M1
  refine Lx.a C 2 dL_law_446 rfl ?_
  refine Lx.arg C 1 hi (Nat.le_of_ble_eq_true rfl) dL_law_447 dL_law_448 dL_law_449 dL_law_450 dL_law_451 ?_
  refine Lx.arg C 2 hi (Nat.le_of_ble_eq_true rfl) dL_law_452 dL_law_453 dL_law_454 dL_law_455 dL_law_456 ?_
  refine Lx.arg C 3 hi (Nat.le_of_ble_eq_true rfl) dL_law_457 dL_law_458 dL_law_459 dL_law_460 dL_law_461 ?_
  refine Lx.call (k := 54) (as := [.int (xs (i + 1)), .int (xs (i + 2)), .int (xs (i + 3))]) (rest := [.int r]) C dL_law_462 cl_L_56 mok_X6_alter rfl (Nat.le_of_ble_eq_true rfl) (Nat.le_of_ble_eq_true rfl) ⟨Nat.le_of_ble_eq_true rfl, Nat.le_of_ble_eq_true rfl⟩ (Nat.le_of_ble_eq_true rfl) rfl rfl (o_X6_alter ⟨_, e2, ?_⟩)
  show Lx E p e s m below meth c b i 465 [.int r, .int r] M2
  refine Lx.eqI (tgt := 1571) C dL_law_465 (by decide) ?_
  exact cont M2 hR
theorem law_c10 {Rel : Mem → Prop} (hS : StepAll Rel) (C : LOK E p s m meth c b L xs) (hi : i + 5 ≤ L ∧ L ≤ 320) (hM : Rel M) (cont : ∀ M9, Rel M9 → Lx E p e s m below meth c b i 1571 [] M9) : Lx E p e s m below meth c b i 470 [] M := by
  obtain ⟨r, M1, M2, e1, e2, hR⟩ := hS.2.2.2.2.2.2.2.2.2.2.1 M (xs (i + 1)) (xs (i + 2)) (xs (i + 3)) hM
  refine Lx.a C 1 dL_law_470 rfl ?_
  refine Lx.arg C 1 hi (Nat.le_of_ble_eq_true rfl) dL_law_471 dL_law_472 dL_law_473 dL_law_474 dL_law_475 ?_
  refine Lx.arg C 2 hi (Nat.le_of_ble_eq_true rfl) dL_law_476 dL_law_477 dL_law_478 dL_law_479 dL_law_480 ?_
  refine Lx.arg C 3 hi (Nat.le_of_ble_eq_true rfl) dL_law_481 dL_law_482 dL_law_483 dL_law_484 dL_law_485 ?_
  refine Lx.call (k := 0) (as := [.int (xs (i + 1)), .int (xs (i + 2)), .int (xs (i + 3))]) (rest := []) C dL_law_486 cl_L_57 mok_X5_stand rfl (Nat.le_of_ble_eq_true rfl) (Nat.le_of_ble_eq_true rfl) ⟨Nat.le_of_ble_eq_true rfl, Nat.le_of_ble_eq_true rfl⟩ (Nat.le_of_ble_eq_true rfl) rfl rfl (o_X5_stand ⟨_, e1, ?_⟩)
  show Lx E p e s m below meth c b i 489 [.int r] M1
  refine Lx.a C 2 dL_law_489 rfl ?_
  refine Lx.arg C 1 hi (Nat.le_of_ble_eq_true rfl) dL_law_490 dL_law_491 dL_law_492 dL_law_493 dL_law_494 ?_
  refine Lx.arg C 2 hi (Nat.le_of_ble_eq_true rfl) dL_law_495 dL_law_496 dL_law_497 dL_law_498 dL_law_499 ?_
  refine Lx.arg C 3 hi (Nat.le_of_ble_eq_true rfl) dL_law_500 dL_law_501 dL_law_502 dL_law_503 dL_law_504 ?_
  refine Lx.call (k := 54) (as := [.int (xs (i + 1)), .int (xs (i + 2)), .int (xs (i + 3))]) (rest := [.int r]) C dL_law_505 cl_L_60 mok_X6_stand rfl (Nat.le_of_ble_eq_true rfl) (Nat.le_of_ble_eq_true rfl) ⟨Nat.le_of_ble_eq_true rfl, Nat.le_of_ble_eq_true rfl⟩ (Nat.le_of_ble_eq_true rfl) rfl rfl (o_X6_stand ⟨_, e2, ?_⟩)
  show Lx E p e s m below meth c b i 508 [.int r, .int r] M2
  refine Lx.eqI (tgt := 1571) C dL_law_508 (by decide) ?_
  exact cont M2 hR
theorem law_c11 {Rel : Mem → Prop} (hS : StepAll Rel) (C : LOK E p s m meth c b L xs) (hi : i + 5 ≤ L ∧ L ≤ 320) (hM : Rel M) (cont : ∀ M9, Rel M9 → Lx E p e s m below meth c b i 1571 [] M9) : Lx E p e s m below meth c b i 513 [] M := by
  obtain ⟨r, M1, M2, e1, e2, hR⟩ := hS.2.2.2.2.2.2.2.2.2.2.2.1 M (xs (i + 1)) (xs (i + 2)) hM
  refine Lx.a C 1 dL_law_513 rfl ?_
  refine Lx.arg C 1 hi (Nat.le_of_ble_eq_true rfl) dL_law_514 dL_law_515 dL_law_516 dL_law_517 dL_law_518 ?_
  refine Lx.arg C 2 hi (Nat.le_of_ble_eq_true rfl) dL_law_519 dL_law_520 dL_law_521 dL_law_522 dL_law_523 ?_
  refine Lx.call (k := 0) (as := [.int (xs (i + 1)), .int (xs (i + 2))]) (rest := []) C dL_law_524 cl_L_61 mok_X5_set rfl (Nat.le_of_ble_eq_true rfl) (Nat.le_of_ble_eq_true rfl) ⟨Nat.le_of_ble_eq_true rfl, Nat.le_of_ble_eq_true rfl⟩ (Nat.le_of_ble_eq_true rfl) rfl rfl (o_X5_set ⟨_, e1, ?_⟩)
  show Lx E p e s m below meth c b i 527 [.int r] M1
  refine Lx.a C 2 dL_law_527 rfl ?_
  refine Lx.arg C 1 hi (Nat.le_of_ble_eq_true rfl) dL_law_528 dL_law_529 dL_law_530 dL_law_531 dL_law_532 ?_
  refine Lx.arg C 2 hi (Nat.le_of_ble_eq_true rfl) dL_law_533 dL_law_534 dL_law_535 dL_law_536 dL_law_537 ?_
  refine Lx.call (k := 54) (as := [.int (xs (i + 1)), .int (xs (i + 2))]) (rest := [.int r]) C dL_law_538 cl_L_64 mok_X6_set rfl (Nat.le_of_ble_eq_true rfl) (Nat.le_of_ble_eq_true rfl) ⟨Nat.le_of_ble_eq_true rfl, Nat.le_of_ble_eq_true rfl⟩ (Nat.le_of_ble_eq_true rfl) rfl rfl (o_X6_set ⟨_, e2, ?_⟩)
  show Lx E p e s m below meth c b i 541 [.int r, .int r] M2
  refine Lx.eqI (tgt := 1571) C dL_law_541 (by decide) ?_
  exact cont M2 hR
theorem law_c12 {Rel : Mem → Prop} (hS : StepAll Rel) (C : LOK E p s m meth c b L xs) (hi : i + 5 ≤ L ∧ L ≤ 320) (hM : Rel M) (cont : ∀ M9, Rel M9 → Lx E p e s m below meth c b i 1571 [] M9) : Lx E p e s m below meth c b i 546 [] M := by
  obtain ⟨r, M1, M2, e1, e2, hR⟩ := hS.2.2.2.2.2.2.2.2.2.2.2.2.1 M (xs (i + 1)) (xs (i + 2)) hM
  refine Lx.a C 1 dL_law_546 rfl ?_
  refine Lx.arg C 1 hi (Nat.le_of_ble_eq_true rfl) dL_law_547 dL_law_548 dL_law_549 dL_law_550 dL_law_551 ?_
  refine Lx.arg C 2 hi (Nat.le_of_ble_eq_true rfl) dL_law_552 dL_law_553 dL_law_554 dL_law_555 dL_law_556 ?_
  refine Lx.call (k := 0) (as := [.int (xs (i + 1)), .int (xs (i + 2))]) (rest := []) C dL_law_557 cl_L_65 mok_X5_blow rfl (Nat.le_of_ble_eq_true rfl) (Nat.le_of_ble_eq_true rfl) ⟨Nat.le_of_ble_eq_true rfl, Nat.le_of_ble_eq_true rfl⟩ (Nat.le_of_ble_eq_true rfl) rfl rfl (o_X5_blow ⟨_, e1, ?_⟩)
  show Lx E p e s m below meth c b i 560 [.int r] M1
  refine Lx.a C 2 dL_law_560 rfl ?_
  refine Lx.arg C 1 hi (Nat.le_of_ble_eq_true rfl) dL_law_561 dL_law_562 dL_law_563 dL_law_564 dL_law_565 ?_
  refine Lx.arg C 2 hi (Nat.le_of_ble_eq_true rfl) dL_law_566 dL_law_567 dL_law_568 dL_law_569 dL_law_570 ?_
  refine Lx.call (k := 54) (as := [.int (xs (i + 1)), .int (xs (i + 2))]) (rest := [.int r]) C dL_law_571 cl_L_68 mok_X6_blow rfl (Nat.le_of_ble_eq_true rfl) (Nat.le_of_ble_eq_true rfl) ⟨Nat.le_of_ble_eq_true rfl, Nat.le_of_ble_eq_true rfl⟩ (Nat.le_of_ble_eq_true rfl) rfl rfl (o_X6_blow ⟨_, e2, ?_⟩)
  show Lx E p e s m below meth c b i 574 [.int r, .int r] M2
  refine Lx.eqI (tgt := 1571) C dL_law_574 (by decide) ?_
  exact cont M2 hR
theorem law_c13 {Rel : Mem → Prop} (hS : StepAll Rel) (C : LOK E p s m meth c b L xs) (hi : i + 5 ≤ L ∧ L ≤ 320) (hM : Rel M) (cont : ∀ M9, Rel M9 → Lx E p e s m below meth c b i 1571 [] M9) : Lx E p e s m below meth c b i 579 [] M := by
  obtain ⟨r, M1, M2, e1, e2, hR⟩ := hS.2.2.2.2.2.2.2.2.2.2.2.2.2.1 M (xs (i + 1)) hM
  refine Lx.a C 1 dL_law_579 rfl ?_
  refine Lx.arg C 1 hi (Nat.le_of_ble_eq_true rfl) dL_law_580 dL_law_581 dL_law_582 dL_law_583 dL_law_584 ?_
  refine Lx.call (k := 0) (as := [.int (xs (i + 1))]) (rest := []) C dL_law_585 cl_L_69 mok_X5_phase rfl (Nat.le_of_ble_eq_true rfl) (Nat.le_of_ble_eq_true rfl) ⟨Nat.le_of_ble_eq_true rfl, Nat.le_of_ble_eq_true rfl⟩ (Nat.le_of_ble_eq_true rfl) rfl rfl (o_X5_phase ⟨_, e1, ?_⟩)
  show Lx E p e s m below meth c b i 588 [.int r] M1
  refine Lx.a C 2 dL_law_588 rfl ?_
  refine Lx.arg C 1 hi (Nat.le_of_ble_eq_true rfl) dL_law_589 dL_law_590 dL_law_591 dL_law_592 dL_law_593 ?_
  refine Lx.call (k := 54) (as := [.int (xs (i + 1))]) (rest := [.int r]) C dL_law_594 cl_L_72 mok_X6_phase rfl (Nat.le_of_ble_eq_true rfl) (Nat.le_of_ble_eq_true rfl) ⟨Nat.le_of_ble_eq_true rfl, Nat.le_of_ble_eq_true rfl⟩ (Nat.le_of_ble_eq_true rfl) rfl rfl (o_X6_phase ⟨_, e2, ?_⟩)
  show Lx E p e s m below meth c b i 597 [.int r, .int r] M2
  refine Lx.eqI (tgt := 1571) C dL_law_597 (by decide) ?_
  exact cont M2 hR
theorem law_c14 {Rel : Mem → Prop} (hS : StepAll Rel) (C : LOK E p s m meth c b L xs) (hi : i + 5 ≤ L ∧ L ≤ 320) (hM : Rel M) (cont : ∀ M9, Rel M9 → Lx E p e s m below meth c b i 1571 [] M9) : Lx E p e s m below meth c b i 602 [] M := by
  obtain ⟨r, M1, M2, e1, e2, hR⟩ := hS.2.2.2.2.2.2.2.2.2.2.2.2.2.2.1 M (xs (i + 1)) (xs (i + 2)) (xs (i + 3)) hM
  refine Lx.a C 1 dL_law_602 rfl ?_
  refine Lx.arg C 1 hi (Nat.le_of_ble_eq_true rfl) dL_law_603 dL_law_604 dL_law_605 dL_law_606 dL_law_607 ?_
  refine Lx.arg C 2 hi (Nat.le_of_ble_eq_true rfl) dL_law_608 dL_law_609 dL_law_610 dL_law_611 dL_law_612 ?_
  refine Lx.arg C 3 hi (Nat.le_of_ble_eq_true rfl) dL_law_613 dL_law_614 dL_law_615 dL_law_616 dL_law_617 ?_
  refine Lx.call (k := 0) (as := [.int (xs (i + 1)), .int (xs (i + 2)), .int (xs (i + 3))]) (rest := []) C dL_law_618 cl_L_73 mok_X5_cast rfl (Nat.le_of_ble_eq_true rfl) (Nat.le_of_ble_eq_true rfl) ⟨Nat.le_of_ble_eq_true rfl, Nat.le_of_ble_eq_true rfl⟩ (Nat.le_of_ble_eq_true rfl) rfl rfl (o_X5_cast ⟨_, e1, ?_⟩)
  show Lx E p e s m below meth c b i 621 [.int r] M1
  refine Lx.a C 2 dL_law_621 rfl ?_
  refine Lx.arg C 1 hi (Nat.le_of_ble_eq_true rfl) dL_law_622 dL_law_623 dL_law_624 dL_law_625 dL_law_626 ?_
  refine Lx.arg C 2 hi (Nat.le_of_ble_eq_true rfl) dL_law_627 dL_law_628 dL_law_629 dL_law_630 dL_law_631 ?_
  refine Lx.arg C 3 hi (Nat.le_of_ble_eq_true rfl) dL_law_632 dL_law_633 dL_law_634 dL_law_635 dL_law_636 ?_
  refine Lx.call (k := 54) (as := [.int (xs (i + 1)), .int (xs (i + 2)), .int (xs (i + 3))]) (rest := [.int r]) C dL_law_637 cl_L_76 mok_X6_cast rfl (Nat.le_of_ble_eq_true rfl) (Nat.le_of_ble_eq_true rfl) ⟨Nat.le_of_ble_eq_true rfl, Nat.le_of_ble_eq_true rfl⟩ (Nat.le_of_ble_eq_true rfl) rfl rfl (o_X6_cast ⟨_, e2, ?_⟩)
  show Lx E p e s m below meth c b i 640 [.int r, .int r] M2
  refine Lx.eqI (tgt := 1571) C dL_law_640 (by decide) ?_
  exact cont M2 hR
theorem law_c15 {Rel : Mem → Prop} (hS : StepAll Rel) (C : LOK E p s m meth c b L xs) (hi : i + 5 ≤ L ∧ L ≤ 320) (hM : Rel M) (cont : ∀ M9, Rel M9 → Lx E p e s m below meth c b i 1571 [] M9) : Lx E p e s m below meth c b i 645 [] M := by
  obtain ⟨r, M1, M2, e1, e2, hR⟩ := hS.2.2.2.2.2.2.2.2.2.2.2.2.2.2.2.1 M (xs (i + 1)) hM
  refine Lx.a C 1 dL_law_645 rfl ?_
  refine Lx.arg C 1 hi (Nat.le_of_ble_eq_true rfl) dL_law_646 dL_law_647 dL_law_648 dL_law_649 dL_law_650 ?_
  refine Lx.call (k := 0) (as := [.int (xs (i + 1))]) (rest := []) C dL_law_651 cl_L_77 mok_X5_sink rfl (Nat.le_of_ble_eq_true rfl) (Nat.le_of_ble_eq_true rfl) ⟨Nat.le_of_ble_eq_true rfl, Nat.le_of_ble_eq_true rfl⟩ (Nat.le_of_ble_eq_true rfl) rfl rfl (o_X5_sink ⟨_, e1, ?_⟩)
  show Lx E p e s m below meth c b i 654 [.int r] M1
  refine Lx.a C 2 dL_law_654 rfl ?_
  refine Lx.arg C 1 hi (Nat.le_of_ble_eq_true rfl) dL_law_655 dL_law_656 dL_law_657 dL_law_658 dL_law_659 ?_
  refine Lx.call (k := 54) (as := [.int (xs (i + 1))]) (rest := [.int r]) C dL_law_660 cl_L_80 mok_X6_sink rfl (Nat.le_of_ble_eq_true rfl) (Nat.le_of_ble_eq_true rfl) ⟨Nat.le_of_ble_eq_true rfl, Nat.le_of_ble_eq_true rfl⟩ (Nat.le_of_ble_eq_true rfl) rfl rfl (o_X6_sink ⟨_, e2, ?_⟩)
  show Lx E p e s m below meth c b i 663 [.int r, .int r] M2
  refine Lx.eqI (tgt := 1571) C dL_law_663 (by decide) ?_
  exact cont M2 hR
theorem law_c16 {Rel : Mem → Prop} (hS : StepAll Rel) (C : LOK E p s m meth c b L xs) (hi : i + 5 ≤ L ∧ L ≤ 320) (hM : Rel M) (cont : ∀ M9, Rel M9 → Lx E p e s m below meth c b i 1571 [] M9) : Lx E p e s m below meth c b i 668 [] M := by
  obtain ⟨r, M1, M2, e1, e2, hR⟩ := hS.2.2.2.2.2.2.2.2.2.2.2.2.2.2.2.2.1 M (xs (i + 1)) (xs (i + 2)) hM
  refine Lx.a C 1 dL_law_668 rfl ?_
  refine Lx.arg C 1 hi (Nat.le_of_ble_eq_true rfl) dL_law_669 dL_law_670 dL_law_671 dL_law_672 dL_law_673 ?_
  refine Lx.arg C 2 hi (Nat.le_of_ble_eq_true rfl) dL_law_674 dL_law_675 dL_law_676 dL_law_677 dL_law_678 ?_
  refine Lx.call (k := 0) (as := [.int (xs (i + 1)), .int (xs (i + 2))]) (rest := []) C dL_law_679 cl_L_81 mok_X5_fate rfl (Nat.le_of_ble_eq_true rfl) (Nat.le_of_ble_eq_true rfl) ⟨Nat.le_of_ble_eq_true rfl, Nat.le_of_ble_eq_true rfl⟩ (Nat.le_of_ble_eq_true rfl) rfl rfl (o_X5_fate ⟨_, e1, ?_⟩)
  show Lx E p e s m below meth c b i 682 [.int r] M1
  refine Lx.a C 2 dL_law_682 rfl ?_
  refine Lx.arg C 1 hi (Nat.le_of_ble_eq_true rfl) dL_law_683 dL_law_684 dL_law_685 dL_law_686 dL_law_687 ?_
  refine Lx.arg C 2 hi (Nat.le_of_ble_eq_true rfl) dL_law_688 dL_law_689 dL_law_690 dL_law_691 dL_law_692 ?_
  refine Lx.call (k := 54) (as := [.int (xs (i + 1)), .int (xs (i + 2))]) (rest := [.int r]) C dL_law_693 cl_L_84 mok_X6_fate rfl (Nat.le_of_ble_eq_true rfl) (Nat.le_of_ble_eq_true rfl) ⟨Nat.le_of_ble_eq_true rfl, Nat.le_of_ble_eq_true rfl⟩ (Nat.le_of_ble_eq_true rfl) rfl rfl (o_X6_fate ⟨_, e2, ?_⟩)
  show Lx E p e s m below meth c b i 696 [.int r, .int r] M2
  refine Lx.eqI (tgt := 1571) C dL_law_696 (by decide) ?_
  exact cont M2 hR
theorem law_c17 {Rel : Mem → Prop} (hS : StepAll Rel) (C : LOK E p s m meth c b L xs) (hi : i + 5 ≤ L ∧ L ≤ 320) (hM : Rel M) (cont : ∀ M9, Rel M9 → Lx E p e s m below meth c b i 1571 [] M9) : Lx E p e s m below meth c b i 701 [] M := by
  obtain ⟨r, M1, M2, e1, e2, hR⟩ := hS.2.2.2.2.2.2.2.2.2.2.2.2.2.2.2.2.2.1 M (xs (i + 1)) (xs (i + 2)) (xs (i + 3)) hM
  refine Lx.a C 1 dL_law_701 rfl ?_
  refine Lx.arg C 1 hi (Nat.le_of_ble_eq_true rfl) dL_law_702 dL_law_703 dL_law_704 dL_law_705 dL_law_706 ?_
  refine Lx.arg C 2 hi (Nat.le_of_ble_eq_true rfl) dL_law_707 dL_law_708 dL_law_709 dL_law_710 dL_law_711 ?_
  refine Lx.arg C 3 hi (Nat.le_of_ble_eq_true rfl) dL_law_712 dL_law_713 dL_law_714 dL_law_715 dL_law_716 ?_
  refine Lx.call (k := 0) (as := [.int (xs (i + 1)), .int (xs (i + 2)), .int (xs (i + 3))]) (rest := []) C dL_law_717 cl_L_85 mok_X5_where rfl (Nat.le_of_ble_eq_true rfl) (Nat.le_of_ble_eq_true rfl) ⟨Nat.le_of_ble_eq_true rfl, Nat.le_of_ble_eq_true rfl⟩ (Nat.le_of_ble_eq_true rfl) rfl rfl (o_X5_where ⟨_, e1, ?_⟩)
  show Lx E p e s m below meth c b i 720 [.int r] M1
  refine Lx.a C 2 dL_law_720 rfl ?_
  refine Lx.arg C 1 hi (Nat.le_of_ble_eq_true rfl) dL_law_721 dL_law_722 dL_law_723 dL_law_724 dL_law_725 ?_
  refine Lx.arg C 2 hi (Nat.le_of_ble_eq_true rfl) dL_law_726 dL_law_727 dL_law_728 dL_law_729 dL_law_730 ?_
  refine Lx.arg C 3 hi (Nat.le_of_ble_eq_true rfl) dL_law_731 dL_law_732 dL_law_733 dL_law_734 dL_law_735 ?_
  refine Lx.call (k := 54) (as := [.int (xs (i + 1)), .int (xs (i + 2)), .int (xs (i + 3))]) (rest := [.int r]) C dL_law_736 cl_L_88 mok_X6_where rfl (Nat.le_of_ble_eq_true rfl) (Nat.le_of_ble_eq_true rfl) ⟨Nat.le_of_ble_eq_true rfl, Nat.le_of_ble_eq_true rfl⟩ (Nat.le_of_ble_eq_true rfl) rfl rfl (o_X6_where ⟨_, e2, ?_⟩)
  show Lx E p e s m below meth c b i 739 [.int r, .int r] M2
  refine Lx.eqI (tgt := 1571) C dL_law_739 (by decide) ?_
  exact cont M2 hR
theorem law_c18 {Rel : Mem → Prop} (hS : StepAll Rel) (C : LOK E p s m meth c b L xs) (hi : i + 5 ≤ L ∧ L ≤ 320) (hM : Rel M) (cont : ∀ M9, Rel M9 → Lx E p e s m below meth c b i 1571 [] M9) : Lx E p e s m below meth c b i 744 [] M := by
  obtain ⟨r, M1, M2, e1, e2, hR⟩ := hS.2.2.2.2.2.2.2.2.2.2.2.2.2.2.2.2.2.2.1 M (xs (i + 1)) (xs (i + 2)) hM
  refine Lx.a C 1 dL_law_744 rfl ?_
  refine Lx.arg C 1 hi (Nat.le_of_ble_eq_true rfl) dL_law_745 dL_law_746 dL_law_747 dL_law_748 dL_law_749 ?_
  refine Lx.arg C 2 hi (Nat.le_of_ble_eq_true rfl) dL_law_750 dL_law_751 dL_law_752 dL_law_753 dL_law_754 ?_
  refine Lx.call (k := 0) (as := [.int (xs (i + 1)), .int (xs (i + 2))]) (rest := []) C dL_law_755 cl_L_89 mok_X5_has rfl (Nat.le_of_ble_eq_true rfl) (Nat.le_of_ble_eq_true rfl) ⟨Nat.le_of_ble_eq_true rfl, Nat.le_of_ble_eq_true rfl⟩ (Nat.le_of_ble_eq_true rfl) rfl rfl (o_X5_has ⟨_, e1, ?_⟩)
  show Lx E p e s m below meth c b i 758 [.int r] M1
  refine Lx.a C 2 dL_law_758 rfl ?_
  refine Lx.arg C 1 hi (Nat.le_of_ble_eq_true rfl) dL_law_759 dL_law_760 dL_law_761 dL_law_762 dL_law_763 ?_
  refine Lx.arg C 2 hi (Nat.le_of_ble_eq_true rfl) dL_law_764 dL_law_765 dL_law_766 dL_law_767 dL_law_768 ?_
  refine Lx.call (k := 54) (as := [.int (xs (i + 1)), .int (xs (i + 2))]) (rest := [.int r]) C dL_law_769 cl_L_92 mok_X6_has rfl (Nat.le_of_ble_eq_true rfl) (Nat.le_of_ble_eq_true rfl) ⟨Nat.le_of_ble_eq_true rfl, Nat.le_of_ble_eq_true rfl⟩ (Nat.le_of_ble_eq_true rfl) rfl rfl (o_X6_has ⟨_, e2, ?_⟩)
  show Lx E p e s m below meth c b i 772 [.int r, .int r] M2
  refine Lx.eqI (tgt := 1571) C dL_law_772 (by decide) ?_
  exact cont M2 hR
theorem law_c19 {Rel : Mem → Prop} (hS : StepAll Rel) (C : LOK E p s m meth c b L xs) (hi : i + 5 ≤ L ∧ L ≤ 320) (hM : Rel M) (cont : ∀ M9, Rel M9 → Lx E p e s m below meth c b i 1571 [] M9) : Lx E p e s m below meth c b i 777 [] M := by
  obtain ⟨r, M1, M2, e1, e2, hR⟩ := hS.2.2.2.2.2.2.2.2.2.2.2.2.2.2.2.2.2.2.2.1 M (xs (i + 1)) hM
  refine Lx.a C 1 dL_law_777 rfl ?_
  refine Lx.arg C 1 hi (Nat.le_of_ble_eq_true rfl) dL_law_778 dL_law_779 dL_law_780 dL_law_781 dL_law_782 ?_
  refine Lx.call (k := 0) (as := [.int (xs (i + 1))]) (rest := []) C dL_law_783 cl_L_93 mok_X5_all rfl (Nat.le_of_ble_eq_true rfl) (Nat.le_of_ble_eq_true rfl) ⟨Nat.le_of_ble_eq_true rfl, Nat.le_of_ble_eq_true rfl⟩ (Nat.le_of_ble_eq_true rfl) rfl rfl (o_X5_all ⟨_, e1, ?_⟩)
  show Lx E p e s m below meth c b i 786 [.int r] M1
  refine Lx.a C 2 dL_law_786 rfl ?_
  refine Lx.arg C 1 hi (Nat.le_of_ble_eq_true rfl) dL_law_787 dL_law_788 dL_law_789 dL_law_790 dL_law_791 ?_
  refine Lx.call (k := 54) (as := [.int (xs (i + 1))]) (rest := [.int r]) C dL_law_792 cl_L_96 mok_X6_all rfl (Nat.le_of_ble_eq_true rfl) (Nat.le_of_ble_eq_true rfl) ⟨Nat.le_of_ble_eq_true rfl, Nat.le_of_ble_eq_true rfl⟩ (Nat.le_of_ble_eq_true rfl) rfl rfl (o_X6_all ⟨_, e2, ?_⟩)
  show Lx E p e s m below meth c b i 795 [.int r, .int r] M2
  refine Lx.eqI (tgt := 1571) C dL_law_795 (by decide) ?_
  exact cont M2 hR
theorem law_c20 {Rel : Mem → Prop} (hS : StepAll Rel) (C : LOK E p s m meth c b L xs) (hi : i + 5 ≤ L ∧ L ≤ 320) (hM : Rel M) (cont : ∀ M9, Rel M9 → Lx E p e s m below meth c b i 1571 [] M9) : Lx E p e s m below meth c b i 800 [] M := by
  obtain ⟨r, M1, M2, e1, e2, hR⟩ := hS.2.2.2.2.2.2.2.2.2.2.2.2.2.2.2.2.2.2.2.2.1 M (xs (i + 1)) (xs (i + 2)) hM
  refine Lx.a C 1 dL_law_800 rfl ?_
  refine Lx.arg C 1 hi (Nat.le_of_ble_eq_true rfl) dL_law_801 dL_law_802 dL_law_803 dL_law_804 dL_law_805 ?_
  refine Lx.arg C 2 hi (Nat.le_of_ble_eq_true rfl) dL_law_806 dL_law_807 dL_law_808 dL_law_809 dL_law_810 ?_
  refine Lx.call (k := 0) (as := [.int (xs (i + 1)), .int (xs (i + 2))]) (rest := []) C dL_law_811 cl_L_97 mok_X5_when rfl (Nat.le_of_ble_eq_true rfl) (Nat.le_of_ble_eq_true rfl) ⟨Nat.le_of_ble_eq_true rfl, Nat.le_of_ble_eq_true rfl⟩ (Nat.le_of_ble_eq_true rfl) rfl rfl (o_X5_when ⟨_, e1, ?_⟩)
  show Lx E p e s m below meth c b i 814 [.int r] M1
  refine Lx.a C 2 dL_law_814 rfl ?_
  refine Lx.arg C 1 hi (Nat.le_of_ble_eq_true rfl) dL_law_815 dL_law_816 dL_law_817 dL_law_818 dL_law_819 ?_
  refine Lx.arg C 2 hi (Nat.le_of_ble_eq_true rfl) dL_law_820 dL_law_821 dL_law_822 dL_law_823 dL_law_824 ?_
  refine Lx.call (k := 54) (as := [.int (xs (i + 1)), .int (xs (i + 2))]) (rest := [.int r]) C dL_law_825 cl_L_100 mok_X6_when rfl (Nat.le_of_ble_eq_true rfl) (Nat.le_of_ble_eq_true rfl) ⟨Nat.le_of_ble_eq_true rfl, Nat.le_of_ble_eq_true rfl⟩ (Nat.le_of_ble_eq_true rfl) rfl rfl (o_X6_when ⟨_, e2, ?_⟩)
  show Lx E p e s m below meth c b i 828 [.int r, .int r] M2
  refine Lx.eqI (tgt := 1571) C dL_law_828 (by decide) ?_
  exact cont M2 hR
theorem law_c21 {Rel : Mem → Prop} (hS : StepAll Rel) (C : LOK E p s m meth c b L xs) (hi : i + 5 ≤ L ∧ L ≤ 320) (hM : Rel M) (cont : ∀ M9, Rel M9 → Lx E p e s m below meth c b i 1571 [] M9) : Lx E p e s m below meth c b i 833 [] M := by
  obtain ⟨r, M1, M2, e1, e2, hR⟩ := hS.2.2.2.2.2.2.2.2.2.2.2.2.2.2.2.2.2.2.2.2.2.1 M (xs (i + 1)) (xs (i + 2)) hM
  refine Lx.a C 1 dL_law_833 rfl ?_
  refine Lx.arg C 1 hi (Nat.le_of_ble_eq_true rfl) dL_law_834 dL_law_835 dL_law_836 dL_law_837 dL_law_838 ?_
  refine Lx.arg C 2 hi (Nat.le_of_ble_eq_true rfl) dL_law_839 dL_law_840 dL_law_841 dL_law_842 dL_law_843 ?_
  refine Lx.call (k := 0) (as := [.int (xs (i + 1)), .int (xs (i + 2))]) (rest := []) C dL_law_844 cl_L_101 mok_X5_aim rfl (Nat.le_of_ble_eq_true rfl) (Nat.le_of_ble_eq_true rfl) ⟨Nat.le_of_ble_eq_true rfl, Nat.le_of_ble_eq_true rfl⟩ (Nat.le_of_ble_eq_true rfl) rfl rfl (o_X5_aim ⟨_, e1, ?_⟩)
  show Lx E p e s m below meth c b i 847 [.int r] M1
  refine Lx.a C 2 dL_law_847 rfl ?_
  refine Lx.arg C 1 hi (Nat.le_of_ble_eq_true rfl) dL_law_848 dL_law_849 dL_law_850 dL_law_851 dL_law_852 ?_
  refine Lx.arg C 2 hi (Nat.le_of_ble_eq_true rfl) dL_law_853 dL_law_854 dL_law_855 dL_law_856 dL_law_857 ?_
  refine Lx.call (k := 54) (as := [.int (xs (i + 1)), .int (xs (i + 2))]) (rest := [.int r]) C dL_law_858 cl_L_104 mok_X6_aim rfl (Nat.le_of_ble_eq_true rfl) (Nat.le_of_ble_eq_true rfl) ⟨Nat.le_of_ble_eq_true rfl, Nat.le_of_ble_eq_true rfl⟩ (Nat.le_of_ble_eq_true rfl) rfl rfl (o_X6_aim ⟨_, e2, ?_⟩)
  show Lx E p e s m below meth c b i 861 [.int r, .int r] M2
  refine Lx.eqI (tgt := 1571) C dL_law_861 (by decide) ?_
  exact cont M2 hR
theorem law_c22 {Rel : Mem → Prop} (hS : StepAll Rel) (C : LOK E p s m meth c b L xs) (hi : i + 5 ≤ L ∧ L ≤ 320) (hM : Rel M) (cont : ∀ M9, Rel M9 → Lx E p e s m below meth c b i 1571 [] M9) : Lx E p e s m below meth c b i 866 [] M := by
  obtain ⟨r, M1, M2, e1, e2, hR⟩ := hS.2.2.2.2.2.2.2.2.2.2.2.2.2.2.2.2.2.2.2.2.2.2.1 M (xs (i + 1)) (xs (i + 2)) hM
  refine Lx.a C 1 dL_law_866 rfl ?_
  refine Lx.arg C 1 hi (Nat.le_of_ble_eq_true rfl) dL_law_867 dL_law_868 dL_law_869 dL_law_870 dL_law_871 ?_
  refine Lx.arg C 2 hi (Nat.le_of_ble_eq_true rfl) dL_law_872 dL_law_873 dL_law_874 dL_law_875 dL_law_876 ?_
  refine Lx.call (k := 0) (as := [.int (xs (i + 1)), .int (xs (i + 2))]) (rest := []) C dL_law_877 cl_L_105 mok_X5_ways rfl (Nat.le_of_ble_eq_true rfl) (Nat.le_of_ble_eq_true rfl) ⟨Nat.le_of_ble_eq_true rfl, Nat.le_of_ble_eq_true rfl⟩ (Nat.le_of_ble_eq_true rfl) rfl rfl (o_X5_ways ⟨_, e1, ?_⟩)
  show Lx E p e s m below meth c b i 880 [.int r] M1
  refine Lx.a C 2 dL_law_880 rfl ?_
  refine Lx.arg C 1 hi (Nat.le_of_ble_eq_true rfl) dL_law_881 dL_law_882 dL_law_883 dL_law_884 dL_law_885 ?_
  refine Lx.arg C 2 hi (Nat.le_of_ble_eq_true rfl) dL_law_886 dL_law_887 dL_law_888 dL_law_889 dL_law_890 ?_
  refine Lx.call (k := 54) (as := [.int (xs (i + 1)), .int (xs (i + 2))]) (rest := [.int r]) C dL_law_891 cl_L_108 mok_X6_ways rfl (Nat.le_of_ble_eq_true rfl) (Nat.le_of_ble_eq_true rfl) ⟨Nat.le_of_ble_eq_true rfl, Nat.le_of_ble_eq_true rfl⟩ (Nat.le_of_ble_eq_true rfl) rfl rfl (o_X6_ways ⟨_, e2, ?_⟩)
  show Lx E p e s m below meth c b i 894 [.int r, .int r] M2
  refine Lx.eqI (tgt := 1571) C dL_law_894 (by decide) ?_
  exact cont M2 hR
theorem law_c23 {Rel : Mem → Prop} (hS : StepAll Rel) (C : LOK E p s m meth c b L xs) (hi : i + 5 ≤ L ∧ L ≤ 320) (hM : Rel M) (cont : ∀ M9, Rel M9 → Lx E p e s m below meth c b i 1571 [] M9) : Lx E p e s m below meth c b i 899 [] M := by
  obtain ⟨r, M1, M2, e1, e2, hR⟩ := hS.2.2.2.2.2.2.2.2.2.2.2.2.2.2.2.2.2.2.2.2.2.2.2.1 M (xs (i + 1)) (xs (i + 2)) hM
  refine Lx.a C 1 dL_law_899 rfl ?_
  refine Lx.arg C 1 hi (Nat.le_of_ble_eq_true rfl) dL_law_900 dL_law_901 dL_law_902 dL_law_903 dL_law_904 ?_
  refine Lx.arg C 2 hi (Nat.le_of_ble_eq_true rfl) dL_law_905 dL_law_906 dL_law_907 dL_law_908 dL_law_909 ?_
  refine Lx.call (k := 0) (as := [.int (xs (i + 1)), .int (xs (i + 2))]) (rest := []) C dL_law_910 cl_L_109 mok_X5_place rfl (Nat.le_of_ble_eq_true rfl) (Nat.le_of_ble_eq_true rfl) ⟨Nat.le_of_ble_eq_true rfl, Nat.le_of_ble_eq_true rfl⟩ (Nat.le_of_ble_eq_true rfl) rfl rfl (o_X5_place ⟨_, e1, ?_⟩)
  show Lx E p e s m below meth c b i 913 [.int r] M1
  refine Lx.a C 2 dL_law_913 rfl ?_
  refine Lx.arg C 1 hi (Nat.le_of_ble_eq_true rfl) dL_law_914 dL_law_915 dL_law_916 dL_law_917 dL_law_918 ?_
  refine Lx.arg C 2 hi (Nat.le_of_ble_eq_true rfl) dL_law_919 dL_law_920 dL_law_921 dL_law_922 dL_law_923 ?_
  refine Lx.call (k := 54) (as := [.int (xs (i + 1)), .int (xs (i + 2))]) (rest := [.int r]) C dL_law_924 cl_L_112 mok_X6_place rfl (Nat.le_of_ble_eq_true rfl) (Nat.le_of_ble_eq_true rfl) ⟨Nat.le_of_ble_eq_true rfl, Nat.le_of_ble_eq_true rfl⟩ (Nat.le_of_ble_eq_true rfl) rfl rfl (o_X6_place ⟨_, e2, ?_⟩)
  show Lx E p e s m below meth c b i 927 [.int r, .int r] M2
  refine Lx.eqI (tgt := 1571) C dL_law_927 (by decide) ?_
  exact cont M2 hR
theorem law_c24 {Rel : Mem → Prop} (hS : StepAll Rel) (C : LOK E p s m meth c b L xs) (hi : i + 5 ≤ L ∧ L ≤ 320) (hM : Rel M) (cont : ∀ M9, Rel M9 → Lx E p e s m below meth c b i 1571 [] M9) : Lx E p e s m below meth c b i 932 [] M := by
  obtain ⟨r, M1, M2, e1, e2, hR⟩ := hS.2.2.2.2.2.2.2.2.2.2.2.2.2.2.2.2.2.2.2.2.2.2.2.2.1 M (xs (i + 1)) (xs (i + 2)) hM
  refine Lx.a C 1 dL_law_932 rfl ?_
  refine Lx.arg C 1 hi (Nat.le_of_ble_eq_true rfl) dL_law_933 dL_law_934 dL_law_935 dL_law_936 dL_law_937 ?_
  refine Lx.arg C 2 hi (Nat.le_of_ble_eq_true rfl) dL_law_938 dL_law_939 dL_law_940 dL_law_941 dL_law_942 ?_
  refine Lx.call (k := 0) (as := [.int (xs (i + 1)), .int (xs (i + 2))]) (rest := []) C dL_law_943 cl_L_113 mok_X5_hook rfl (Nat.le_of_ble_eq_true rfl) (Nat.le_of_ble_eq_true rfl) ⟨Nat.le_of_ble_eq_true rfl, Nat.le_of_ble_eq_true rfl⟩ (Nat.le_of_ble_eq_true rfl) rfl rfl (o_X5_hook ⟨_, e1, ?_⟩)
  show Lx E p e s m below meth c b i 946 [.int r] M1
  refine Lx.a C 2 dL_law_946 rfl ?_
  refine Lx.arg C 1 hi (Nat.le_of_ble_eq_true rfl) dL_law_947 dL_law_948 dL_law_949 dL_law_950 dL_law_951 ?_
  refine Lx.arg C 2 hi (Nat.le_of_ble_eq_true rfl) dL_law_952 dL_law_953 dL_law_954 dL_law_955 dL_law_956 ?_
  refine Lx.call (k := 54) (as := [.int (xs (i + 1)), .int (xs (i + 2))]) (rest := [.int r]) C dL_law_957 cl_L_116 mok_X6_hook rfl (Nat.le_of_ble_eq_true rfl) (Nat.le_of_ble_eq_true rfl) ⟨Nat.le_of_ble_eq_true rfl, Nat.le_of_ble_eq_true rfl⟩ (Nat.le_of_ble_eq_true rfl) rfl rfl (o_X6_hook ⟨_, e2, ?_⟩)
  show Lx E p e s m below meth c b i 960 [.int r, .int r] M2
  refine Lx.eqI (tgt := 1571) C dL_law_960 (by decide) ?_
  exact cont M2 hR
theorem law_c25 {Rel : Mem → Prop} (hS : StepAll Rel) (C : LOK E p s m meth c b L xs) (hi : i + 5 ≤ L ∧ L ≤ 320) (hM : Rel M) (cont : ∀ M9, Rel M9 → Lx E p e s m below meth c b i 1571 [] M9) : Lx E p e s m below meth c b i 965 [] M := by
  obtain ⟨r, M1, M2, e1, e2, hR⟩ := hS.2.2.2.2.2.2.2.2.2.2.2.2.2.2.2.2.2.2.2.2.2.2.2.2.2.1 M (xs (i + 1)) (xs (i + 2)) hM
  refine Lx.a C 1 dL_law_965 rfl ?_
  refine Lx.arg C 1 hi (Nat.le_of_ble_eq_true rfl) dL_law_966 dL_law_967 dL_law_968 dL_law_969 dL_law_970 ?_
  refine Lx.arg C 2 hi (Nat.le_of_ble_eq_true rfl) dL_law_971 dL_law_972 dL_law_973 dL_law_974 dL_law_975 ?_
  refine Lx.call (k := 0) (as := [.int (xs (i + 1)), .int (xs (i + 2))]) (rest := []) C dL_law_976 cl_L_117 mok_X5_fire rfl (Nat.le_of_ble_eq_true rfl) (Nat.le_of_ble_eq_true rfl) ⟨Nat.le_of_ble_eq_true rfl, Nat.le_of_ble_eq_true rfl⟩ (Nat.le_of_ble_eq_true rfl) rfl rfl (o_X5_fire ⟨_, e1, ?_⟩)
  show Lx E p e s m below meth c b i 979 [.int r] M1
  refine Lx.a C 2 dL_law_979 rfl ?_
  refine Lx.arg C 1 hi (Nat.le_of_ble_eq_true rfl) dL_law_980 dL_law_981 dL_law_982 dL_law_983 dL_law_984 ?_
  refine Lx.arg C 2 hi (Nat.le_of_ble_eq_true rfl) dL_law_985 dL_law_986 dL_law_987 dL_law_988 dL_law_989 ?_
  refine Lx.call (k := 54) (as := [.int (xs (i + 1)), .int (xs (i + 2))]) (rest := [.int r]) C dL_law_990 cl_L_120 mok_X6_fire rfl (Nat.le_of_ble_eq_true rfl) (Nat.le_of_ble_eq_true rfl) ⟨Nat.le_of_ble_eq_true rfl, Nat.le_of_ble_eq_true rfl⟩ (Nat.le_of_ble_eq_true rfl) rfl rfl (o_X6_fire ⟨_, e2, ?_⟩)
  show Lx E p e s m below meth c b i 993 [.int r, .int r] M2
  refine Lx.eqI (tgt := 1571) C dL_law_993 (by decide) ?_
  exact cont M2 hR
theorem law_c26 {Rel : Mem → Prop} (hS : StepAll Rel) (C : LOK E p s m meth c b L xs) (hi : i + 5 ≤ L ∧ L ≤ 320) (hM : Rel M) (cont : ∀ M9, Rel M9 → Lx E p e s m below meth c b i 1571 [] M9) : Lx E p e s m below meth c b i 998 [] M := by
  obtain ⟨r, M1, M2, e1, e2, hR⟩ := hS.2.2.2.2.2.2.2.2.2.2.2.2.2.2.2.2.2.2.2.2.2.2.2.2.2.2.1 M (xs (i + 1)) hM
  refine Lx.a C 1 dL_law_998 rfl ?_
  refine Lx.arg C 1 hi (Nat.le_of_ble_eq_true rfl) dL_law_999 dL_law_1000 dL_law_1001 dL_law_1002 dL_law_1003 ?_
  refine Lx.call (k := 0) (as := [.int (xs (i + 1))]) (rest := []) C dL_law_1004 cl_L_121 mok_X5_moon rfl (Nat.le_of_ble_eq_true rfl) (Nat.le_of_ble_eq_true rfl) ⟨Nat.le_of_ble_eq_true rfl, Nat.le_of_ble_eq_true rfl⟩ (Nat.le_of_ble_eq_true rfl) rfl rfl (o_X5_moon ⟨_, e1, ?_⟩)
  show Lx E p e s m below meth c b i 1007 [.int r] M1
  refine Lx.a C 2 dL_law_1007 rfl ?_
  refine Lx.arg C 1 hi (Nat.le_of_ble_eq_true rfl) dL_law_1008 dL_law_1009 dL_law_1010 dL_law_1011 dL_law_1012 ?_
  refine Lx.call (k := 54) (as := [.int (xs (i + 1))]) (rest := [.int r]) C dL_law_1013 cl_L_124 mok_X6_moon rfl (Nat.le_of_ble_eq_true rfl) (Nat.le_of_ble_eq_true rfl) ⟨Nat.le_of_ble_eq_true rfl, Nat.le_of_ble_eq_true rfl⟩ (Nat.le_of_ble_eq_true rfl) rfl rfl (o_X6_moon ⟨_, e2, ?_⟩)
  show Lx E p e s m below meth c b i 1016 [.int r, .int r] M2
  refine Lx.eqI (tgt := 1571) C dL_law_1016 (by decide) ?_
  exact cont M2 hR
theorem law_c27 {Rel : Mem → Prop} (hS : StepAll Rel) (C : LOK E p s m meth c b L xs) (hi : i + 5 ≤ L ∧ L ≤ 320) (hM : Rel M) (cont : ∀ M9, Rel M9 → Lx E p e s m below meth c b i 1571 [] M9) : Lx E p e s m below meth c b i 1021 [] M := by
  obtain ⟨r, M1, M2, e1, e2, hR⟩ := hS.2.2.2.2.2.2.2.2.2.2.2.2.2.2.2.2.2.2.2.2.2.2.2.2.2.2.2.1 M (xs (i + 1)) (xs (i + 2)) (xs (i + 3)) hM
  refine Lx.a C 1 dL_law_1021 rfl ?_
  refine Lx.arg C 1 hi (Nat.le_of_ble_eq_true rfl) dL_law_1022 dL_law_1023 dL_law_1024 dL_law_1025 dL_law_1026 ?_
  refine Lx.arg C 2 hi (Nat.le_of_ble_eq_true rfl) dL_law_1027 dL_law_1028 dL_law_1029 dL_law_1030 dL_law_1031 ?_
  refine Lx.arg C 3 hi (Nat.le_of_ble_eq_true rfl) dL_law_1032 dL_law_1033 dL_law_1034 dL_law_1035 dL_law_1036 ?_
  refine Lx.call (k := 0) (as := [.int (xs (i + 1)), .int (xs (i + 2)), .int (xs (i + 3))]) (rest := []) C dL_law_1037 cl_L_125 mok_X5_rest rfl (Nat.le_of_ble_eq_true rfl) (Nat.le_of_ble_eq_true rfl) ⟨Nat.le_of_ble_eq_true rfl, Nat.le_of_ble_eq_true rfl⟩ (Nat.le_of_ble_eq_true rfl) rfl rfl (o_X5_rest ⟨_, e1, ?_⟩)
  show Lx E p e s m below meth c b i 1040 [.int r] M1
  refine Lx.a C 2 dL_law_1040 rfl ?_
  refine Lx.arg C 1 hi (Nat.le_of_ble_eq_true rfl) dL_law_1041 dL_law_1042 dL_law_1043 dL_law_1044 dL_law_1045 ?_
  refine Lx.arg C 2 hi (Nat.le_of_ble_eq_true rfl) dL_law_1046 dL_law_1047 dL_law_1048 dL_law_1049 dL_law_1050 ?_
  refine Lx.arg C 3 hi (Nat.le_of_ble_eq_true rfl) dL_law_1051 dL_law_1052 dL_law_1053 dL_law_1054 dL_law_1055 ?_
  refine Lx.call (k := 54) (as := [.int (xs (i + 1)), .int (xs (i + 2)), .int (xs (i + 3))]) (rest := [.int r]) C dL_law_1056 cl_L_128 mok_X6_rest rfl (Nat.le_of_ble_eq_true rfl) (Nat.le_of_ble_eq_true rfl) ⟨Nat.le_of_ble_eq_true rfl, Nat.le_of_ble_eq_true rfl⟩ (Nat.le_of_ble_eq_true rfl) rfl rfl (o_X6_rest ⟨_, e2, ?_⟩)
  show Lx E p e s m below meth c b i 1059 [.int r, .int r] M2
  refine Lx.eqI (tgt := 1571) C dL_law_1059 (by decide) ?_
  exact cont M2 hR
theorem law_c28 {Rel : Mem → Prop} (hS : StepAll Rel) (C : LOK E p s m meth c b L xs) (hi : i + 5 ≤ L ∧ L ≤ 320) (hM : Rel M) (cont : ∀ M9, Rel M9 → Lx E p e s m below meth c b i 1571 [] M9) : Lx E p e s m below meth c b i 1064 [] M := by
  obtain ⟨r, M1, M2, e1, e2, hR⟩ := hS.2.2.2.2.2.2.2.2.2.2.2.2.2.2.2.2.2.2.2.2.2.2.2.2.2.2.2.2.1 M (xs (i + 1)) (xs (i + 2)) (xs (i + 3)) (xs (i + 4)) hM
  refine Lx.a C 1 dL_law_1064 rfl ?_
  refine Lx.arg C 1 hi (Nat.le_of_ble_eq_true rfl) dL_law_1065 dL_law_1066 dL_law_1067 dL_law_1068 dL_law_1069 ?_
  refine Lx.arg C 2 hi (Nat.le_of_ble_eq_true rfl) dL_law_1070 dL_law_1071 dL_law_1072 dL_law_1073 dL_law_1074 ?_
  refine Lx.arg C 3 hi (Nat.le_of_ble_eq_true rfl) dL_law_1075 dL_law_1076 dL_law_1077 dL_law_1078 dL_law_1079 ?_
  refine Lx.arg C 4 hi (Nat.le_of_ble_eq_true rfl) dL_law_1080 dL_law_1081 dL_law_1082 dL_law_1083 dL_law_1084 ?_
  refine Lx.call (k := 0) (as := [.int (xs (i + 1)), .int (xs (i + 2)), .int (xs (i + 3)), .int (xs (i + 4))]) (rest := []) C dL_law_1085 cl_L_129 mok_X5_luck rfl (Nat.le_of_ble_eq_true rfl) (Nat.le_of_ble_eq_true rfl) ⟨Nat.le_of_ble_eq_true rfl, Nat.le_of_ble_eq_true rfl⟩ (Nat.le_of_ble_eq_true rfl) rfl rfl (o_X5_luck ⟨_, e1, ?_⟩)
  show Lx E p e s m below meth c b i 1088 [.long r] M1
  refine Lx.a C 2 dL_law_1088 rfl ?_
  refine Lx.arg C 1 hi (Nat.le_of_ble_eq_true rfl) dL_law_1089 dL_law_1090 dL_law_1091 dL_law_1092 dL_law_1093 ?_
  refine Lx.arg C 2 hi (Nat.le_of_ble_eq_true rfl) dL_law_1094 dL_law_1095 dL_law_1096 dL_law_1097 dL_law_1098 ?_
  refine Lx.arg C 3 hi (Nat.le_of_ble_eq_true rfl) dL_law_1099 dL_law_1100 dL_law_1101 dL_law_1102 dL_law_1103 ?_
  refine Lx.arg C 4 hi (Nat.le_of_ble_eq_true rfl) dL_law_1104 dL_law_1105 dL_law_1106 dL_law_1107 dL_law_1108 ?_
  refine Lx.call (k := 54) (as := [.int (xs (i + 1)), .int (xs (i + 2)), .int (xs (i + 3)), .int (xs (i + 4))]) (rest := [.long r]) C dL_law_1109 cl_L_133 mok_X6_luck rfl (Nat.le_of_ble_eq_true rfl) (Nat.le_of_ble_eq_true rfl) ⟨Nat.le_of_ble_eq_true rfl, Nat.le_of_ble_eq_true rfl⟩ (Nat.le_of_ble_eq_true rfl) rfl rfl (o_X6_luck ⟨_, e2, ?_⟩)
  show Lx E p e s m below meth c b i 1112 [.long r, .long r] M2
  refine Lx.eqL (tgt := 1571) C dL_law_1112 dL_law_1113 (by decide) ?_
  exact cont M2 hR
theorem law_c29 {Rel : Mem → Prop} (hS : StepAll Rel) (C : LOK E p s m meth c b L xs) (hi : i + 5 ≤ L ∧ L ≤ 320) (hM : Rel M) (cont : ∀ M9, Rel M9 → Lx E p e s m below meth c b i 1571 [] M9) : Lx E p e s m below meth c b i 1118 [] M := by
  obtain ⟨r, M1, M2, e1, e2, hR⟩ := hS.2.2.2.2.2.2.2.2.2.2.2.2.2.2.2.2.2.2.2.2.2.2.2.2.2.2.2.2.2.1 M (xs (i + 1)) (xs (i + 2)) (xs (i + 3)) hM
  refine Lx.a C 1 dL_law_1118 rfl ?_
  refine Lx.arg C 1 hi (Nat.le_of_ble_eq_true rfl) dL_law_1119 dL_law_1120 dL_law_1121 dL_law_1122 dL_law_1123 ?_
  refine Lx.arg C 2 hi (Nat.le_of_ble_eq_true rfl) dL_law_1124 dL_law_1125 dL_law_1126 dL_law_1127 dL_law_1128 ?_
  refine Lx.arg C 3 hi (Nat.le_of_ble_eq_true rfl) dL_law_1129 dL_law_1130 dL_law_1131 dL_law_1132 dL_law_1133 ?_
  refine Lx.call (k := 0) (as := [.int (xs (i + 1)), .int (xs (i + 2)), .int (xs (i + 3))]) (rest := []) C dL_law_1134 cl_L_134 mok_X5_mean rfl (Nat.le_of_ble_eq_true rfl) (Nat.le_of_ble_eq_true rfl) ⟨Nat.le_of_ble_eq_true rfl, Nat.le_of_ble_eq_true rfl⟩ (Nat.le_of_ble_eq_true rfl) rfl rfl (o_X5_mean ⟨_, e1, ?_⟩)
  show Lx E p e s m below meth c b i 1137 [.long r] M1
  refine Lx.a C 2 dL_law_1137 rfl ?_
  refine Lx.arg C 1 hi (Nat.le_of_ble_eq_true rfl) dL_law_1138 dL_law_1139 dL_law_1140 dL_law_1141 dL_law_1142 ?_
  refine Lx.arg C 2 hi (Nat.le_of_ble_eq_true rfl) dL_law_1143 dL_law_1144 dL_law_1145 dL_law_1146 dL_law_1147 ?_
  refine Lx.arg C 3 hi (Nat.le_of_ble_eq_true rfl) dL_law_1148 dL_law_1149 dL_law_1150 dL_law_1151 dL_law_1152 ?_
  refine Lx.call (k := 54) (as := [.int (xs (i + 1)), .int (xs (i + 2)), .int (xs (i + 3))]) (rest := [.long r]) C dL_law_1153 cl_L_138 mok_X6_mean rfl (Nat.le_of_ble_eq_true rfl) (Nat.le_of_ble_eq_true rfl) ⟨Nat.le_of_ble_eq_true rfl, Nat.le_of_ble_eq_true rfl⟩ (Nat.le_of_ble_eq_true rfl) rfl rfl (o_X6_mean ⟨_, e2, ?_⟩)
  show Lx E p e s m below meth c b i 1156 [.long r, .long r] M2
  refine Lx.eqL (tgt := 1571) C dL_law_1156 dL_law_1157 (by decide) ?_
  exact cont M2 hR
theorem law_c30 {Rel : Mem → Prop} (hS : StepAll Rel) (C : LOK E p s m meth c b L xs) (hi : i + 5 ≤ L ∧ L ≤ 320) (hM : Rel M) (cont : ∀ M9, Rel M9 → Lx E p e s m below meth c b i 1571 [] M9) : Lx E p e s m below meth c b i 1162 [] M := by
  obtain ⟨r, M1, M2, e1, e2, hR⟩ := hS.2.2.2.2.2.2.2.2.2.2.2.2.2.2.2.2.2.2.2.2.2.2.2.2.2.2.2.2.2.2.1 M (xs (i + 1)) (xs (i + 2)) (xs (i + 3)) hM
  refine Lx.a C 1 dL_law_1162 rfl ?_
  refine Lx.arg C 1 hi (Nat.le_of_ble_eq_true rfl) dL_law_1163 dL_law_1164 dL_law_1165 dL_law_1166 dL_law_1167 ?_
  refine Lx.arg C 2 hi (Nat.le_of_ble_eq_true rfl) dL_law_1168 dL_law_1169 dL_law_1170 dL_law_1171 dL_law_1172 ?_
  refine Lx.arg C 3 hi (Nat.le_of_ble_eq_true rfl) dL_law_1173 dL_law_1174 dL_law_1175 dL_law_1176 dL_law_1177 ?_
  refine Lx.call (k := 0) (as := [.int (xs (i + 1)), .int (xs (i + 2)), .int (xs (i + 3))]) (rest := []) C dL_law_1178 cl_L_139 mok_X5_see rfl (Nat.le_of_ble_eq_true rfl) (Nat.le_of_ble_eq_true rfl) ⟨Nat.le_of_ble_eq_true rfl, Nat.le_of_ble_eq_true rfl⟩ (Nat.le_of_ble_eq_true rfl) rfl rfl (o_X5_see ⟨_, e1, ?_⟩)
  show Lx E p e s m below meth c b i 1181 [.int r] M1
  refine Lx.a C 2 dL_law_1181 rfl ?_
  refine Lx.arg C 1 hi (Nat.le_of_ble_eq_true rfl) dL_law_1182 dL_law_1183 dL_law_1184 dL_law_1185 dL_law_1186 ?_
  refine Lx.arg C 2 hi (Nat.le_of_ble_eq_true rfl) dL_law_1187 dL_law_1188 dL_law_1189 dL_law_1190 dL_law_1191 ?_
  refine Lx.arg C 3 hi (Nat.le_of_ble_eq_true rfl) dL_law_1192 dL_law_1193 dL_law_1194 dL_law_1195 dL_law_1196 ?_
  refine Lx.call (k := 54) (as := [.int (xs (i + 1)), .int (xs (i + 2)), .int (xs (i + 3))]) (rest := [.int r]) C dL_law_1197 cl_L_142 mok_X6_see rfl (Nat.le_of_ble_eq_true rfl) (Nat.le_of_ble_eq_true rfl) ⟨Nat.le_of_ble_eq_true rfl, Nat.le_of_ble_eq_true rfl⟩ (Nat.le_of_ble_eq_true rfl) rfl rfl (o_X6_see ⟨_, e2, ?_⟩)
  show Lx E p e s m below meth c b i 1200 [.int r, .int r] M2
  refine Lx.eqI (tgt := 1571) C dL_law_1200 (by decide) ?_
  exact cont M2 hR
theorem law_c31 {Rel : Mem → Prop} (hS : StepAll Rel) (C : LOK E p s m meth c b L xs) (hi : i + 5 ≤ L ∧ L ≤ 320) (hM : Rel M) (cont : ∀ M9, Rel M9 → Lx E p e s m below meth c b i 1571 [] M9) : Lx E p e s m below meth c b i 1205 [] M := by
  obtain ⟨r, M1, M2, e1, e2, hR⟩ := hS.2.2.2.2.2.2.2.2.2.2.2.2.2.2.2.2.2.2.2.2.2.2.2.2.2.2.2.2.2.2.2.1 M (xs (i + 1)) hM
  refine Lx.a C 1 dL_law_1205 rfl ?_
  refine Lx.arg C 1 hi (Nat.le_of_ble_eq_true rfl) dL_law_1206 dL_law_1207 dL_law_1208 dL_law_1209 dL_law_1210 ?_
  refine Lx.call (k := 0) (as := [.int (xs (i + 1))]) (rest := []) C dL_law_1211 cl_L_143 mok_X5_forget rfl (Nat.le_of_ble_eq_true rfl) (Nat.le_of_ble_eq_true rfl) ⟨Nat.le_of_ble_eq_true rfl, Nat.le_of_ble_eq_true rfl⟩ (Nat.le_of_ble_eq_true rfl) rfl rfl (o_X5_forget ⟨_, e1, ?_⟩)
  show Lx E p e s m below meth c b i 1214 [.int r] M1
  refine Lx.a C 2 dL_law_1214 rfl ?_
  refine Lx.arg C 1 hi (Nat.le_of_ble_eq_true rfl) dL_law_1215 dL_law_1216 dL_law_1217 dL_law_1218 dL_law_1219 ?_
  refine Lx.call (k := 54) (as := [.int (xs (i + 1))]) (rest := [.int r]) C dL_law_1220 cl_L_146 mok_X6_forget rfl (Nat.le_of_ble_eq_true rfl) (Nat.le_of_ble_eq_true rfl) ⟨Nat.le_of_ble_eq_true rfl, Nat.le_of_ble_eq_true rfl⟩ (Nat.le_of_ble_eq_true rfl) rfl rfl (o_X6_forget ⟨_, e2, ?_⟩)
  show Lx E p e s m below meth c b i 1223 [.int r, .int r] M2
  refine Lx.eqI (tgt := 1571) C dL_law_1223 (by decide) ?_
  exact cont M2 hR
theorem law_c32 {Rel : Mem → Prop} (hS : StepAll Rel) (C : LOK E p s m meth c b L xs) (hi : i + 5 ≤ L ∧ L ≤ 320) (hM : Rel M) (cont : ∀ M9, Rel M9 → Lx E p e s m below meth c b i 1571 [] M9) : Lx E p e s m below meth c b i 1228 [] M := by
  obtain ⟨r, M1, M2, e1, e2, hR⟩ := hS.2.2.2.2.2.2.2.2.2.2.2.2.2.2.2.2.2.2.2.2.2.2.2.2.2.2.2.2.2.2.2.2.1 M (xs (i + 1)) hM
  refine Lx.a C 1 dL_law_1228 rfl ?_
  refine Lx.arg C 1 hi (Nat.le_of_ble_eq_true rfl) dL_law_1229 dL_law_1230 dL_law_1231 dL_law_1232 dL_law_1233 ?_
  refine Lx.call (k := 0) (as := [.int (xs (i + 1))]) (rest := []) C dL_law_1234 cl_L_147 mok_X5_kinds rfl (Nat.le_of_ble_eq_true rfl) (Nat.le_of_ble_eq_true rfl) ⟨Nat.le_of_ble_eq_true rfl, Nat.le_of_ble_eq_true rfl⟩ (Nat.le_of_ble_eq_true rfl) rfl rfl (o_X5_kinds ⟨_, e1, ?_⟩)
  show Lx E p e s m below meth c b i 1237 [.int r] M1
  refine Lx.a C 2 dL_law_1237 rfl ?_
  refine Lx.arg C 1 hi (Nat.le_of_ble_eq_true rfl) dL_law_1238 dL_law_1239 dL_law_1240 dL_law_1241 dL_law_1242 ?_
  refine Lx.call (k := 54) (as := [.int (xs (i + 1))]) (rest := [.int r]) C dL_law_1243 cl_L_150 mok_X6_kinds rfl (Nat.le_of_ble_eq_true rfl) (Nat.le_of_ble_eq_true rfl) ⟨Nat.le_of_ble_eq_true rfl, Nat.le_of_ble_eq_true rfl⟩ (Nat.le_of_ble_eq_true rfl) rfl rfl (o_X6_kinds ⟨_, e2, ?_⟩)
  show Lx E p e s m below meth c b i 1246 [.int r, .int r] M2
  refine Lx.eqI (tgt := 1571) C dL_law_1246 (by decide) ?_
  exact cont M2 hR
theorem law_c33 {Rel : Mem → Prop} (hS : StepAll Rel) (C : LOK E p s m meth c b L xs) (hi : i + 5 ≤ L ∧ L ≤ 320) (hM : Rel M) (cont : ∀ M9, Rel M9 → Lx E p e s m below meth c b i 1571 [] M9) : Lx E p e s m below meth c b i 1251 [] M := by
  obtain ⟨r, M1, M2, e1, e2, hR⟩ := hS.2.2.2.2.2.2.2.2.2.2.2.2.2.2.2.2.2.2.2.2.2.2.2.2.2.2.2.2.2.2.2.2.2.1 M (xs (i + 1)) hM
  refine Lx.a C 1 dL_law_1251 rfl ?_
  refine Lx.arg C 1 hi (Nat.le_of_ble_eq_true rfl) dL_law_1252 dL_law_1253 dL_law_1254 dL_law_1255 dL_law_1256 ?_
  refine Lx.call (k := 0) (as := [.int (xs (i + 1))]) (rest := []) C dL_law_1257 cl_L_151 mok_X5_sets rfl (Nat.le_of_ble_eq_true rfl) (Nat.le_of_ble_eq_true rfl) ⟨Nat.le_of_ble_eq_true rfl, Nat.le_of_ble_eq_true rfl⟩ (Nat.le_of_ble_eq_true rfl) rfl rfl (o_X5_sets ⟨_, e1, ?_⟩)
  show Lx E p e s m below meth c b i 1260 [.int r] M1
  refine Lx.a C 2 dL_law_1260 rfl ?_
  refine Lx.arg C 1 hi (Nat.le_of_ble_eq_true rfl) dL_law_1261 dL_law_1262 dL_law_1263 dL_law_1264 dL_law_1265 ?_
  refine Lx.call (k := 54) (as := [.int (xs (i + 1))]) (rest := [.int r]) C dL_law_1266 cl_L_154 mok_X6_sets rfl (Nat.le_of_ble_eq_true rfl) (Nat.le_of_ble_eq_true rfl) ⟨Nat.le_of_ble_eq_true rfl, Nat.le_of_ble_eq_true rfl⟩ (Nat.le_of_ble_eq_true rfl) rfl rfl (o_X6_sets ⟨_, e2, ?_⟩)
  show Lx E p e s m below meth c b i 1269 [.int r, .int r] M2
  refine Lx.eqI (tgt := 1571) C dL_law_1269 (by decide) ?_
  exact cont M2 hR
theorem law_c34 {Rel : Mem → Prop} (hS : StepAll Rel) (C : LOK E p s m meth c b L xs) (hi : i + 5 ≤ L ∧ L ≤ 320) (hM : Rel M) (cont : ∀ M9, Rel M9 → Lx E p e s m below meth c b i 1571 [] M9) : Lx E p e s m below meth c b i 1274 [] M := by
  obtain ⟨r, M1, M2, e1, e2, hR⟩ := hS.2.2.2.2.2.2.2.2.2.2.2.2.2.2.2.2.2.2.2.2.2.2.2.2.2.2.2.2.2.2.2.2.2.2.1 M (xs (i + 1)) (xs (i + 2)) hM
  refine Lx.a C 1 dL_law_1274 rfl ?_
  refine Lx.arg C 1 hi (Nat.le_of_ble_eq_true rfl) dL_law_1275 dL_law_1276 dL_law_1277 dL_law_1278 dL_law_1279 ?_
  refine Lx.arg C 2 hi (Nat.le_of_ble_eq_true rfl) dL_law_1280 dL_law_1281 dL_law_1282 dL_law_1283 dL_law_1284 ?_
  refine Lx.call (k := 0) (as := [.int (xs (i + 1)), .int (xs (i + 2))]) (rest := []) C dL_law_1285 cl_L_155 mok_X5_look rfl (Nat.le_of_ble_eq_true rfl) (Nat.le_of_ble_eq_true rfl) ⟨Nat.le_of_ble_eq_true rfl, Nat.le_of_ble_eq_true rfl⟩ (Nat.le_of_ble_eq_true rfl) rfl rfl (o_X5_look ⟨_, e1, ?_⟩)
  show Lx E p e s m below meth c b i 1288 [.int r] M1
  refine Lx.a C 2 dL_law_1288 rfl ?_
  refine Lx.arg C 1 hi (Nat.le_of_ble_eq_true rfl) dL_law_1289 dL_law_1290 dL_law_1291 dL_law_1292 dL_law_1293 ?_
  refine Lx.arg C 2 hi (Nat.le_of_ble_eq_true rfl) dL_law_1294 dL_law_1295 dL_law_1296 dL_law_1297 dL_law_1298 ?_
  refine Lx.call (k := 54) (as := [.int (xs (i + 1)), .int (xs (i + 2))]) (rest := [.int r]) C dL_law_1299 cl_L_158 mok_X6_look rfl (Nat.le_of_ble_eq_true rfl) (Nat.le_of_ble_eq_true rfl) ⟨Nat.le_of_ble_eq_true rfl, Nat.le_of_ble_eq_true rfl⟩ (Nat.le_of_ble_eq_true rfl) rfl rfl (o_X6_look ⟨_, e2, ?_⟩)
  show Lx E p e s m below meth c b i 1302 [.int r, .int r] M2
  refine Lx.eqI (tgt := 1571) C dL_law_1302 (by decide) ?_
  exact cont M2 hR
theorem law_c35 {Rel : Mem → Prop} (hS : StepAll Rel) (C : LOK E p s m meth c b L xs) (hi : i + 5 ≤ L ∧ L ≤ 320) (hM : Rel M) (cont : ∀ M9, Rel M9 → Lx E p e s m below meth c b i 1571 [] M9) : Lx E p e s m below meth c b i 1307 [] M := by
  obtain ⟨r, M1, M2, e1, e2, hR⟩ := hS.2.2.2.2.2.2.2.2.2.2.2.2.2.2.2.2.2.2.2.2.2.2.2.2.2.2.2.2.2.2.2.2.2.2.2.1 M (xs (i + 1)) (xs (i + 2)) (xs (i + 3)) hM
  refine Lx.a C 1 dL_law_1307 rfl ?_
  refine Lx.arg C 1 hi (Nat.le_of_ble_eq_true rfl) dL_law_1308 dL_law_1309 dL_law_1310 dL_law_1311 dL_law_1312 ?_
  refine Lx.arg C 2 hi (Nat.le_of_ble_eq_true rfl) dL_law_1313 dL_law_1314 dL_law_1315 dL_law_1316 dL_law_1317 ?_
  refine Lx.arg C 3 hi (Nat.le_of_ble_eq_true rfl) dL_law_1318 dL_law_1319 dL_law_1320 dL_law_1321 dL_law_1322 ?_
  refine Lx.call (k := 0) (as := [.int (xs (i + 1)), .int (xs (i + 2)), .int (xs (i + 3))]) (rest := []) C dL_law_1323 cl_L_159 mok_X5_drift rfl (Nat.le_of_ble_eq_true rfl) (Nat.le_of_ble_eq_true rfl) ⟨Nat.le_of_ble_eq_true rfl, Nat.le_of_ble_eq_true rfl⟩ (Nat.le_of_ble_eq_true rfl) rfl rfl (o_X5_drift ⟨_, e1, ?_⟩)
  show Lx E p e s m below meth c b i 1326 [.int r] M1
  refine Lx.a C 2 dL_law_1326 rfl ?_
  refine Lx.arg C 1 hi (Nat.le_of_ble_eq_true rfl) dL_law_1327 dL_law_1328 dL_law_1329 dL_law_1330 dL_law_1331 ?_
  refine Lx.arg C 2 hi (Nat.le_of_ble_eq_true rfl) dL_law_1332 dL_law_1333 dL_law_1334 dL_law_1335 dL_law_1336 ?_
  refine Lx.arg C 3 hi (Nat.le_of_ble_eq_true rfl) dL_law_1337 dL_law_1338 dL_law_1339 dL_law_1340 dL_law_1341 ?_
  refine Lx.call (k := 54) (as := [.int (xs (i + 1)), .int (xs (i + 2)), .int (xs (i + 3))]) (rest := [.int r]) C dL_law_1342 cl_L_162 mok_X6_drift rfl (Nat.le_of_ble_eq_true rfl) (Nat.le_of_ble_eq_true rfl) ⟨Nat.le_of_ble_eq_true rfl, Nat.le_of_ble_eq_true rfl⟩ (Nat.le_of_ble_eq_true rfl) rfl rfl (o_X6_drift ⟨_, e2, ?_⟩)
  show Lx E p e s m below meth c b i 1345 [.int r, .int r] M2
  refine Lx.eqI (tgt := 1571) C dL_law_1345 (by decide) ?_
  exact cont M2 hR
theorem law_c36 {Rel : Mem → Prop} (hS : StepAll Rel) (C : LOK E p s m meth c b L xs) (hi : i + 5 ≤ L ∧ L ≤ 320) (hM : Rel M) (cont : ∀ M9, Rel M9 → Lx E p e s m below meth c b i 1571 [] M9) : Lx E p e s m below meth c b i 1350 [] M := by
  obtain ⟨r, M1, M2, e1, e2, hR⟩ := hS.2.2.2.2.2.2.2.2.2.2.2.2.2.2.2.2.2.2.2.2.2.2.2.2.2.2.2.2.2.2.2.2.2.2.2.2.1 M (xs (i + 1)) hM
  refine Lx.a C 1 dL_law_1350 rfl ?_
  refine Lx.arg C 1 hi (Nat.le_of_ble_eq_true rfl) dL_law_1351 dL_law_1352 dL_law_1353 dL_law_1354 dL_law_1355 ?_
  refine Lx.call (k := 0) (as := [.int (xs (i + 1))]) (rest := []) C dL_law_1356 cl_L_163 mok_X5_keep rfl (Nat.le_of_ble_eq_true rfl) (Nat.le_of_ble_eq_true rfl) ⟨Nat.le_of_ble_eq_true rfl, Nat.le_of_ble_eq_true rfl⟩ (Nat.le_of_ble_eq_true rfl) rfl rfl (o_X5_keep ⟨_, e1, ?_⟩)
  show Lx E p e s m below meth c b i 1359 [.int r] M1
  refine Lx.a C 2 dL_law_1359 rfl ?_
  refine Lx.arg C 1 hi (Nat.le_of_ble_eq_true rfl) dL_law_1360 dL_law_1361 dL_law_1362 dL_law_1363 dL_law_1364 ?_
  refine Lx.call (k := 54) (as := [.int (xs (i + 1))]) (rest := [.int r]) C dL_law_1365 cl_L_166 mok_X6_keep rfl (Nat.le_of_ble_eq_true rfl) (Nat.le_of_ble_eq_true rfl) ⟨Nat.le_of_ble_eq_true rfl, Nat.le_of_ble_eq_true rfl⟩ (Nat.le_of_ble_eq_true rfl) rfl rfl (o_X6_keep ⟨_, e2, ?_⟩)
  show Lx E p e s m below meth c b i 1368 [.int r, .int r] M2
  refine Lx.eqI (tgt := 1571) C dL_law_1368 (by decide) ?_
  exact cont M2 hR
theorem law_c37 {Rel : Mem → Prop} (hS : StepAll Rel) (C : LOK E p s m meth c b L xs) (hi : i + 5 ≤ L ∧ L ≤ 320) (hM : Rel M) (cont : ∀ M9, Rel M9 → Lx E p e s m below meth c b i 1571 [] M9) : Lx E p e s m below meth c b i 1373 [] M := by
  obtain ⟨r, M1, M2, e1, e2, hR⟩ := hS.2.2.2.2.2.2.2.2.2.2.2.2.2.2.2.2.2.2.2.2.2.2.2.2.2.2.2.2.2.2.2.2.2.2.2.2.2.1 M (xs (i + 1)) hM
  refine Lx.a C 1 dL_law_1373 rfl ?_
  refine Lx.arg C 1 hi (Nat.le_of_ble_eq_true rfl) dL_law_1374 dL_law_1375 dL_law_1376 dL_law_1377 dL_law_1378 ?_
  refine Lx.call (k := 0) (as := [.int (xs (i + 1))]) (rest := []) C dL_law_1379 cl_L_167 mok_X5_back rfl (Nat.le_of_ble_eq_true rfl) (Nat.le_of_ble_eq_true rfl) ⟨Nat.le_of_ble_eq_true rfl, Nat.le_of_ble_eq_true rfl⟩ (Nat.le_of_ble_eq_true rfl) rfl rfl (o_X5_back ⟨_, e1, ?_⟩)
  show Lx E p e s m below meth c b i 1382 [.int r] M1
  refine Lx.a C 2 dL_law_1382 rfl ?_
  refine Lx.arg C 1 hi (Nat.le_of_ble_eq_true rfl) dL_law_1383 dL_law_1384 dL_law_1385 dL_law_1386 dL_law_1387 ?_
  refine Lx.call (k := 54) (as := [.int (xs (i + 1))]) (rest := [.int r]) C dL_law_1388 cl_L_170 mok_X6_back rfl (Nat.le_of_ble_eq_true rfl) (Nat.le_of_ble_eq_true rfl) ⟨Nat.le_of_ble_eq_true rfl, Nat.le_of_ble_eq_true rfl⟩ (Nat.le_of_ble_eq_true rfl) rfl rfl (o_X6_back ⟨_, e2, ?_⟩)
  show Lx E p e s m below meth c b i 1391 [.int r, .int r] M2
  refine Lx.eqI (tgt := 1571) C dL_law_1391 (by decide) ?_
  exact cont M2 hR
theorem law_c38 {Rel : Mem → Prop} (hS : StepAll Rel) (C : LOK E p s m meth c b L xs) (hi : i + 5 ≤ L ∧ L ≤ 320) (hM : Rel M) (cont : ∀ M9, Rel M9 → Lx E p e s m below meth c b i 1571 [] M9) : Lx E p e s m below meth c b i 1396 [] M := by
  obtain ⟨r, M1, M2, e1, e2, hR⟩ := hS.2.2.2.2.2.2.2.2.2.2.2.2.2.2.2.2.2.2.2.2.2.2.2.2.2.2.2.2.2.2.2.2.2.2.2.2.2.2.1 M (xs (i + 1)) (xs (i + 2)) (xs (i + 3)) hM
  refine Lx.a C 1 dL_law_1396 rfl ?_
  refine Lx.arg C 1 hi (Nat.le_of_ble_eq_true rfl) dL_law_1397 dL_law_1398 dL_law_1399 dL_law_1400 dL_law_1401 ?_
  refine Lx.arg C 2 hi (Nat.le_of_ble_eq_true rfl) dL_law_1402 dL_law_1403 dL_law_1404 dL_law_1405 dL_law_1406 ?_
  refine Lx.arg C 3 hi (Nat.le_of_ble_eq_true rfl) dL_law_1407 dL_law_1408 dL_law_1409 dL_law_1410 dL_law_1411 ?_
  refine Lx.call (k := 0) (as := [.int (xs (i + 1)), .int (xs (i + 2)), .int (xs (i + 3))]) (rest := []) C dL_law_1412 cl_L_171 mok_X5_sheet rfl (Nat.le_of_ble_eq_true rfl) (Nat.le_of_ble_eq_true rfl) ⟨Nat.le_of_ble_eq_true rfl, Nat.le_of_ble_eq_true rfl⟩ (Nat.le_of_ble_eq_true rfl) rfl rfl (o_X5_sheet ⟨_, e1, ?_⟩)
  show Lx E p e s m below meth c b i 1415 [.int r] M1
  refine Lx.a C 2 dL_law_1415 rfl ?_
  refine Lx.arg C 1 hi (Nat.le_of_ble_eq_true rfl) dL_law_1416 dL_law_1417 dL_law_1418 dL_law_1419 dL_law_1420 ?_
  refine Lx.arg C 2 hi (Nat.le_of_ble_eq_true rfl) dL_law_1421 dL_law_1422 dL_law_1423 dL_law_1424 dL_law_1425 ?_
  refine Lx.arg C 3 hi (Nat.le_of_ble_eq_true rfl) dL_law_1426 dL_law_1427 dL_law_1428 dL_law_1429 dL_law_1430 ?_
  refine Lx.call (k := 54) (as := [.int (xs (i + 1)), .int (xs (i + 2)), .int (xs (i + 3))]) (rest := [.int r]) C dL_law_1431 cl_L_174 mok_X6_sheet rfl (Nat.le_of_ble_eq_true rfl) (Nat.le_of_ble_eq_true rfl) ⟨Nat.le_of_ble_eq_true rfl, Nat.le_of_ble_eq_true rfl⟩ (Nat.le_of_ble_eq_true rfl) rfl rfl (o_X6_sheet ⟨_, e2, ?_⟩)
  show Lx E p e s m below meth c b i 1434 [.int r, .int r] M2
  refine Lx.eqI (tgt := 1571) C dL_law_1434 (by decide) ?_
  exact cont M2 hR
theorem law_c39 {Rel : Mem → Prop} (hS : StepAll Rel) (C : LOK E p s m meth c b L xs) (hi : i + 5 ≤ L ∧ L ≤ 320) (hM : Rel M) (cont : ∀ M9, Rel M9 → Lx E p e s m below meth c b i 1571 [] M9) : Lx E p e s m below meth c b i 1439 [] M := by
  obtain ⟨r, M1, M2, e1, e2, hR⟩ := hS.2.2.2.2.2.2.2.2.2.2.2.2.2.2.2.2.2.2.2.2.2.2.2.2.2.2.2.2.2.2.2.2.2.2.2.2.2.2.2.1 M (xs (i + 1)) (xs (i + 2)) (xs (i + 3)) hM
  refine Lx.a C 1 dL_law_1439 rfl ?_
  refine Lx.arg C 1 hi (Nat.le_of_ble_eq_true rfl) dL_law_1440 dL_law_1441 dL_law_1442 dL_law_1443 dL_law_1444 ?_
  refine Lx.arg C 2 hi (Nat.le_of_ble_eq_true rfl) dL_law_1445 dL_law_1446 dL_law_1447 dL_law_1448 dL_law_1449 ?_
  refine Lx.arg C 3 hi (Nat.le_of_ble_eq_true rfl) dL_law_1450 dL_law_1451 dL_law_1452 dL_law_1453 dL_law_1454 ?_
  refine Lx.call (k := 0) (as := [.int (xs (i + 1)), .int (xs (i + 2)), .int (xs (i + 3))]) (rest := []) C dL_law_1455 cl_L_175 mok_X5_lay rfl (Nat.le_of_ble_eq_true rfl) (Nat.le_of_ble_eq_true rfl) ⟨Nat.le_of_ble_eq_true rfl, Nat.le_of_ble_eq_true rfl⟩ (Nat.le_of_ble_eq_true rfl) rfl rfl (o_X5_lay ⟨_, e1, ?_⟩)
  show Lx E p e s m below meth c b i 1458 [.int r] M1
  refine Lx.a C 2 dL_law_1458 rfl ?_
  refine Lx.arg C 1 hi (Nat.le_of_ble_eq_true rfl) dL_law_1459 dL_law_1460 dL_law_1461 dL_law_1462 dL_law_1463 ?_
  refine Lx.arg C 2 hi (Nat.le_of_ble_eq_true rfl) dL_law_1464 dL_law_1465 dL_law_1466 dL_law_1467 dL_law_1468 ?_
  refine Lx.arg C 3 hi (Nat.le_of_ble_eq_true rfl) dL_law_1469 dL_law_1470 dL_law_1471 dL_law_1472 dL_law_1473 ?_
  refine Lx.call (k := 54) (as := [.int (xs (i + 1)), .int (xs (i + 2)), .int (xs (i + 3))]) (rest := [.int r]) C dL_law_1474 cl_L_178 mok_X6_lay rfl (Nat.le_of_ble_eq_true rfl) (Nat.le_of_ble_eq_true rfl) ⟨Nat.le_of_ble_eq_true rfl, Nat.le_of_ble_eq_true rfl⟩ (Nat.le_of_ble_eq_true rfl) rfl rfl (o_X6_lay ⟨_, e2, ?_⟩)
  show Lx E p e s m below meth c b i 1477 [.int r, .int r] M2
  refine Lx.eqI (tgt := 1571) C dL_law_1477 (by decide) ?_
  exact cont M2 hR
theorem law_c40 {Rel : Mem → Prop} (hS : StepAll Rel) (C : LOK E p s m meth c b L xs) (hi : i + 5 ≤ L ∧ L ≤ 320) (hM : Rel M) (cont : ∀ M9, Rel M9 → Lx E p e s m below meth c b i 1571 [] M9) : Lx E p e s m below meth c b i 1482 [] M := by
  obtain ⟨r, M1, M2, e1, e2, hR⟩ := hS.2.2.2.2.2.2.2.2.2.2.2.2.2.2.2.2.2.2.2.2.2.2.2.2.2.2.2.2.2.2.2.2.2.2.2.2.2.2.2.2.1 M (xs (i + 1)) (xs (i + 2)) (xs (i + 3)) (xs (i + 4)) hM
  refine Lx.a C 1 dL_law_1482 rfl ?_
  refine Lx.arg C 1 hi (Nat.le_of_ble_eq_true rfl) dL_law_1483 dL_law_1484 dL_law_1485 dL_law_1486 dL_law_1487 ?_
  refine Lx.arg C 2 hi (Nat.le_of_ble_eq_true rfl) dL_law_1488 dL_law_1489 dL_law_1490 dL_law_1491 dL_law_1492 ?_
  refine Lx.arg C 3 hi (Nat.le_of_ble_eq_true rfl) dL_law_1493 dL_law_1494 dL_law_1495 dL_law_1496 dL_law_1497 ?_
  refine Lx.arg C 4 hi (Nat.le_of_ble_eq_true rfl) dL_law_1498 dL_law_1499 dL_law_1500 dL_law_1501 dL_law_1502 ?_
  refine Lx.call (k := 0) (as := [.int (xs (i + 1)), .int (xs (i + 2)), .int (xs (i + 3)), .int (xs (i + 4))]) (rest := []) C dL_law_1503 cl_L_179 mok_X5_read rfl (Nat.le_of_ble_eq_true rfl) (Nat.le_of_ble_eq_true rfl) ⟨Nat.le_of_ble_eq_true rfl, Nat.le_of_ble_eq_true rfl⟩ (Nat.le_of_ble_eq_true rfl) rfl rfl (o_X5_read ⟨_, e1, ?_⟩)
  show Lx E p e s m below meth c b i 1506 [.int r] M1
  refine Lx.a C 2 dL_law_1506 rfl ?_
  refine Lx.arg C 1 hi (Nat.le_of_ble_eq_true rfl) dL_law_1507 dL_law_1508 dL_law_1509 dL_law_1510 dL_law_1511 ?_
  refine Lx.arg C 2 hi (Nat.le_of_ble_eq_true rfl) dL_law_1512 dL_law_1513 dL_law_1514 dL_law_1515 dL_law_1516 ?_
  refine Lx.arg C 3 hi (Nat.le_of_ble_eq_true rfl) dL_law_1517 dL_law_1518 dL_law_1519 dL_law_1520 dL_law_1521 ?_
  refine Lx.arg C 4 hi (Nat.le_of_ble_eq_true rfl) dL_law_1522 dL_law_1523 dL_law_1524 dL_law_1525 dL_law_1526 ?_
  refine Lx.call (k := 54) (as := [.int (xs (i + 1)), .int (xs (i + 2)), .int (xs (i + 3)), .int (xs (i + 4))]) (rest := [.int r]) C dL_law_1527 cl_L_183 mok_X6_read rfl (Nat.le_of_ble_eq_true rfl) (Nat.le_of_ble_eq_true rfl) ⟨Nat.le_of_ble_eq_true rfl, Nat.le_of_ble_eq_true rfl⟩ (Nat.le_of_ble_eq_true rfl) rfl rfl (o_X6_read ⟨_, e2, ?_⟩)
  show Lx E p e s m below meth c b i 1530 [.int r, .int r] M2
  refine Lx.eqI (tgt := 1571) C dL_law_1530 (by decide) ?_
  exact cont M2 hR
theorem law_c41 {Rel : Mem → Prop} (hS : StepAll Rel) (C : LOK E p s m meth c b L xs) (hi : i + 5 ≤ L ∧ L ≤ 320) (hM : Rel M) (cont : ∀ M9, Rel M9 → Lx E p e s m below meth c b i 1571 [] M9) : Lx E p e s m below meth c b i 1535 [] M := by
  obtain ⟨r, e1, e2, hR⟩ := hS.2.2.2.2.2.2.2.2.2.2.2.2.2.2.2.2.2.2.2.2.2.2.2.2.2.2.2.2.2.2.2.2.2.2.2.2.2.2.2.2.2.1 M hM
  refine Lx.a C 1 dL_law_1535 rfl ?_
  refine Lx.call (k := 0) (as := []) (rest := []) C dL_law_1536 cl_L_184 mok_X5_torn rfl (Nat.le_of_ble_eq_true rfl) (Nat.le_of_ble_eq_true rfl) ⟨Nat.le_of_ble_eq_true rfl, Nat.le_of_ble_eq_true rfl⟩ (Nat.le_of_ble_eq_true rfl) rfl rfl (o_X5_torn ⟨_, e1, ?_⟩)
  show Lx E p e s m below meth c b i 1539 [.int r] M
  refine Lx.a C 2 dL_law_1539 rfl ?_
  refine Lx.call (k := 54) (as := []) (rest := [.int r]) C dL_law_1540 cl_L_187 mok_X6_torn rfl (Nat.le_of_ble_eq_true rfl) (Nat.le_of_ble_eq_true rfl) ⟨Nat.le_of_ble_eq_true rfl, Nat.le_of_ble_eq_true rfl⟩ (Nat.le_of_ble_eq_true rfl) rfl rfl (o_X6_torn ⟨_, e2, ?_⟩)
  show Lx E p e s m below meth c b i 1543 [.int r, .int r] M
  refine Lx.eqI (tgt := 1571) C dL_law_1543 (by decide) ?_
  exact cont M hR
theorem law_c42 {Rel : Mem → Prop} (hS : StepAll Rel) (C : LOK E p s m meth c b L xs) (hi : i + 5 ≤ L ∧ L ≤ 320) (hM : Rel M) (cont : ∀ M9, Rel M9 → Lx E p e s m below meth c b i 1571 [] M9) : Lx E p e s m below meth c b i 1548 [] M := by
  obtain ⟨r, e1, e2, hR⟩ := hS.2.2.2.2.2.2.2.2.2.2.2.2.2.2.2.2.2.2.2.2.2.2.2.2.2.2.2.2.2.2.2.2.2.2.2.2.2.2.2.2.2.2 M (xs (i + 1)) hM
  refine Lx.a C 1 dL_law_1548 rfl ?_
  refine Lx.arg C 1 hi (Nat.le_of_ble_eq_true rfl) dL_law_1549 dL_law_1550 dL_law_1551 dL_law_1552 dL_law_1553 ?_
  refine Lx.call (k := 0) (as := [.int (xs (i + 1))]) (rest := []) C dL_law_1554 cl_L_188 mok_X5_count rfl (Nat.le_of_ble_eq_true rfl) (Nat.le_of_ble_eq_true rfl) ⟨Nat.le_of_ble_eq_true rfl, Nat.le_of_ble_eq_true rfl⟩ (Nat.le_of_ble_eq_true rfl) rfl rfl (o_X5_count ⟨_, e1, ?_⟩)
  show Lx E p e s m below meth c b i 1557 [.int r] M
  refine Lx.a C 2 dL_law_1557 rfl ?_
  refine Lx.arg C 1 hi (Nat.le_of_ble_eq_true rfl) dL_law_1558 dL_law_1559 dL_law_1560 dL_law_1561 dL_law_1562 ?_
  refine Lx.call (k := 54) (as := [.int (xs (i + 1))]) (rest := [.int r]) C dL_law_1563 cl_L_191 mok_X6_count rfl (Nat.le_of_ble_eq_true rfl) (Nat.le_of_ble_eq_true rfl) ⟨Nat.le_of_ble_eq_true rfl, Nat.le_of_ble_eq_true rfl⟩ (Nat.le_of_ble_eq_true rfl) rfl rfl (o_X6_count ⟨_, e2, ?_⟩)
  show Lx E p e s m below meth c b i 1566 [.int r, .int r] M
  refine Lx.eqI (tgt := 1571) C dL_law_1566 (by decide) ?_
  exact cont M hR
end LXC

theorem law_head {E : GE} {p : Program} {e : Env} {s : State} {m : MethodId} {below : List Frame} {meth : Method} {c : Code} {b L : Nat} {xs : Nat → Int32} {Rel : Mem → Prop} (hS : StepAll Rel) (C : LOK E p s m meth c b L xs) (hL : L ≤ 320) : ∀ (n i : Nat) (M : Mem), i ≤ 325 → L < i + n → Rel M → Lx E p e s m below meth c b i 18 [] M := by
  intro n
  induction n with
  | zero =>
    intro i M hi hn hM ls hl H locs hP hSv
    obtain ⟨⟨hx, hb, hr, hml, hown, hts, hX, hbl, hlk, hgv⟩, hK, hSt, hSc, hB⟩ := id C
    refine lv_iload_n hx hb dL_law_18 rfl (lv_at hl 3 rfl) ?_
    refine lv_aload_n hx hb dL_law_19 rfl (lv_at hl 0 rfl) ?_
    refine va_slen hx hb hX hbl (fun h => absurd h (Nat.not_le.mpr hbl)) hSv dL_law_20 ?_
    refine lv_iconst (v := 5) hx hb dL_law_21 rfl ?_
    refine lv_isub hx hb dL_law_22 ?_
    refine lv_icmp_gt (tgt := 1577) hx hb dL_law_23 (by decide) (fun _ => Lx.ret C ls hl H locs hP hSv) (fun c0 => ?_)
    exfalso
    refine c0 ?_
    rw [Int32.lt_iff_toInt_lt, Int32.toInt_sub]
    have e1 : (Int32.ofNat L).toInt = (L : Int) := nI_toInt (n := L) (by omega)
    rw [e1, nI_toInt (by omega)]
    have e5 : (5 : Int32).toInt = 5 := by decide
    rw [e5, Int.bmod_eq_of_le (by omega) (by omega)]
    omega
  | succ n ih =>
    intro i M hi hn hM
    have cont : i + 5 ≤ L → ∀ M9, Rel M9 → Lx E p e s m below meth c b i 1571 [] M9 := fun h M9 h9 => Lx.next C (ih (i + 5) M9 (by omega) (by omega) h9)
    have body : i + 5 ≤ L → Lx E p e s m below meth c b i 26 [] M := by
      intro hi
      have cont := cont hi
      have hi := And.intro hi hL
      refine Lx.sw C dL_law_26 dL_law_27 dL_law_28 dL_law_29 dL_law_31 (by omega) ?_
      by_cases c0 : xs i &&& 63 = 0
      · exact Lx.swIn C (tgt := 220) dL_law_32 c0 (by decide) (by decide) rfl (by decide) (law_c0 hS C hi hM cont)
      by_cases c1 : xs i &&& 63 = 1
      · exact Lx.swIn C (tgt := 243) dL_law_32 c1 (by decide) (by decide) rfl (by decide) (law_c1 hS C hi hM cont)
      by_cases c2 : xs i &&& 63 = 2
      · exact Lx.swIn C (tgt := 266) dL_law_32 c2 (by decide) (by decide) rfl (by decide) (law_c2 hS C hi hM cont)
      by_cases c3 : xs i &&& 63 = 3
      · exact Lx.swIn C (tgt := 279) dL_law_32 c3 (by decide) (by decide) rfl (by decide) (law_c3 hS C hi hM cont)
      by_cases c4 : xs i &&& 63 = 4
      · exact Lx.swIn C (tgt := 292) dL_law_32 c4 (by decide) (by decide) rfl (by decide) (law_c4 hS C hi hM cont)
      by_cases c5 : xs i &&& 63 = 5
      · exact Lx.swIn C (tgt := 315) dL_law_32 c5 (by decide) (by decide) rfl (by decide) (law_c5 hS C hi hM cont)
      by_cases c6 : xs i &&& 63 = 6
      · exact Lx.swIn C (tgt := 348) dL_law_32 c6 (by decide) (by decide) rfl (by decide) (law_c6 hS C hi hM cont)
      by_cases c7 : xs i &&& 63 = 7
      · exact Lx.swIn C (tgt := 381) dL_law_32 c7 (by decide) (by decide) rfl (by decide) (law_c7 hS C hi hM cont)
      by_cases c8 : xs i &&& 63 = 8
      · exact Lx.swIn C (tgt := 404) dL_law_32 c8 (by decide) (by decide) rfl (by decide) (law_c8 hS C hi hM cont)
      by_cases c9 : xs i &&& 63 = 9
      · exact Lx.swIn C (tgt := 427) dL_law_32 c9 (by decide) (by decide) rfl (by decide) (law_c9 hS C hi hM cont)
      by_cases c10 : xs i &&& 63 = 10
      · exact Lx.swIn C (tgt := 470) dL_law_32 c10 (by decide) (by decide) rfl (by decide) (law_c10 hS C hi hM cont)
      by_cases c11 : xs i &&& 63 = 11
      · exact Lx.swIn C (tgt := 513) dL_law_32 c11 (by decide) (by decide) rfl (by decide) (law_c11 hS C hi hM cont)
      by_cases c12 : xs i &&& 63 = 12
      · exact Lx.swIn C (tgt := 546) dL_law_32 c12 (by decide) (by decide) rfl (by decide) (law_c12 hS C hi hM cont)
      by_cases c13 : xs i &&& 63 = 13
      · exact Lx.swIn C (tgt := 579) dL_law_32 c13 (by decide) (by decide) rfl (by decide) (law_c13 hS C hi hM cont)
      by_cases c14 : xs i &&& 63 = 14
      · exact Lx.swIn C (tgt := 602) dL_law_32 c14 (by decide) (by decide) rfl (by decide) (law_c14 hS C hi hM cont)
      by_cases c15 : xs i &&& 63 = 15
      · exact Lx.swIn C (tgt := 645) dL_law_32 c15 (by decide) (by decide) rfl (by decide) (law_c15 hS C hi hM cont)
      by_cases c16 : xs i &&& 63 = 16
      · exact Lx.swIn C (tgt := 668) dL_law_32 c16 (by decide) (by decide) rfl (by decide) (law_c16 hS C hi hM cont)
      by_cases c17 : xs i &&& 63 = 17
      · exact Lx.swIn C (tgt := 701) dL_law_32 c17 (by decide) (by decide) rfl (by decide) (law_c17 hS C hi hM cont)
      by_cases c18 : xs i &&& 63 = 18
      · exact Lx.swIn C (tgt := 744) dL_law_32 c18 (by decide) (by decide) rfl (by decide) (law_c18 hS C hi hM cont)
      by_cases c19 : xs i &&& 63 = 19
      · exact Lx.swIn C (tgt := 777) dL_law_32 c19 (by decide) (by decide) rfl (by decide) (law_c19 hS C hi hM cont)
      by_cases c20 : xs i &&& 63 = 20
      · exact Lx.swIn C (tgt := 800) dL_law_32 c20 (by decide) (by decide) rfl (by decide) (law_c20 hS C hi hM cont)
      by_cases c21 : xs i &&& 63 = 21
      · exact Lx.swIn C (tgt := 833) dL_law_32 c21 (by decide) (by decide) rfl (by decide) (law_c21 hS C hi hM cont)
      by_cases c22 : xs i &&& 63 = 22
      · exact Lx.swIn C (tgt := 866) dL_law_32 c22 (by decide) (by decide) rfl (by decide) (law_c22 hS C hi hM cont)
      by_cases c23 : xs i &&& 63 = 23
      · exact Lx.swIn C (tgt := 899) dL_law_32 c23 (by decide) (by decide) rfl (by decide) (law_c23 hS C hi hM cont)
      by_cases c24 : xs i &&& 63 = 24
      · exact Lx.swIn C (tgt := 932) dL_law_32 c24 (by decide) (by decide) rfl (by decide) (law_c24 hS C hi hM cont)
      by_cases c25 : xs i &&& 63 = 25
      · exact Lx.swIn C (tgt := 965) dL_law_32 c25 (by decide) (by decide) rfl (by decide) (law_c25 hS C hi hM cont)
      by_cases c26 : xs i &&& 63 = 26
      · exact Lx.swIn C (tgt := 998) dL_law_32 c26 (by decide) (by decide) rfl (by decide) (law_c26 hS C hi hM cont)
      by_cases c27 : xs i &&& 63 = 27
      · exact Lx.swIn C (tgt := 1021) dL_law_32 c27 (by decide) (by decide) rfl (by decide) (law_c27 hS C hi hM cont)
      by_cases c28 : xs i &&& 63 = 28
      · exact Lx.swIn C (tgt := 1064) dL_law_32 c28 (by decide) (by decide) rfl (by decide) (law_c28 hS C hi hM cont)
      by_cases c29 : xs i &&& 63 = 29
      · exact Lx.swIn C (tgt := 1118) dL_law_32 c29 (by decide) (by decide) rfl (by decide) (law_c29 hS C hi hM cont)
      by_cases c30 : xs i &&& 63 = 30
      · exact Lx.swIn C (tgt := 1162) dL_law_32 c30 (by decide) (by decide) rfl (by decide) (law_c30 hS C hi hM cont)
      by_cases c31 : xs i &&& 63 = 31
      · exact Lx.swIn C (tgt := 1205) dL_law_32 c31 (by decide) (by decide) rfl (by decide) (law_c31 hS C hi hM cont)
      by_cases c32 : xs i &&& 63 = 32
      · exact Lx.swIn C (tgt := 1228) dL_law_32 c32 (by decide) (by decide) rfl (by decide) (law_c32 hS C hi hM cont)
      by_cases c33 : xs i &&& 63 = 33
      · exact Lx.swIn C (tgt := 1251) dL_law_32 c33 (by decide) (by decide) rfl (by decide) (law_c33 hS C hi hM cont)
      by_cases c34 : xs i &&& 63 = 34
      · exact Lx.swIn C (tgt := 1274) dL_law_32 c34 (by decide) (by decide) rfl (by decide) (law_c34 hS C hi hM cont)
      by_cases c35 : xs i &&& 63 = 35
      · exact Lx.swIn C (tgt := 1307) dL_law_32 c35 (by decide) (by decide) rfl (by decide) (law_c35 hS C hi hM cont)
      by_cases c36 : xs i &&& 63 = 36
      · exact Lx.swIn C (tgt := 1350) dL_law_32 c36 (by decide) (by decide) rfl (by decide) (law_c36 hS C hi hM cont)
      by_cases c37 : xs i &&& 63 = 37
      · exact Lx.swIn C (tgt := 1373) dL_law_32 c37 (by decide) (by decide) rfl (by decide) (law_c37 hS C hi hM cont)
      by_cases c38 : xs i &&& 63 = 38
      · exact Lx.swIn C (tgt := 1396) dL_law_32 c38 (by decide) (by decide) rfl (by decide) (law_c38 hS C hi hM cont)
      by_cases c39 : xs i &&& 63 = 39
      · exact Lx.swIn C (tgt := 1439) dL_law_32 c39 (by decide) (by decide) rfl (by decide) (law_c39 hS C hi hM cont)
      by_cases c40 : xs i &&& 63 = 40
      · exact Lx.swIn C (tgt := 1482) dL_law_32 c40 (by decide) (by decide) rfl (by decide) (law_c40 hS C hi hM cont)
      by_cases c41 : xs i &&& 63 = 41
      · exact Lx.swIn C (tgt := 1535) dL_law_32 c41 (by decide) (by decide) rfl (by decide) (law_c41 hS C hi hM cont)
      by_cases c42 : xs i &&& 63 = 42
      · exact Lx.swIn C (tgt := 1548) dL_law_32 c42 (by decide) (by decide) rfl (by decide) (law_c42 hS C hi hM cont)
      exact Lx.swOut C (tgt := 1571) dL_law_32 (by have q0 : ¬ (xs i &&& 63).toInt = 0 := fun q => c0 (Int32.toInt_inj.mp q); have q1 : ¬ (xs i &&& 63).toInt = 1 := fun q => c1 (Int32.toInt_inj.mp q); have q2 : ¬ (xs i &&& 63).toInt = 2 := fun q => c2 (Int32.toInt_inj.mp q); have q3 : ¬ (xs i &&& 63).toInt = 3 := fun q => c3 (Int32.toInt_inj.mp q); have q4 : ¬ (xs i &&& 63).toInt = 4 := fun q => c4 (Int32.toInt_inj.mp q); have q5 : ¬ (xs i &&& 63).toInt = 5 := fun q => c5 (Int32.toInt_inj.mp q); have q6 : ¬ (xs i &&& 63).toInt = 6 := fun q => c6 (Int32.toInt_inj.mp q); have q7 : ¬ (xs i &&& 63).toInt = 7 := fun q => c7 (Int32.toInt_inj.mp q); have q8 : ¬ (xs i &&& 63).toInt = 8 := fun q => c8 (Int32.toInt_inj.mp q); have q9 : ¬ (xs i &&& 63).toInt = 9 := fun q => c9 (Int32.toInt_inj.mp q); have q10 : ¬ (xs i &&& 63).toInt = 10 := fun q => c10 (Int32.toInt_inj.mp q); have q11 : ¬ (xs i &&& 63).toInt = 11 := fun q => c11 (Int32.toInt_inj.mp q); have q12 : ¬ (xs i &&& 63).toInt = 12 := fun q => c12 (Int32.toInt_inj.mp q); have q13 : ¬ (xs i &&& 63).toInt = 13 := fun q => c13 (Int32.toInt_inj.mp q); have q14 : ¬ (xs i &&& 63).toInt = 14 := fun q => c14 (Int32.toInt_inj.mp q); have q15 : ¬ (xs i &&& 63).toInt = 15 := fun q => c15 (Int32.toInt_inj.mp q); have q16 : ¬ (xs i &&& 63).toInt = 16 := fun q => c16 (Int32.toInt_inj.mp q); have q17 : ¬ (xs i &&& 63).toInt = 17 := fun q => c17 (Int32.toInt_inj.mp q); have q18 : ¬ (xs i &&& 63).toInt = 18 := fun q => c18 (Int32.toInt_inj.mp q); have q19 : ¬ (xs i &&& 63).toInt = 19 := fun q => c19 (Int32.toInt_inj.mp q); have q20 : ¬ (xs i &&& 63).toInt = 20 := fun q => c20 (Int32.toInt_inj.mp q); have q21 : ¬ (xs i &&& 63).toInt = 21 := fun q => c21 (Int32.toInt_inj.mp q); have q22 : ¬ (xs i &&& 63).toInt = 22 := fun q => c22 (Int32.toInt_inj.mp q); have q23 : ¬ (xs i &&& 63).toInt = 23 := fun q => c23 (Int32.toInt_inj.mp q); have q24 : ¬ (xs i &&& 63).toInt = 24 := fun q => c24 (Int32.toInt_inj.mp q); have q25 : ¬ (xs i &&& 63).toInt = 25 := fun q => c25 (Int32.toInt_inj.mp q); have q26 : ¬ (xs i &&& 63).toInt = 26 := fun q => c26 (Int32.toInt_inj.mp q); have q27 : ¬ (xs i &&& 63).toInt = 27 := fun q => c27 (Int32.toInt_inj.mp q); have q28 : ¬ (xs i &&& 63).toInt = 28 := fun q => c28 (Int32.toInt_inj.mp q); have q29 : ¬ (xs i &&& 63).toInt = 29 := fun q => c29 (Int32.toInt_inj.mp q); have q30 : ¬ (xs i &&& 63).toInt = 30 := fun q => c30 (Int32.toInt_inj.mp q); have q31 : ¬ (xs i &&& 63).toInt = 31 := fun q => c31 (Int32.toInt_inj.mp q); have q32 : ¬ (xs i &&& 63).toInt = 32 := fun q => c32 (Int32.toInt_inj.mp q); have q33 : ¬ (xs i &&& 63).toInt = 33 := fun q => c33 (Int32.toInt_inj.mp q); have q34 : ¬ (xs i &&& 63).toInt = 34 := fun q => c34 (Int32.toInt_inj.mp q); have q35 : ¬ (xs i &&& 63).toInt = 35 := fun q => c35 (Int32.toInt_inj.mp q); have q36 : ¬ (xs i &&& 63).toInt = 36 := fun q => c36 (Int32.toInt_inj.mp q); have q37 : ¬ (xs i &&& 63).toInt = 37 := fun q => c37 (Int32.toInt_inj.mp q); have q38 : ¬ (xs i &&& 63).toInt = 38 := fun q => c38 (Int32.toInt_inj.mp q); have q39 : ¬ (xs i &&& 63).toInt = 39 := fun q => c39 (Int32.toInt_inj.mp q); have q40 : ¬ (xs i &&& 63).toInt = 40 := fun q => c40 (Int32.toInt_inj.mp q); have q41 : ¬ (xs i &&& 63).toInt = 41 := fun q => c41 (Int32.toInt_inj.mp q); have q42 : ¬ (xs i &&& 63).toInt = 42 := fun q => c42 (Int32.toInt_inj.mp q); omega) (by decide) (cont M hM)
    intro ls hl H locs hP hSv
    obtain ⟨⟨hx, hb, hr, hml, hown, hts, hX, hbl, hlk, hgv⟩, hK, hSt, hSc, hB⟩ := id C
    refine lv_iload_n hx hb dL_law_18 rfl (lv_at hl 3 rfl) ?_
    refine lv_aload_n hx hb dL_law_19 rfl (lv_at hl 0 rfl) ?_
    refine va_slen hx hb hX hbl (fun h => absurd h (Nat.not_le.mpr hbl)) hSv dL_law_20 ?_
    refine lv_iconst (v := 5) hx hb dL_law_21 rfl ?_
    refine lv_isub hx hb dL_law_22 ?_
    refine lv_icmp_gt (tgt := 1577) hx hb dL_law_23 (by decide) (fun _ => Lx.ret C ls hl H locs hP hSv) (fun c0 => ?_)
    refine body ?_ ls hl H locs hP hSv
    rw [Int32.lt_iff_toInt_lt, Int32.toInt_sub] at c0
    have e1 : (Int32.ofNat L).toInt = (L : Int) := nI_toInt (n := L) (by omega)
    rw [e1, nI_toInt (by omega)] at c0
    have e5 : (5 : Int32).toInt = 5 := by decide
    rw [e5, Int.bmod_eq_of_le (by omega) (by omega)] at c0
    omega
theorem nestF_in : ∀ q ∈ nestF, Cond.fieldLinkNest q.1 q.2.1 q.2.2.1 q.2.2.2.1 q.2.2.2.2 "FlotsamWill" ∈ tables_1 := List.forall_mem_cons.mpr ⟨q1_in _ (List.mem_of_getElem? (i := 37) rfl), List.forall_mem_cons.mpr ⟨q1_in _ (List.mem_of_getElem? (i := 39) rfl), List.forall_mem_cons.mpr ⟨q1_in _ (List.mem_of_getElem? (i := 42) rfl), List.forall_mem_cons.mpr ⟨q1_in _ (List.mem_of_getElem? (i := 44) rfl), List.forall_mem_cons.mpr ⟨q1_in _ (List.mem_of_getElem? (i := 72) rfl), List.forall_mem_cons.mpr ⟨q1_in _ (List.mem_of_getElem? (i := 73) rfl), List.forall_mem_cons.mpr ⟨q1_in _ (List.mem_of_getElem? (i := 74) rfl), List.forall_mem_cons.mpr ⟨q1_in _ (List.mem_of_getElem? (i := 76) rfl), List.forall_mem_cons.mpr ⟨q1_in _ (List.mem_of_getElem? (i := 77) rfl), List.forall_mem_cons.mpr ⟨q1_in _ (List.mem_of_getElem? (i := 78) rfl), List.forall_mem_cons.mpr ⟨q1_in _ (List.mem_of_getElem? (i := 80) rfl), List.forall_mem_cons.mpr ⟨q1_in _ (List.mem_of_getElem? (i := 81) rfl), List.forall_mem_cons.mpr ⟨q1_in _ (List.mem_of_getElem? (i := 82) rfl), List.forall_mem_cons.mpr ⟨q1_in _ (List.mem_of_getElem? (i := 84) rfl), List.forall_mem_cons.mpr ⟨q1_in _ (List.mem_of_getElem? (i := 85) rfl), List.forall_mem_cons.mpr ⟨q1_in _ (List.mem_of_getElem? (i := 86) rfl), List.forall_mem_cons.mpr ⟨q1_in _ (List.mem_of_getElem? (i := 88) rfl), List.forall_mem_cons.mpr ⟨q1_in _ (List.mem_of_getElem? (i := 89) rfl), List.forall_mem_cons.mpr ⟨q1_in _ (List.mem_of_getElem? (i := 106) rfl), List.forall_mem_cons.mpr ⟨q1_in _ (List.mem_of_getElem? (i := 108) rfl), List.forall_mem_cons.mpr ⟨q1_in _ (List.mem_of_getElem? (i := 110) rfl), List.forall_mem_cons.mpr ⟨q1_in _ (List.mem_of_getElem? (i := 111) rfl), List.forall_mem_cons.mpr ⟨q1_in _ (List.mem_of_getElem? (i := 142) rfl), List.forall_mem_cons.mpr ⟨q1_in _ (List.mem_of_getElem? (i := 144) rfl), List.forall_mem_cons.mpr ⟨q1_in _ (List.mem_of_getElem? (i := 146) rfl), List.forall_mem_cons.mpr ⟨q1_in _ (List.mem_of_getElem? (i := 163) rfl), List.forall_mem_cons.mpr ⟨q1_in _ (List.mem_of_getElem? (i := 166) rfl), List.forall_mem_cons.mpr ⟨q1_in _ (List.mem_of_getElem? (i := 168) rfl), List.forall_mem_cons.mpr ⟨q1_in _ (List.mem_of_getElem? (i := 170) rfl), List.forall_mem_cons.mpr ⟨q2_in _ (List.mem_of_getElem? (i := 104) rfl), List.forall_mem_cons.mpr ⟨q2_in _ (List.mem_of_getElem? (i := 106) rfl), List.forall_mem_cons.mpr ⟨q2_in _ (List.mem_of_getElem? (i := 129) rfl), List.forall_mem_cons.mpr ⟨q3_in _ (List.mem_of_getElem? (i := 31) rfl), List.forall_mem_cons.mpr ⟨q3_in _ (List.mem_of_getElem? (i := 32) rfl), List.forall_mem_cons.mpr ⟨q3_in _ (List.mem_of_getElem? (i := 38) rfl), List.forall_mem_cons.mpr ⟨q3_in _ (List.mem_of_getElem? (i := 40) rfl), fun _ h => absurd h List.not_mem_nil⟩⟩⟩⟩⟩⟩⟩⟩⟩⟩⟩⟩⟩⟩⟩⟩⟩⟩⟩⟩⟩⟩⟩⟩⟩⟩⟩⟩⟩⟩⟩⟩⟩⟩⟩⟩
theorem nestM_in : ∀ q ∈ nestM, Cond.methodLinkNest q.1 q.2.1 q.2.2 "FlotsamWill" ∈ tables_1 := List.forall_mem_cons.mpr ⟨q1_in _ (List.mem_of_getElem? (i := 25) rfl), List.forall_mem_cons.mpr ⟨q1_in _ (List.mem_of_getElem? (i := 31) rfl), List.forall_mem_cons.mpr ⟨q1_in _ (List.mem_of_getElem? (i := 61) rfl), List.forall_mem_cons.mpr ⟨q1_in _ (List.mem_of_getElem? (i := 132) rfl), List.forall_mem_cons.mpr ⟨q1_in _ (List.mem_of_getElem? (i := 137) rfl), List.forall_mem_cons.mpr ⟨q1_in _ (List.mem_of_getElem? (i := 157) rfl), List.forall_mem_cons.mpr ⟨q2_in _ (List.mem_of_getElem? (i := 3) rfl), List.forall_mem_cons.mpr ⟨q2_in _ (List.mem_of_getElem? (i := 15) rfl), List.forall_mem_cons.mpr ⟨q2_in _ (List.mem_of_getElem? (i := 19) rfl), List.forall_mem_cons.mpr ⟨q2_in _ (List.mem_of_getElem? (i := 20) rfl), List.forall_mem_cons.mpr ⟨q2_in _ (List.mem_of_getElem? (i := 24) rfl), List.forall_mem_cons.mpr ⟨q2_in _ (List.mem_of_getElem? (i := 40) rfl), List.forall_mem_cons.mpr ⟨q2_in _ (List.mem_of_getElem? (i := 100) rfl), List.forall_mem_cons.mpr ⟨q2_in _ (List.mem_of_getElem? (i := 116) rfl), List.forall_mem_cons.mpr ⟨q2_in _ (List.mem_of_getElem? (i := 125) rfl), List.forall_mem_cons.mpr ⟨q2_in _ (List.mem_of_getElem? (i := 131) rfl), List.forall_mem_cons.mpr ⟨q2_in _ (List.mem_of_getElem? (i := 150) rfl), List.forall_mem_cons.mpr ⟨q2_in _ (List.mem_of_getElem? (i := 166) rfl), List.forall_mem_cons.mpr ⟨q2_in _ (List.mem_of_getElem? (i := 182) rfl), List.forall_mem_cons.mpr ⟨q2_in _ (List.mem_of_getElem? (i := 188) rfl), List.forall_mem_cons.mpr ⟨q2_in _ (List.mem_of_getElem? (i := 193) rfl), List.forall_mem_cons.mpr ⟨q2_in _ (List.mem_of_getElem? (i := 197) rfl), List.forall_mem_cons.mpr ⟨q2_in _ (List.mem_of_getElem? (i := 215) rfl), List.forall_mem_cons.mpr ⟨q2_in _ (List.mem_of_getElem? (i := 224) rfl), List.forall_mem_cons.mpr ⟨q3_in _ (List.mem_of_getElem? (i := 5) rfl), List.forall_mem_cons.mpr ⟨q3_in _ (List.mem_of_getElem? (i := 18) rfl), List.forall_mem_cons.mpr ⟨q3_in _ (List.mem_of_getElem? (i := 26) rfl), List.forall_mem_cons.mpr ⟨q3_in _ (List.mem_of_getElem? (i := 34) rfl), List.forall_mem_cons.mpr ⟨q3_in _ (List.mem_of_getElem? (i := 51) rfl), List.forall_mem_cons.mpr ⟨q3_in _ (List.mem_of_getElem? (i := 55) rfl), List.forall_mem_cons.mpr ⟨q3_in _ (List.mem_of_getElem? (i := 63) rfl), List.forall_mem_cons.mpr ⟨q3_in _ (List.mem_of_getElem? (i := 71) rfl), List.forall_mem_cons.mpr ⟨q3_in _ (List.mem_of_getElem? (i := 76) rfl), List.forall_mem_cons.mpr ⟨q3_in _ (List.mem_of_getElem? (i := 80) rfl), List.forall_mem_cons.mpr ⟨q3_in _ (List.mem_of_getElem? (i := 88) rfl), List.forall_mem_cons.mpr ⟨q3_in _ (List.mem_of_getElem? (i := 92) rfl), List.forall_mem_cons.mpr ⟨q3_in _ (List.mem_of_getElem? (i := 101) rfl), List.forall_mem_cons.mpr ⟨q3_in _ (List.mem_of_getElem? (i := 117) rfl), List.forall_mem_cons.mpr ⟨q3_in _ (List.mem_of_getElem? (i := 121) rfl), List.forall_mem_cons.mpr ⟨q3_in _ (List.mem_of_getElem? (i := 193) rfl), List.forall_mem_cons.mpr ⟨q3_in _ (List.mem_of_getElem? (i := 230) rfl), List.forall_mem_cons.mpr ⟨q3_in _ (List.mem_of_getElem? (i := 238) rfl), List.forall_mem_cons.mpr ⟨q4_in _ (List.mem_of_getElem? (i := 2) rfl), List.forall_mem_cons.mpr ⟨q4_in _ (List.mem_of_getElem? (i := 18) rfl), List.forall_mem_cons.mpr ⟨q4_in _ (List.mem_of_getElem? (i := 23) rfl), fun _ h => absurd h List.not_mem_nil⟩⟩⟩⟩⟩⟩⟩⟩⟩⟩⟩⟩⟩⟩⟩⟩⟩⟩⟩⟩⟩⟩⟩⟩⟩⟩⟩⟩⟩⟩⟩⟩⟩⟩⟩⟩⟩⟩⟩⟩⟩⟩⟩⟩⟩
theorem ni_X5 : Cond.instantiable RX5 17 ∈ gwL := gw_of (q1_in _ (List.mem_of_getElem? (i := 16) rfl)) rfl
theorem nn_X5 : Cond.initialized RX5 ∈ gwL := gw_of (q1_in _ (List.mem_of_getElem? (i := 1) rfl)) rfl
theorem nk_L_X5 : Cond.classLink R_law 7 RX5 ∈ gwL := gw_of (q1_in _ (List.mem_of_getElem? (i := 15) rfl)) rfl
theorem ki_L_X5 : Cond.methodLink R_law 9 yX5_init ∈ gwL := gw_of (q1_in _ (List.mem_of_getElem? (i := 17) rfl)) rfl
theorem ni_X6 : Cond.instantiable RX6 36 ∈ gwL := gw_of (q4_in _ (List.mem_of_getElem? (i := 28) rfl)) rfl
theorem nn_X6 : Cond.initialized RX6 ∈ gwL := gw_of (q1_in _ (List.mem_of_getElem? (i := 7) rfl)) rfl
theorem nk_L_X6 : Cond.classLink R_law 10 RX6 ∈ gwL := gw_of (q4_in _ (List.mem_of_getElem? (i := 27) rfl)) rfl
theorem ki_L_X6 : Cond.methodLink R_law 12 yX6_init ∈ gwL := gw_of (q4_in _ (List.mem_of_getElem? (i := 29) rfl)) rfl
theorem stT_in : ∀ i, i < 6 → Cond.laysStatic RX5 (tbN i) "[I" ∈ lw_tbl := fun i hi => match i, hi with
  | 0, _ => List.mem_append_right _ (q2_in _ (List.mem_of_getElem? (i := 105) rfl))
  | 1, _ => List.mem_append_right _ (q2_in _ (List.mem_of_getElem? (i := 107) rfl))
  | 2, _ => List.mem_append_right _ (q2_in _ (List.mem_of_getElem? (i := 130) rfl))
  | 3, _ => List.mem_append_right _ (q2_in _ (List.mem_of_getElem? (i := 187) rfl))
  | 4, _ => List.mem_append_right _ (q3_in _ (List.mem_of_getElem? (i := 33) rfl))
  | 5, _ => List.mem_append_right _ (q3_in _ (List.mem_of_getElem? (i := 39) rfl))
  | i + 6, hi => absurd hi (by omega)
theorem st_CS : Cond.laysStatic "java/lang/String" "COMPACT_STRINGS" "Z" ∈ lw_tbl := List.mem_append_right _ (q2_in _ (List.mem_of_getElem? (i := 53) rfl))
theorem st_FM : Cond.laysStatic "jdk/internal/util/Preconditions" "SIOOBE_FORMATTER" "Ljava/util/function/BiFunction;" ∈ lw_tbl := List.mem_append_right _ (q2_in _ (List.mem_of_getElem? (i := 69) rfl))
theorem in_String : Cond.initialized "java/lang/String" ∈ lw_tbl := List.mem_append_right _ (q1_in _ (List.mem_of_getElem? (i := 8) rfl))
theorem in_Prec : Cond.initialized "jdk/internal/util/Preconditions" ∈ lw_tbl := List.mem_append_right _ (q1_in _ (List.mem_of_getElem? (i := 10) rfl))
theorem in_X5 : Cond.initialized RX5 ∈ lw_tbl := List.mem_append_right _ (q1_in _ (List.mem_of_getElem? (i := 1) rfl))
theorem ao_2 : Cond.arrayOver (.object RX2) ∈ lw_tbl := List.mem_append_right _ (q1_in _ (List.mem_of_getElem? (i := 133) rfl))
theorem ao_3 : Cond.arrayOver (.object RX3) ∈ lw_tbl := List.mem_append_right _ (q1_in _ (List.mem_of_getElem? (i := 135) rfl))
theorem sr_in : ∀ i, i < 8 → Cond.stringRef RX1 (tx_ix i) (tx_s i) ∈ lw_tbl := fun i hi => match i, hi with
  | 0, _ => List.mem_append_right _ (q2_in _ (List.mem_of_getElem? (i := 39) rfl))
  | 1, _ => List.mem_append_right _ (q2_in _ (List.mem_of_getElem? (i := 117) rfl))
  | 2, _ => List.mem_append_right _ (q2_in _ (List.mem_of_getElem? (i := 118) rfl))
  | 3, _ => List.mem_append_right _ (q2_in _ (List.mem_of_getElem? (i := 119) rfl))
  | 4, _ => List.mem_append_right _ (q2_in _ (List.mem_of_getElem? (i := 120) rfl))
  | 5, _ => List.mem_append_right _ (q2_in _ (List.mem_of_getElem? (i := 135) rfl))
  | 6, _ => List.mem_append_right _ (q2_in _ (List.mem_of_getElem? (i := 140) rfl))
  | 7, _ => List.mem_append_right _ (q2_in _ (List.mem_of_getElem? (i := 145) rfl))
  | i + 8, hi => absurd hi (by omega)
