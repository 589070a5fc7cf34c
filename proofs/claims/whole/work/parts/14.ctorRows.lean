/-! THE CONSTRUCTORS: the same machine over a graph that grows; the cells stand one behind another from B on -/
abbrev RM : Type := Nat → Nat → Option Nat
def upO (R : RM) (k j : Nat) (v : Option Nat) : RM := fun k' => if k' = k then (fun j' => if j' = j then v else R k j') else R k'
def upOR (R : RM) (k : Nat) (f : Nat → Option Nat) : RM := fun k' => if k' = k then f else R k'
def fvR (E : GE) (R : RM) (k c : Nat) (f : Nat → Int32) (j : Nat) : Value := if isRefF c j = true then va_rf ((R k j).map (ad E)) else .int (f j)
def entR (E : GE) (R : RM) (k : Nat) (f : Nat → Int32) : va_E :=
  if kd k < 7 then .inr (kd k, (List.range (nf (kd k))).map (fvR E R k (kd k) f))
  else if kd k < 9 then .inl (ge_cy E (kd k - 7), ln k, .inl f)
  else .inl (ge_cy E (kd k - 7), ln k, .inr (.inr (.inr (.inr (fun j => (R k j).map (ad E))))))
def wlR (E : GE) (R : RM) (n : Nat) (M : Mem) : va_W := (List.range n).map fun k => (ad E k, entR E R k (M k))
def AC (B : Nat) : Nat → Prop := fun q => B ≤ q
def Stc (U : State) : Prop := va_AO RX2 U ∧ va_AO RX3 U ∧ (∀ q ∈ nestF, va_Nw (.fieldLinkNest q.1 q.2.1 q.2.2.1 q.2.2.2.1 q.2.2.2.2 "FlotsamWill") U) ∧ (∀ q ∈ nestM, va_Nw (.methodLinkNest q.1 q.2.1 q.2.2 "FlotsamWill") U)
theorem Stc.warm {s U : State} (hW : s.WarmedH U.vm) (h : Stc s) : Stc U := ⟨va_AO.moved hW.alike h.1, va_AO.moved hW.alike h.2.1, fun q hq => va_Nw.warmF hW (h.2.2.1 q hq), fun q hq => va_Nw.warmM hW (h.2.2.2 q hq)⟩
theorem Stc.same {s U : State} (hv : U.vm = s.vm) (h : Stc s) : Stc U := by
  have ha : s.vm.Alike U.vm := by rw [hv]; exact Vm.Alike.refl s.vm
  exact ⟨va_AO.moved ha h.1, va_AO.moved ha h.2.1, fun q hq => va_Nw.same rfl hv.symm (h.2.2.1 q hq), fun q hq => va_Nw.same rfl hv.symm (h.2.2.2 q hq)⟩
theorem wlR_at (E : GE) (R : RM) (M : Mem) {n k : Nat} (h : k < n) : (wlR E R n M)[k]? = some (ad E k, entR E R k (M k)) := by
  simp [wlR, List.getElem?_map, List.getElem?_range h]
theorem wlR_none (E : GE) (R : RM) (M : Mem) {n k : Nat} (h : ¬ k < n) : (wlR E R n M)[k]? = none := List.getElem?_eq_none (by simp [wlR]; omega)
theorem entR_ne {E : GE} {R : RM} {k i : Nat} {f : Nat → Int32} {r : Nat → Option Nat} (h : i ≠ k) : entR E (upOR R k r) i f = entR E R i f := by
  have e1 : ∀ c, fvR E (upOR R k r) i c f = fvR E R i c f := fun c => by funext j; simp [fvR, upOR, h]
  have e2 : upOR R k r i = R i := by simp [upOR, h]
  simp only [entR, e1, e2]
theorem wlR_set (E : GE) (R : RM) (M : Mem) {n k : Nat} (h : k < n) (f : Nat → Int32) (r : Nat → Option Nat) : (wlR E R n M).set k (ad E k, entR E (upOR R k r) k f) = wlR E (upOR R k r) n (upR M k f) := by
  apply List.ext_getElem?
  intro i
  by_cases hi : i < n
  · rw [wlR_at E _ _ hi]
    by_cases hik : i = k
    · subst hik
      rw [List.getElem?_set_self (by simp [wlR]; exact hi), upR_same]
    · rw [List.getElem?_set_ne (Ne.symm hik), wlR_at E R M hi, upR_ne hik, entR_ne hik]
  · rw [wlR_none E _ _ hi, List.getElem?_eq_none (by simp [wlR]; omega)]
theorem wlR_push (E : GE) (R : RM) (M : Mem) (n : Nat) (f : Nat → Int32) (r : Nat → Option Nat) : wlR E R n M ++ [(ad E n, entR E (upOR R n r) n f)] = wlR E (upOR R n r) (n + 1) (upR M n f) := by
  apply List.ext_getElem?
  intro i
  by_cases hi : i < n
  · rw [List.getElem?_append_left (by simp [wlR]; exact hi), wlR_at E R M hi, wlR_at E _ _ (Nat.lt_succ_of_lt hi), upR_ne (Nat.ne_of_lt hi), entR_ne (Nat.ne_of_lt hi)]
  · by_cases he : i = n
    · subst he
      rw [List.getElem?_append_right (by simp [wlR]), wlR_at E _ _ (Nat.lt_succ_self i), upR_same]
      simp [wlR]
    · rw [wlR_none E _ _ (by omega), List.getElem?_eq_none (by simp [wlR]; omega)]
theorem wlR_D {E : GE} {B n : Nat} {R : RM} {M : Mem} (hB : ∀ k, ad E k = B + k) : va_D (AC B) (wlR E R n M) := by
  have key : ∀ (i : Nat) (p : Nat × va_E), (wlR E R n M)[i]? = some p → p.1 = B + i := by
    intro i p hp
    by_cases hi : i < n
    · rw [wlR_at E R M hi] at hp
      cases hp
      exact hB i
    · rw [wlR_none E R M hi] at hp
      cases hp
  refine ⟨fun i j p q hi hj hpq => ?_, fun k q hk => ?_⟩
  · have e1 := key i p hi
    have e2 := key j q hj
    omega
  · have e1 := key k q hk
    show B ≤ q.1
    omega
theorem upOR_self (R : RM) (k : Nat) : upOR R k (R k) = R := by
  funext i
  by_cases h : i = k
  · subst h; simp [upOR]
  · simp [upOR, h]
theorem upO_upOR (R : RM) (k j : Nat) (v : Option Nat) : upO R k j v = upOR R k (fun j' => if j' = j then v else R k j') := rfl
theorem entR_obj {E : GE} {R : RM} {k c n : Nat} {C : String} {T : u_T} (f : Nat → Int32) (hk : kd k = c) (h : vwCl[c]? = some (C, T, n)) : entR E R k f = .inr (c, (List.range n).map (fvR E R k c f)) := by
  unfold entR
  rw [hk, if_pos (cl_lt h), nf_of h]
theorem entR_int {E : GE} {R : RM} {k : Nat} (f : Nat → Int32) (hk : kd k = 7) : entR E R k f = .inl (ge_cy E 0, ln k, .inl f) := by
  unfold entR
  rw [hk, if_neg (by decide), if_pos (by decide)]
theorem entR_bool {E : GE} {R : RM} {k : Nat} (f : Nat → Int32) (hk : kd k = 8) : entR E R k f = .inl (ge_cy E 1, ln k, .inl f) := by
  unfold entR
  rw [hk, if_neg (by decide), if_pos (by decide)]
theorem entR_q {E : GE} {R : RM} {k : Nat} (f : Nat → Int32) (hk : kd k = 9 ∨ kd k = 10) : entR E R k f = .inl (ge_cy E (kd k - 7), ln k, .inr (.inr (.inr (.inr (fun j => (R k j).map (ad E)))))) := by
  unfold entR
  rw [if_neg (by omega), if_neg (by omega)]
theorem fvR_setI {E : GE} {R : RM} {k c n j : Nat} (f : Nat → Int32) (v : Int32) (hr : isRefF c j = false) : ((List.range n).map (fvR E R k c f)).set j (.int v) = (List.range n).map (fvR E R k c (upd f j v)) := by
  apply List.ext_getElem?
  intro i
  by_cases hi : i < n
  · by_cases hij : i = j
    · subst hij
      rw [List.getElem?_set_self (by simpa using hi)]
      simp [hi, fvR, hr, upd]
    · rw [List.getElem?_set_ne (Ne.symm hij)]
      simp [hi, fvR, upd, hij]
  · rw [List.getElem?_eq_none (by simp; omega), List.getElem?_eq_none (by simp; omega)]
theorem fvR_setR {E : GE} {R : RM} {k c n j q : Nat} (f : Nat → Int32) (hr : isRefF c j = true) : ((List.range n).map (fvR E R k c f)).set j (.ref (ad E q)) = (List.range n).map (fvR E (upO R k j (some q)) k c f) := by
  apply List.ext_getElem?
  intro i
  by_cases hi : i < n
  · by_cases hij : i = j
    · subst hij
      rw [List.getElem?_set_self (by simpa using hi)]
      simp [hi, fvR, hr, upO, va_rf]
    · rw [List.getElem?_set_ne (Ne.symm hij)]
      simp [hi, fvR, upO, hij]
  · rw [List.getElem?_eq_none (by simp; omega), List.getElem?_eq_none (by simp; omega)]
def CxC (E : GE) (B : Nat) (y : MI) (p : Program) (s : State) (m : MethodId) (args : Array Value) (meth : Method) (c : Code) : Prop :=
  p.tables.exec = Jvm.exec ∧ c.code = mi_code y ∧ meth.sig.returnType = mi_ret y ∧ c.maxLocals = mi_maxL y ∧ meth.locks = false ∧ s.vm.findClass (mi_nm y).cls = some m.cls ∧ (∀ w ∈ ws y, w.before args s = true) ∧ va_K (ge_D E) vwCl (tysE E) s ∧ Stc s ∧ (∀ k, ad E k = B + k) ∧ meth.name = (mi_nm y).name ∧ B ≤ s.heap.size
def PreC (E : GE) (B n : Nat) (R : RM) (M : Mem) (U : State) : Prop := U.heap.size = B + n ∧ va_P (ge_D E) vwCl (wlR E R n M) U.heap ∧ va_K (ge_D E) vwCl (tysE E) U ∧ Stc U ∧ ∀ k, ad E k = B + k
def QcC (E : GE) (B : Nat) (Q : Nat → RM → Mem → Prop) : Array Value → State → Outcome → State → Prop := fun _ st oc t => (∃ (n1 : Nat) (R1 : RM) (M1 : Mem), oc = .returned none ∧ Q n1 R1 M1 ∧ t.heap.size = B + n1 ∧ va_P (ge_D E) vwCl (wlR E R1 n1 M1) t.heap) ∧ va_F (AC B) st t
def RunsC (E : GE) (B : Nat) (y : MI) (as : List Value) (n : Nat) (R : RM) (M : Mem) (Q : Nat → RM → Mem → Prop) : Prop :=
  Met (ge_l E) (mi_nm y) (ws y) (mi_rm y) (va_Pc as (PreC E B n R M)) (QcC E B Q) (mi_rm y).cells (mi_rm y).slots (AC B)
def Ec (E : GE) (B : Nat) (y : MI) (pc : Nat) (lv : List (Nat × Value)) (stk : List Value) (n cs ss : Nat) (R : RM) (M : Mem) (Q : Nat → RM → Mem → Prop) : Prop :=
  ∀ (p : Program) (e : Env) (s : State) (m : MethodId) (args : Array Value) (below : List Frame) (meth : Method) (c : Code), CxC E B y p s m args meth c → ∀ ls : Array Slot, lv_has ls (mi_maxL y) lv → ∀ (H : Heap) (locs : List Loc), H.size = B + n → va_P (ge_D E) vwCl (wlR E R n M) H → va_S (AC B) s.heap H locs →
    W p (ge_l E) e (mi_rm y) s m args below meth c H locs cs ss (MQ below (QcC E B Q) args s (mi_rm y).cells (mi_rm y).slots (AC B)) (F0 m pc ls stk)
theorem RunsC.ofEc {E : GE} {B n : Nat} {R : RM} {y : MI} {as : List Value} {M : Mem} {Q : Nat → RM → Mem → Prop} (hy : plainName (mi_nm y).cls = true) (hn : (lg_sl as).length ≤ mi_maxL y) (h : Ec E B y 0 (lv_args 0 as) [] n 0 0 R M Q) : RunsC E B y as n R M Q := by
  refine Met.ofW (cc := mi_code y) (maxL := mi_maxL y) (ret := mi_ret y) (ws' := gwL) hy rfl ?_
  intro p e s m args below meth c s₁ Bd hml hv
  obtain ⟨rfl, hz, hP, hK, hSt, hB⟩ := hv
  have hl := lv_entry as hn
  rw [lg_entry_eq]
  exact h p e s m _ below meth c ⟨Bd.exec, Bd.bytes, Bd.returns, hml, Bd.notSynchronized, findClass_of_methodNamed Bd.named, atoms_spec (ws := ws y) Bd.pre, hK, hSt, hB, (name_of_methodNamed Bd.named Bd.method).1, by omega⟩ _ hl s.heap [] hz hP va_S.rf
section ECR
variable {E : GE} {B : Nat} {y : MI} {pc : Nat} {lv : List (Nat × Value)} {rest : List Value} {n cs ss : Nat} {R : RM} {M : Mem} {Q : Nat → RM → Mem → Prop}
theorem Ec.iconst {z : Int} {v : Int32} (hd : decode (mi_code y) pc = .ok (.iconst z, 1)) (hv : Int32.ofInt z = v) (k : Ec E B y (pc + 1) lv (.int v :: rest) n cs ss R M Q) : Ec E B y pc lv (rest) n cs ss R M Q := fun p e s m args below meth c C ls hl H locs hz hP hS => lv_iconst C.1 C.2.1 hd hv (k p e s m args below meth c C ls hl H locs hz hP hS)
theorem Ec.bipush {z : Int} {v : Int32} (hd : decode (mi_code y) pc = .ok (.bipush z, 2)) (hv : (Int8.ofInt z).toInt32 = v) (k : Ec E B y (pc + 2) lv (.int v :: rest) n cs ss R M Q) : Ec E B y pc lv (rest) n cs ss R M Q := fun p e s m args below meth c C ls hl H locs hz hP hS => lv_bipush C.1 C.2.1 hd hv (k p e s m args below meth c C ls hl H locs hz hP hS)
theorem Ec.sipush {z : Int} {v : Int32} (hd : decode (mi_code y) pc = .ok (.sipush z, 3)) (hv : (Int16.ofInt z).toInt32 = v) (k : Ec E B y (pc + 3) lv (.int v :: rest) n cs ss R M Q) : Ec E B y pc lv (rest) n cs ss R M Q := fun p e s m args below meth c C ls hl H locs hz hP hS => lv_sipush C.1 C.2.1 hd hv (k p e s m args below meth c C ls hl H locs hz hP hS)
theorem Ec.iload_n {f : Fin 4} {i : Nat} {x : Int32} (hd : decode (mi_code y) pc = .ok (.iload_n f, 1)) (hi : (f : Nat) = i) (j : Nat) (hj : lv[j]? = some (i, .int x)) (k : Ec E B y (pc + 1) lv (.int x :: rest) n cs ss R M Q) : Ec E B y pc lv (rest) n cs ss R M Q := fun p e s m args below meth c C ls hl H locs hz hP hS => lv_iload_n C.1 C.2.1 hd hi (lv_at hl j hj) (k p e s m args below meth c C ls hl H locs hz hP hS)
theorem Ec.aload_n {f : Fin 4} {i : Nat} {x : Nat} (hd : decode (mi_code y) pc = .ok (.aload_n f, 1)) (hi : (f : Nat) = i) (j : Nat) (hj : lv[j]? = some (i, .ref x)) (k : Ec E B y (pc + 1) lv (.ref x :: rest) n cs ss R M Q) : Ec E B y pc lv (rest) n cs ss R M Q := fun p e s m args below meth c C ls hl H locs hz hP hS => lv_aload_n C.1 C.2.1 hd hi (lv_at hl j hj) (k p e s m args below meth c C ls hl H locs hz hP hS)
theorem Ec.istore_n {f : Fin 4} {i : Nat} {x : Int32} {lv2 : List (Nat × Value)} (hd : decode (mi_code y) pc = .ok (.istore_n f, 1)) (hi : (f : Nat) = i) (hn : i < mi_maxL y) (hq : (i, Value.int x) :: lv.filter (fun q => !(q.1 == i) && !(q.1 + 1 == i && q.2.category == 2)) = lv2) (k : Ec E B y (pc + 1) lv2 rest n cs ss R M Q) : Ec E B y pc lv (.int x :: rest) n cs ss R M Q := fun p e s m args below meth c C ls hl H locs hz hP hS => lv_istore_n C.1 C.2.1 hd hi hl hn hq (fun ls2 hl2 => k p e s m args below meth c C ls2 hl2 H locs hz hP hS)
theorem Ec.iinc {i : Nat} {z : Int} {x v : Int32} {lv2 : List (Nat × Value)} (hd : decode (mi_code y) pc = .ok (.iinc i z, 3)) (j : Nat) (hj : lv[j]? = some (i, .int x)) (hv : x + Int32.ofInt z = v) (hn : i < mi_maxL y) (hq : (i, Value.int v) :: lv.filter (fun q => !(q.1 == i) && !(q.1 + 1 == i && q.2.category == 2)) = lv2) (k : Ec E B y (pc + 3) lv2 rest n cs ss R M Q) : Ec E B y pc lv rest n cs ss R M Q := fun p e s m args below meth c C ls hl H locs hz hP hS => lv_iinc C.1 C.2.1 hd hl (k := j) hj hv hn hq (fun ls2 hl2 => k p e s m args below meth c C ls2 hl2 H locs hz hP hS)
theorem Ec.dup {va : Value} (hd : decode (mi_code y) pc = .ok (.dup, 1)) (h1 : va.category = 1) (k : Ec E B y (pc + 1) lv (va :: va :: rest) n cs ss R M Q) : Ec E B y pc lv (va :: rest) n cs ss R M Q := fun p e s m args below meth c C ls hl H locs hz hP hS => lv_dup C.1 C.2.1 hd h1 (k p e s m args below meth c C ls hl H locs hz hP hS)
theorem Ec.icmp_ge {a b : Int32} {off : Int} {tgt : Nat} (hd : decode (mi_code y) pc = .ok (.if_icmp .ge off, 3)) (ht : (pc : Int) + off = (tgt : Int)) (kt : b ≤ a → Ec E B y tgt lv rest n cs ss R M Q) (kf : ¬ (b ≤ a) → Ec E B y (pc + 3) lv rest n cs ss R M Q) : Ec E B y pc lv (.int b :: .int a :: rest) n cs ss R M Q := fun p e s m args below meth c C ls hl H locs hz hP hS => lv_icmp_ge C.1 C.2.1 hd ht (fun g => kt g p e s m args below meth c C ls hl H locs hz hP hS) (fun g => kf g p e s m args below meth c C ls hl H locs hz hP hS)
theorem Ec.goto {off : Int} {tgt : Nat} (hd : decode (mi_code y) pc = .ok (.goto off, 3)) (ht : (pc : Int) + off = (tgt : Int)) (k : Ec E B y tgt lv rest n cs ss R M Q) : Ec E B y pc lv rest n cs ss R M Q := fun p e s m args below meth c C ls hl H locs hz hP hS => lv_goto C.1 C.2.1 hd ht (k p e s m args below meth c C ls hl H locs hz hP hS)
theorem Ec.sub {lv2 : List (Nat × Value)} {stk : List Value} (is : List Nat) (hs : lv_pick lv is = lv2) (k : Ec E B y pc lv2 stk n cs ss R M Q) : Ec E B y pc lv stk n cs ss R M Q := fun p e s m args below meth c C ls hl H locs hz hP hS => k p e s m args below meth c C ls (lv_sub hl is hs) H locs hz hP hS
theorem Ec.get {idx k c j : Nat} {v : Value} (hd : decode (mi_code y) pc = .ok (.getfield idx, 3)) (hf : FLk (mi_nm y).cls idx c j) (hk : kd k = c) (hn : k < n) (hv : fvR E R k c (M k) j = v) (kk : Ec E B y (pc + 3) lv (v :: rest) n cs ss R M Q) : Ec E B y pc lv (.ref (ad E k) :: rest) n cs ss R M Q := by
  intro p e s m args below meth c2 C ls hl H locs hz hP hS
  obtain ⟨hx, hb, hr, hml, hlk, hown, hts, hK, hSt, hB, hnm, hBs⟩ := id C
  obtain ⟨Cn, T, n9, hcl, hj, hTC, hlink⟩ := hf
  have he := wlR_at E R M hn
  rw [entR_obj (M k) hk hcl] at he
  exact va_get hx hb hts (fun w hw => List.mem_cons_of_mem _ ((clOK c Cn T n9 hcl).1 w hw)) hown hK hP k he hcl j hj (hts _ (List.mem_cons_of_mem _ hlink)) (fun x h => by rw [hTC] at h; exact h) (by rw [← hv]; simp [hj]) hd (kk p e s m args below meth c2 C ls hl H locs hz hP hS)
theorem Ec.getN {idx k c j : Nat} {v : Value} (hd : decode (mi_code y) pc = .ok (.getfield idx, 3)) (hf : NLk (mi_nm y).cls idx c j) (hk : kd k = c) (hn : k < n) (hv : fvR E R k c (M k) j = v) (kk : Ec E B y (pc + 3) lv (v :: rest) n cs ss R M Q) : Ec E B y pc lv (.ref (ad E k) :: rest) n cs ss R M Q := by
  intro p e s m args below meth c2 C ls hl H locs hz hP hS
  obtain ⟨hx, hb, hr, hml, hlk, hown, hts, hK, hSt, hB, hnm, hBs⟩ := id C
  obtain ⟨Cn, T, n9, hcl, hj, hTC, hlink⟩ := hf
  have he := wlR_at E R M hn
  rw [entR_obj (M k) hk hcl] at he
  exact va_getN hx hb hts (fun w hw => List.mem_cons_of_mem _ ((clOK c Cn T n9 hcl).1 w hw)) hown hK hP k he hcl j hj (va_Nw.use rfl (hSt.2.2.1 _ hlink)) (fun x h => by rw [hTC] at h; exact h) (by rw [← hv]; simp [hj]) hd (kk p e s m args below meth c2 C ls hl H locs hz hP hS)
/-- a field of cell k is written: the heap behind it -/
theorem ec_put {p : Program} {l : Launch} {e : Env} {R9 : Room} {s : State} {m : MethodId} {args : Array Value} {below : List Frame} {meth : Method} {c0 : Code} {H : Heap} {locs : List Loc} {cells slots : Nat} {Q9 : State → Prop} {cc : ByteArray} {ls : Array Slot} {D : va_G} {tys : List (ClassId × FieldType)} {ws9 : va_W} {a : Nat}
    (hexec : p.tables.exec = Jvm.exec) (hb : c0.code = cc) {own C : String} {T : u_T} {N ci index : Nat} {Ts : List Cond} (hts : ∀ w ∈ Ts, w.before args s = true) (hin : ∀ w ∈ u_ws C T N, w ∈ Ts) (ty0 : Nat → FieldType) (hty : ∀ k, k < N → parseFieldDescriptor (T k).2.2.1 = some (ty0 k)) (hnm : ∀ a, a < N → ∀ b, b < N → a ≠ b → (T a).2.1 ≠ (T b).2.1) (hown : s.vm.findClass own = some m.cls) (hK : va_K D vwCl tys s) (hP : va_P D vwCl ws9 H) (q0 : Nat) {fs : List Value} (he : ws9[q0]? = some (a, .inr (ci, fs))) (hc : vwCl[ci]? = some (C, T, N)) (k : Nat) (hk : k < N) (hTC : (T k).1 = C) (hlink : (Cond.fieldLink own index C (T k).2.1 (T k).2.2.1).before args s = true) {ty : FieldType} {v : Value} (hfin : (T k).2.2.2 = false ∨ ((T k).2.2.2 = true ∧ meth.name = "<init>" ∧ (T k).1 = own)) (hd : parseFieldDescriptor (T k).2.2.1 = some ty) (hn : narrow ty v = v) (hfit : fits ty v = true) (hl : k < fs.length)
    (hdg : decode cc pc = .ok (.putfield index, 3)) (kk : ∀ (H1 : Heap) (i : Nat), H1.size = H.size → (∀ q, q ≠ a → H1[q]? = H[q]?) → va_at D vwCl (a, .inr (ci, fs.set k v)) H1 → W p l e R9 s m args below meth c0 H1 (locs ++ [⟨a, i⟩]) cells slots Q9 (F0 m (pc + 3) ls rest)) : W p l e R9 s m args below meth c0 H locs cells slots Q9 (F0 m pc ls (v :: .ref a :: rest)) := by
  have hap := va_apart (own := own) hts hin ty0 hty hnm hK hc
  obtain ⟨r, h1, cell, q1, q2, q3, q4⟩ := hP q0 _ he
  obtain rfl : r = (C, T, N) := Option.some.inj (h1.symm.trans hc)
  obtain ⟨hS, hfc, kC, hkC, hkind⟩ := hK.1 ci _ hc
  obtain ⟨cf, kf, fi, f, hi, hsl⟩ := hS k hk
  have hi2 := hi
  rw [hTC] at hi2
  have hst := (u_facts hfc hkC (u_lays hts hin hk) hi).1
  have hlay := hts _ (hin _ (u_in_lay hk))
  have hend : ∀ H1 : Heap, H1[a]? = some (cell.setSlot (D.2 ci k) v) → va_at D vwCl (a, .inr (ci, fs.set k v)) H1 := fun H1 e1 => ⟨_, hc, t_OB.to (V := updV (vp_V fs) k v) ⟨_, e1, q2, q3, t_set q4 hap hk v⟩ (fun j _ => vp_updV_set hl v j)⟩
  unfold u_lay at hlay
  rcases hfin with hfin | ⟨hfin, hin2, hdecl⟩
  · rw [if_neg (by rw [hfin]; decide)] at hlay
    refine W.putK hexec hb (f := f) ⟨hown, hlink, ⟨_, _, _, hi2⟩, hst⟩ (by rw [q2]; exact u_store hfc hkC hkind hlay hi hd hn hfit) q1 q3 (by rw [hsl]; exact k2_hasslot (q4 k hk)) rfl rfl hdg fun H' e1 e2 e3 => ?_
    rw [hsl] at e1 ⊢
    exact kk H' _ e2 e3 (hend H' e1)
  · rw [if_pos hfin] at hlay
    have hcf : m.cls = cf := by
      obtain ⟨_, _, c', _, _, _, -, -, hf', -, -, -, hown2, -⟩ := Cond.laysFinal_spec hlay
      have e1 : c' = cf := by have := hi.symm.trans hf'; simp at this; exact this.1.symm
      rw [hdecl] at hown2
      rw [← e1]; exact Option.some.inj (hown.symm.trans hown2)
    refine W.putFinK hexec hb hown hlink hi2 hst hcf hin2 (by rw [q2]; exact u_fits hfc hkC hkind (Or.inr hlay) hi hd hn hfit) q1 q3 (by rw [hsl]; exact k2_hasslot (q4 k hk)) rfl rfl hdg fun H' e1 e2 e3 => ?_
    rw [hsl] at e1 ⊢
    exact kk H' _ e2 e3 (hend H' e1)
theorem wlR_put (hB : ∀ k, ad E k = B + k) {k : Nat} (hn : k < n) {H H1 : Heap} (f : Nat → Int32) (r : Nat → Option Nat) (hP : va_P (ge_D E) vwCl (wlR E R n M) H) (oq : ∀ q, q ≠ ad E k → H1[q]? = H[q]?) (ha : va_at (ge_D E) vwCl (ad E k, entR E (upOR R k r) k f) H1) : va_P (ge_D E) vwCl (wlR E (upOR R k r) n (upR M k f)) H1 := by
  rw [← wlR_set E R M hn f r]
  exact hP.set (wlR_D hB) (wlR_at E R M hn) ha oq
theorem Ec.putA {idx k c j : Nat} {v : Int32} {d : String} {ty : FieldType} (hd : decode (mi_code y) pc = .ok (.putfield idx, 3)) (hf : FLk (mi_nm y).cls idx c j) (hk : kd k = c) (hn : k < n) (hr : isRefF c j = false) (ht : fT c j = (d, false)) (hp : parseFieldDescriptor d = some ty) (hnr : narrow ty (.int v) = .int v) (hfi : fits ty (.int v) = true) (kk : Ec E B y (pc + 3) lv rest n cs ss R (up M k j v) Q) : Ec E B y pc lv (.int v :: .ref (ad E k) :: rest) n cs ss R M Q := by
  intro p e s m args below meth c2 C ls hl H locs hz hP hS
  obtain ⟨hx, hb, hr', hml, hlk, hown, hts, hK, hSt, hB, hnm, hBs⟩ := id C
  obtain ⟨Cn, T, n9, hcl, hj, hTC, hlink⟩ := hf
  have he := wlR_at E R M hn
  rw [entR_obj (M k) hk hcl] at he
  rw [fT_of hcl] at ht
  obtain ⟨ty0, hty, hnm9⟩ := (clOK c Cn T n9 hcl).2
  refine ec_put hx hb hts (fun w hw => List.mem_cons_of_mem _ ((clOK c Cn T n9 hcl).1 w hw)) ty0 hty hnm9 hown hK hP k he hcl j hj hTC (hts _ (List.mem_cons_of_mem _ hlink)) (Or.inl (by rw [ht])) (by rw [ht]; exact hp) hnr hfi (by simpa using hj) hd (fun H1 i z1 oq ha => ?_)
  rw [fvR_setI _ _ hr, ← entR_obj (upd (M k) j v) hk hcl] at ha
  have hP1 := wlR_put hB hn (upd (M k) j v) (R k) hP oq (by rw [upOR_self]; exact ha)
  rw [upOR_self, ← up_upR] at hP1
  exact kk p e s m args below meth c2 C ls hl H1 _ (by rw [z1, hz]) hP1 (hS.put z1 oq (by show B ≤ _; rw [hB]; omega))
theorem Ec.putR {idx k c j q : Nat} {d : String} {ty : FieldType} (hd : decode (mi_code y) pc = .ok (.putfield idx, 3)) (hf : FLk (mi_nm y).cls idx c j) (hk : kd k = c) (hn : k < n) (hr : isRefF c j = true) (ht : fT c j = (d, true)) (hp : parseFieldDescriptor d = some ty) (hnr : narrow ty (.ref (ad E q)) = .ref (ad E q)) (hfi : fits ty (.ref (ad E q)) = true) (hi : (mi_nm y).name = "<init>") (hcn : clN c = (mi_nm y).cls) (kk : Ec E B y (pc + 3) lv rest n cs ss (upO R k j (some q)) M Q) : Ec E B y pc lv (.ref (ad E q) :: .ref (ad E k) :: rest) n cs ss R M Q := by
  intro p e s m args below meth c2 C ls hl H locs hz hP hS
  obtain ⟨hx, hb, hr', hml, hlk, hown, hts, hK, hSt, hB, hnm, hBs⟩ := id C
  obtain ⟨Cn, T, n9, hcl, hj, hTC, hlink⟩ := hf
  have he := wlR_at E R M hn
  rw [entR_obj (M k) hk hcl] at he
  rw [fT_of hcl] at ht
  have hcn' : Cn = (mi_nm y).cls := by rw [← hcn]; simp [clN, hcl]
  obtain ⟨ty0, hty, hnm9⟩ := (clOK c Cn T n9 hcl).2
  refine ec_put hx hb hts (fun w hw => List.mem_cons_of_mem _ ((clOK c Cn T n9 hcl).1 w hw)) ty0 hty hnm9 hown hK hP k he hcl j hj hTC (hts _ (List.mem_cons_of_mem _ hlink)) (Or.inr ⟨by rw [ht], hnm.trans hi, hTC.trans hcn'⟩) (by rw [ht]; exact hp) hnr hfi (by simpa using hj) hd (fun H1 i z1 oq ha => ?_)
  rw [fvR_setR _ hr, ← entR_obj (M k) hk hcl] at ha
  have hP1 := wlR_put hB hn (M k) (fun j' => if j' = j then some q else R k j') hP oq ha
  rw [← upO_upOR, show upR M k (M k) = M from by funext i; by_cases h : i = k <;> simp [upR, h]] at hP1
  exact kk p e s m args below meth c2 C ls hl H1 _ (by rw [z1, hz]) hP1 (hS.put z1 oq (by show B ≤ _; rw [hB]; omega))
theorem Ec.iast {k N : Nat} {i v : Int32} (hd : decode (mi_code y) pc = .ok (.iastore, 1)) (hk : kd k = 7) (hn : k < n) (hl9 : ln k = N) (hin : vp_in i N) (kk : Ec E B y (pc + 1) lv rest n cs ss R (up M k i.toNatClampNeg v) Q) : Ec E B y pc lv (.int v :: .int i :: .ref (ad E k) :: rest) n cs ss R M Q := by
  intro p e s m args below meth c2 C ls hl H locs hz hP hS
  obtain ⟨hx, hb, hr, hml, hlk, hown, hts, hK, hSt, hB, hnm, hBs⟩ := id C
  have he := wlR_at E R M hn
  rw [entR_int (M k) hk, hl9] at he
  refine W.iast hx hb (hP k _ he) ((hK.2 0 _ rfl).1 N (fun j => .int (M k j))) (fun q => by cases q) (by show ¬ (i < 0 ∨ (arrV _ _ _).slots.size ≤ _); rw [arrV_size]; exact hin) rfl rfl hd fun H1 e1 z1 oq => ?_
  have ha : va_at (ge_D E) vwCl (ad E k, entR E (upOR R k (R k)) k (upd (M k) i.toNatClampNeg v)) H1 := by
    rw [entR_int _ hk, hl9]
    show H1[ad E k]? = some (vp_cell _ _)
    rw [e1, vp_cell_i, vp_cell_i, arrV_store]
    congr 2
    funext q
    by_cases hq : q = i.toNatClampNeg
    · subst hq; simp [updV, upd]
    · simp [updV, upd, hq]
  have hP1 := wlR_put hB hn _ (R k) hP oq ha
  rw [upOR_self, ← up_upR] at hP1
  exact kk p e s m args below meth c2 C ls hl H1 _ (by rw [z1, hz]) hP1 (hS.put z1 oq (by show B ≤ _; rw [hB]; omega))
theorem Ec.aast {k N q c : Nat} {i : Int32} (hd : decode (mi_code y) pc = .ok (.aastore, 1)) (hk : kd k = 9 ∧ c = 2 ∨ kd k = 10 ∧ c = 3) (hn : k < n) (hl9 : ln k = N) (hin : vp_in i N) (hq : q < n) (hkq : kd q = c) (kk : Ec E B y (pc + 1) lv rest n cs ss (upO R k i.toNatClampNeg (some q)) M Q) : Ec E B y pc lv (.ref (ad E q) :: .int i :: .ref (ad E k) :: rest) n cs ss R M Q := by
  intro p e s m args below meth c2 C ls hl H locs hz hP hS
  obtain ⟨hx, hb, hr, hml, hlk, hown, hts, hK, hSt, hB, hnm, hBs⟩ := id C
  have hlt : i.toNatClampNeg < N := Nat.not_le.mp fun q => hin (Or.inr q)
  have h0 : ¬ i < 0 := fun q => hin (Or.inl q)
  have he := wlR_at E R M hn
  have hq9 : kd k = 9 ∨ kd k = 10 := hk.imp And.left And.left
  rw [entR_q (M k) hq9, hl9] at he
  have hcl : ∃ r : vw_C, vwCl[c]? = some r ∧ (tysE E)[kd k - 7]? = some (ge_cy E (kd k - 7), .object r.1) := by
    rcases hk with ⟨h1, h2⟩ | ⟨h1, h2⟩
    · rw [h1, h2]; exact ⟨_, rfl, rfl⟩
    · rw [h1, h2]; exact ⟨_, rfl, rfl⟩
  obtain ⟨r, hc, ht⟩ := hcl
  have hev := wlR_at E R M hq
  rw [entR_obj (M q) hkq (show vwCl[c]? = some (r.1, r.2.1, r.2.2) from hc)] at hev
  obtain ⟨r', hr', cellV, g1, g2, g3, -⟩ := hP q _ hev
  have hcls := (hK.1 c r hc).2
  obtain ⟨kA, comp, k1, k2, k3, -⟩ := (hK.2 _ _ ht).2
  have hcomp : comp = (ge_D E).1 c := Option.some.inj (k3.symm.trans hcls.1)
  subst hcomp
  obtain ⟨kC, hkC, -⟩ := hcls.2
  refine W.aast hx hb (hP k _ he) (fun q h => by cases h) (fun h => by cases h) k1 k2 rfl hkC ⟨h0, by show _ < (arrV _ _ _).slots.size; rw [arrV_size]; exact hlt⟩ g1 (fun q h => by rw [g3] at h; cases h) (by rw [g2]; exact hkC) (by rw [g2]; exact va_assign hcls) rfl rfl hd fun H1 e1 z1 oq => ?_
  have ha : va_at (ge_D E) vwCl (ad E k, entR E (upOR R k (fun j' => if j' = i.toNatClampNeg then some q else R k j')) k (M k)) H1 := by
    rw [entR_q _ hq9, hl9]
    show H1[ad E k]? = some (vp_cell _ _)
    rw [e1, vp_cell_q, vp_cell_q, arrV_store]
    congr 2
    funext z
    by_cases hzi : z = i.toNatClampNeg
    · subst hzi; simp [updV, upOR, va_rf]
    · simp [updV, upOR, hzi]
  have hP1 := wlR_put hB hn (M k) _ hP oq ha
  rw [← upO_upOR, show upR M k (M k) = M from by funext i; by_cases h : i = k <;> simp [upR, h]] at hP1
  exact kk p e s m args below meth c2 C ls hl H1 _ (by rw [z1, hz]) hP1 (hS.put z1 oq (by show B ≤ _; rw [hB]; omega))
theorem wlR_new {H H1 : Heap} {f : Nat → Int32} {r : Nat → Option Nat} (hz : H.size = B + n) (hB : ∀ k, ad E k = B + k) (hP : va_P (ge_D E) vwCl (wlR E R n M) H) (o1 : ∀ q : Nat, q < H.size → H1[q]? = H[q]?) (ha : va_at (ge_D E) vwCl (ad E n, entR E (upOR R n r) n f) H1) : va_P (ge_D E) vwCl (wlR E (upOR R n r) (n + 1) (upR M n f)) H1 := by
  rw [← wlR_push E R M n f r]
  refine (hP.kept (fun k x hx => o1 x.1 ((hP k x hx).lt))).app (fun k x hx => ?_)
  have hk : k < 1 := (List.getElem?_eq_some_iff.mp hx).1
  rw [show k = 0 by omega] at hx
  cases hx
  exact ha
theorem Ec.new {idx c N : Nat} {C9 : String} {T : u_T} (hd : decode (mi_code y) pc = .ok (.new idx, 3)) (hc : vwCl[c]? = some (C9, T, N)) (hk : kd n = c) (hlk9 : Cond.classLink (mi_nm y).cls idx C9 ∈ gwL) (hins : Cond.instantiable C9 N ∈ gwL) (hini : Cond.initialized C9 ∈ gwL) (ty : Nat → FieldType) (hty : ∀ k, k < N → parseFieldDescriptor (T k).2.2.1 = some (ty k)) (hdf : ∀ j, j < N → defaultValue (ty j) = if isRefF c j = true then .null else .int 0) (hcs : cs + 1 ≤ (mi_rm y).cells) (hss : ss + N ≤ (mi_rm y).slots) (kk : Ec E B y (pc + 3) lv (.ref (ad E n) :: rest) (n + 1) (cs + 1) (ss + N) (upOR R n (fun _ => none)) (upR M n (fun _ => 0)) Q) : Ec E B y pc lv rest n cs ss R M Q := by
  intro p e s m args below meth c2 C ls hl H locs hz hP hS
  obtain ⟨hx, hb, hr, hml, hlk, hown, hts, hK, hSt, hB, hnm, hBs⟩ := id C
  have g := fun w h => hts w (List.mem_cons_of_mem _ h)
  have hKn := hK.1 c _ hc
  refine W.newcK hx hb hown (g _ hlk9) (g _ hins) (g _ hini) rfl hd hcs hss hKn.2.1 rfl fun H1 kC hkC e1 z1 o1 => ?_
  have ha : va_at (ge_D E) vwCl (ad E n, entR E (upOR R n (fun _ => none)) n (fun _ => 0)) H1 := by
    rw [entR_obj _ hk hc]
    refine ⟨_, hc, ?_⟩
    rw [hB, ← hz]
    refine (u_born ty hts (fun w hw => List.mem_cons_of_mem _ ((clOK c C9 T N hc).1 w hw)) hKn hkC e1 hty).to (fun j hj => ?_)
    rw [hdf j hj]
    simp [vp_V, fvR, upOR, hj, va_rf]
  have hP1 := wlR_new hz hB hP o1 ha
  have := kk p e s m args below meth c2 C ls hl H1 locs (by rw [z1, hz]; omega) hP1 ⟨Nat.le_trans hS.1 (by omega), fun x h1 h2 => (o1 x (Nat.lt_of_lt_of_le h1 hS.1)).trans (hS.2.1 x h1 h2), hS.2.2⟩
  rw [hB, ← hz] at this
  exact this
theorem Ec.newI {N : Nat} {N32 : Int32} (hd : decode (mi_code y) pc = .ok (.newarray .int, 2)) (hk : kd n = 7) (hl9 : ln n = N) (h0 : ¬ N32 < 0) (hN : N32.toNatClampNeg = N) (hby : N * 4 ≤ 536870912) (har : Cond.arrayClass .int ∈ gwL) (hcs : cs + 1 ≤ (mi_rm y).cells) (hss : ss + N ≤ (mi_rm y).slots) (kk : Ec E B y (pc + 2) lv (.ref (ad E n) :: rest) (n + 1) (cs + 1) (ss + N) (upOR R n (fun _ => none)) (upR M n (fun _ => 0)) Q) : Ec E B y pc lv (.int N32 :: rest) n cs ss R M Q := by
  intro p e s m args below meth c2 C ls hl H locs hz hP hS
  obtain ⟨hx, hb, hr, hml, hlk, hown, hts, hK, hSt, hB, hnm, hBs⟩ := id C
  have g := fun w h => hts w (List.mem_cons_of_mem _ h)
  refine va_newaK (atype := .int) hx hb (g _ har) rfl hd rfl h0 hN hby hcs hss rfl fun H1 cA e1 z1 o1 hAr hNm => ?_
  have hcA : cA = ge_cy E 0 := Option.some.inj (hNm.symm.trans (hK.2 0 _ rfl).2)
  subst hcA
  have ha : va_at (ge_D E) vwCl (ad E n, entR E (upOR R n (fun _ => none)) n (fun _ => 0)) H1 := by
    rw [entR_int _ hk, hl9, hB, ← hz]
    exact e1
  have hP1 := wlR_new hz hB hP o1 ha
  have := kk p e s m args below meth c2 C ls hl H1 locs (by rw [z1, hz]; omega) hP1 ⟨Nat.le_trans hS.1 (by omega), fun x h1 h2 => (o1 x (Nat.lt_of_lt_of_le h1 hS.1)).trans (hS.2.1 x h1 h2), hS.2.2⟩
  rw [hB, ← hz] at this
  exact this
theorem Ec.newZ {N : Nat} {N32 : Int32} (hd : decode (mi_code y) pc = .ok (.newarray .boolean, 2)) (hk : kd n = 8) (hl9 : ln n = N) (h0 : ¬ N32 < 0) (hN : N32.toNatClampNeg = N) (hby : N * 1 ≤ 536870912) (har : Cond.arrayClass .boolean ∈ gwL) (hcs : cs + 1 ≤ (mi_rm y).cells) (hss : ss + N ≤ (mi_rm y).slots) (kk : Ec E B y (pc + 2) lv (.ref (ad E n) :: rest) (n + 1) (cs + 1) (ss + N) (upOR R n (fun _ => none)) (upR M n (fun _ => 0)) Q) : Ec E B y pc lv (.int N32 :: rest) n cs ss R M Q := by
  intro p e s m args below meth c2 C ls hl H locs hz hP hS
  obtain ⟨hx, hb, hr, hml, hlk, hown, hts, hK, hSt, hB, hnm, hBs⟩ := id C
  have g := fun w h => hts w (List.mem_cons_of_mem _ h)
  refine va_newaK (atype := .boolean) hx hb (g _ har) rfl hd rfl h0 hN hby hcs hss rfl fun H1 cA e1 z1 o1 hAr hNm => ?_
  have hcA : cA = ge_cy E 1 := Option.some.inj (hNm.symm.trans (hK.2 1 _ rfl).2)
  subst hcA
  have ha : va_at (ge_D E) vwCl (ad E n, entR E (upOR R n (fun _ => none)) n (fun _ => 0)) H1 := by
    rw [entR_bool _ hk, hl9, hB, ← hz]
    exact e1
  have hP1 := wlR_new hz hB hP o1 ha
  have := kk p e s m args below meth c2 C ls hl H1 locs (by rw [z1, hz]; omega) hP1 ⟨Nat.le_trans hS.1 (by omega), fun x h1 h2 => (o1 x (Nat.lt_of_lt_of_le h1 hS.1)).trans (hS.2.1 x h1 h2), hS.2.2⟩
  rw [hB, ← hz] at this
  exact this
theorem Ec.newQ {idx N t : Nat} {N32 : Int32} {C9 : String} (hd : decode (mi_code y) pc = .ok (.anewarray idx, 3)) (hk : kd n = t + 7 ∧ (t = 2 ∨ t = 3)) (hov : ∀ U, Stc U → va_AO C9 U) (htC : (tysE E)[t]? = some (ge_cy E t, .object C9)) (hlk9 : Cond.classLink (mi_nm y).cls idx C9 ∈ gwL) (hl9 : ln n = N) (h0 : ¬ N32 < 0) (hN : N32.toNatClampNeg = N) (hby : N * 4 ≤ 536870912) (hcs : cs + 1 ≤ (mi_rm y).cells) (hss : ss + N ≤ (mi_rm y).slots) (kk : Ec E B y (pc + 3) lv (.ref (ad E n) :: rest) (n + 1) (cs + 1) (ss + N) (upOR R n (fun _ => none)) (upR M n (fun _ => 0)) Q) : Ec E B y pc lv (.int N32 :: rest) n cs ss R M Q := by
  intro p e s m args below meth c2 C ls hl H locs hz hP hS
  obtain ⟨hx, hb, hr, hml, hlk, hown, hts, hK, hSt, hB, hnm, hBs⟩ := id C
  have g := fun w h => hts w (List.mem_cons_of_mem _ h)
  subst hN
  refine W.anew hx hb hown (g _ hlk9) (va_AO.use (hov s hSt)) rfl hd rfl h0 hby hcs hss fun cA kA comp f1 f2 f3 f4 => ?_
  obtain ⟨-, kA', comp', -, -, -, f5⟩ := hK.2 t _ htC
  have hcA : cA = ge_cy E t := Option.some.inj (f1.symm.trans f5)
  subst hcA
  generalize hH1 : H.push ({ cls := ge_cy E t, slots := Array.replicate N32.toNatClampNeg .null, vm := .none } : Cell) = H1
  have z1 : H1.size = H.size + 1 := by rw [← hH1, Array.size_push]
  have e1 : H1[H.size]? = some (arrV (ge_cy E t) N32.toNatClampNeg (fun _ => .null)) := by rw [← hH1, Array.getElem?_push_size, ← arrV_new]
  have o1 : ∀ q : Nat, q < H.size → H1[q]? = H[q]? := fun q hq => by rw [← hH1, Array.getElem?_push, if_neg (Nat.ne_of_lt hq)]
  have ha : va_at (ge_D E) vwCl (ad E n, entR E (upOR R n (fun _ => none)) n (fun _ => 0)) H1 := by
    rw [entR_q _ (by rcases hk with ⟨h1, h2 | h2⟩ <;> subst h2 <;> simp [h1]), hl9, hB, ← hz, hk.1]
    show H1[H.size]? = some (vp_cell _ _)
    rw [vp_cell_q]
    simp only [upOR, if_pos, Option.map_none, Nat.add_sub_cancel]
    exact e1
  have hP1 := wlR_new hz hB hP o1 ha
  have := kk p e s m args below meth c2 C ls hl H1 locs (by rw [z1, hz]; omega) hP1 ⟨Nat.le_trans hS.1 (by omega), fun x h1 h2 => (o1 x (Nat.lt_of_lt_of_le h1 hS.1)).trans (hS.2.1 x h1 h2), hS.2.2⟩
  rw [hB, ← hz] at this
  exact this
theorem Ec.obj {idx k : Nat} (hd : decode (mi_code y) pc = .ok (.invokespecial idx, 3)) (hlk9 : Cond.methodLink (mi_nm y).cls idx objectInit ∈ gwL) (hi : Cond.instanceMethod objectInit ∈ gwL) (hc : Cond.code objectInit ⟨#[0xb1]⟩ 1 none ∈ gwL) (hR : 1 ≤ (mi_rm y).frames ∧ 12 ≤ (mi_rm y).locals) (kk : Ec E B y (pc + 3) lv [] n cs ss R M Q) : Ec E B y pc lv [.ref (ad E k)] n cs ss R M Q := by
  intro p e s m args below meth c2 C ls hl H locs hz hP hS
  obtain ⟨hx, hb, hr, hml, hlk, hown, hts, hK, hSt, hB, hnm, hBs⟩ := id C
  have g := fun w h => hts w (List.mem_cons_of_mem _ h)
  exact W.objInit hx hb hown (g _ hlk9) (g _ hi) (g _ hc) rfl (hl.1.trans hml.symm) rfl hd hR.1 hR.2 (kk p e s m args below meth c2 C ls hl H locs hz hP hS)
theorem Ec.vret (hd : decode (mi_code y) pc = .ok (.return_, 1)) (hr : mi_ret y = none) (h1 : cs = (mi_rm y).cells) (h2 : ss = (mi_rm y).slots) (hq : Q n R M) : Ec E B y pc lv [] n cs ss R M Q := by
  intro p e s m args below meth c2 C ls hl H locs hz hP hS
  obtain ⟨hx, hb, hr', hml, hlk, hown, hts, hK, hSt, hB, hnm, hBs⟩ := id C
  subst h1
  subst h2
  exact W.vret hx hb (hr'.trans hr) (fun t ht hW => ⟨⟨n, R, M, rfl, hq, by rw [ht]; exact hz, by rw [ht]; exact hP⟩, hS.F ht⟩) hS.2.2 hd hlk
theorem prec_blind {as : List Value} : FrameBlind (va_Pc as (PreC E B n R M)) := fun a U g mk q => by
  obtain ⟨h1, h2, h3, h4, h5, h6⟩ := q
  exact ⟨h1, h2, h3, va_K.moved (u := U) (U := U.calling g mk a) (Vm.Alike.refl U.vm) h4, Stc.same (s := U) rfl h5, h6⟩
theorem ec_call {p : Program} {e : Env} {s : State} {m : MethodId} {args a : Array Value} {below : List Frame} {meth : Method} {c : Code} {H : Heap} {locs : List Loc} {R9 : Room} {Q9 : State → Prop} {ls : Array Slot} {st0 : List Value} {l : Launch} {mc ms : Nat} {Q1 : Nat → RM → Mem → Prop} (hr : va_Run p l e R9 s m args below meth c H locs cs ss mc ms (F0 m pc ls st0) rest (QcC E B Q1 a) (AC B)) (hS : va_S (AC B) s.heap H locs)
    (kk : ∀ (n1 : Nat) (R1 : RM) (M1 : Mem) (H1 : Heap) (locs1 : List Loc), Q1 n1 R1 M1 → H1.size = B + n1 → va_P (ge_D E) vwCl (wlR E R1 n1 M1) H1 → va_S (AC B) s.heap H1 locs1 → W p l e R9 s m args below meth c H1 locs1 (cs + mc) (ss + ms) Q9 (F0 m (pc + 3) ls rest)) : W p l e R9 s m args below meth c H locs cs ss Q9 (F0 m pc ls st0) := by
  intro T hT X
  obtain ⟨v, st₀, t, T', L, h0, X', hL, e1, e2, ⟨⟨n1, R1, M1, hv, hp, hz1, hb⟩, hz, hk⟩, st⟩ := hr T hT X
  cases hv
  rw [h0] at hz hk
  obtain ⟨t2, a1, b1⟩ := kk n1 R1 M1 T'.heap (locs ++ L) hp (by rw [e1]; exact hz1) (by rw [e1]; exact hb)
    ⟨Nat.le_trans hS.1 (by rw [e1]; exact hz), fun q h1 h2 => by rw [e1, hk q (Nat.lt_of_lt_of_le h1 hS.1) h2]; exact hS.2.1 q h1 h2, fun q hq => by
      rcases List.mem_append.mp hq with h | h
      · exact hS.2.2 q h
      · exact hL q h⟩ T' rfl X'
  exact ⟨t2, st t2 a1, b1⟩
def MCC (z : MI) (k : Nat) : Prop := (Cond.initialized (mi_nm z).cls ∈ gwL ∧ Cond.code (mi_nm z) (mi_code z) (mi_maxL z) (mi_ret z) ∈ gwL) ∧ mi_ret z = none ∧ (mi_nm z).cls ≠ "java/lang/invoke/MethodHandle" ∧ (mi_nm z).cls ≠ "java/lang/invoke/VarHandle" ∧ (parseMethodDescriptor (mi_nm z).desc).map (fun d => d.parameters.length) = some k ∧ Cond.instanceMethod (mi_nm z) ∈ gwL
theorem gw_wsC {z : MI} {k : Nat} (ho : MCC z k) (y : MI) : GoodIn (ws y) (ws z) := gw_good (fun w hw => by
  rcases List.mem_cons.mp hw with h | h
  · rw [h]; exact ho.1.2
  · exact h) y
theorem prec_at {s U : State} {H : Heap} {as : List Value} (hU : U.heap = H) (hW : s.WarmedH U.vm) (hz : H.size = B + n) (hP : va_P (ge_D E) vwCl (wlR E R n M) H) (hK : va_K (ge_D E) vwCl (tysE E) s) (hSt : Stc s) (hB : ∀ k, ad E k = B + k) : va_Pc as (PreC E B n R M) as.toArray U :=
  ⟨rfl, by rw [hU]; exact hz, by rw [hU]; exact hP, va_K.moved hW.alike hK, Stc.warm hW hSt, hB⟩
def rmOKC (z y : MI) (cs ss : Nat) : Prop := ((mi_rm z).frames + 1 ≤ (mi_rm y).frames ∧ 8 + (mi_maxL z + 11) + (mi_rm z).locals ≤ (mi_rm y).locals) ∧ cs + (mi_rm z).cells ≤ (mi_rm y).cells ∧ ss + (mi_rm z).slots ≤ (mi_rm y).slots
theorem Ec.initN {idx k j cs2 ss2 : Nat} {z : MI} {as stk : List Value} (hd : decode (mi_code y) pc = .ok (.invokespecial idx, 3)) (hw : CNk (mi_nm y).cls idx z) (ho : MCC z j) (hi : (mi_nm z).name = "<init>") (hR : rmOKC z y cs ss) (hs : (rest.map fun v => v.category).sum ≤ 8) (ha : as.length = j) (hst : stk = as.reverse ++ .ref (ad E k) :: rest) (h1 : cs + (mi_rm z).cells = cs2) (h2 : ss + (mi_rm z).slots = ss2) (hrun : RunsC E B z (.ref (ad E k) :: as) n R M (fun n1 R1 M1 => Ec E B y (pc + 3) lv rest n1 cs2 ss2 R1 M1 Q)) : Ec E B y pc lv stk n cs ss R M Q := by
  intro p e s m args below meth c2 C ls hl H locs hz hP hS
  obtain ⟨hx, hb, hr, hml, hlk, hown, hts, hK, hSt, hB, hnm, hBs⟩ := id C
  have g := fun w h => hts w (List.mem_cons_of_mem _ h)
  subst h1
  subst h2
  have ho' := ho
  obtain ⟨⟨g1, g2⟩, g3, g4, g5, g6, g7⟩ := ho
  exact ec_call (va_runIN (own := (mi_nm y).cls) (host := "FlotsamWill") (As := as) (rest := rest) ⟨hx, hb, hml, hown, hts⟩ hrun ⟨va_cnB (ret := none) j hts (gw_wsC ho' y) (by rw [← g3]; rfl) rfl rfl (hSt.2.2.2 _ hw) (g _ g1) ⟨g4, g5, g6⟩ hR.1, hi, g _ g7⟩ ⟨prec_blind, fun U hU hW => prec_at hU hW hz hP hK hSt hB⟩ rfl ha hl.1 hst (lv_room hs) hd hR.2) hS (fun n1 R1 M1 H1 locs1 hq hz1 hP1 hS1 => hq p e s m args below meth c2 C ls hl H1 locs1 hz1 hP1 hS1)
theorem Ec.callE {idx k cs2 ss2 : Nat} {z : MI} (hd : decode (mi_code y) pc = .ok (.invokevirtual idx, 3)) (hw : CLk (mi_nm y).cls idx z) (ho : MCC z 0) (hsel : Cond.selects (mi_nm z).cls (mi_nm z) (mi_nm z) ∈ gwL) (hk : kd k < 7) (hkn : k < n) (hc : clN (kd k) = (mi_nm z).cls) (hR : rmOKC z y cs ss) (h1 : cs + (mi_rm z).cells = cs2) (h2 : ss + (mi_rm z).slots = ss2) (hrun : RunsC E B z [.ref (ad E k)] n R M (fun n1 R1 M1 => Ec E B y (pc + 3) lv [] n1 cs2 ss2 R1 M1 Q)) : Ec E B y pc lv [.ref (ad E k)] n cs ss R M Q := by
  intro p e s m args below meth c2 C ls hl H locs hz hP hS
  obtain ⟨hx, hb, hr, hml, hlk, hown, hts, hK, hSt, hB, hnm, hBs⟩ := id C
  have g := fun w h => hts w (List.mem_cons_of_mem _ h)
  subst h1
  subst h2
  have ho' := ho
  obtain ⟨⟨g1, g2⟩, g3, g4, g5, g6, g7⟩ := ho
  have he := wlR_at E R M hkn
  obtain ⟨r, hcl⟩ : ∃ r, vwCl[kd k]? = some r := ⟨vwCl[kd k]'hk, List.getElem?_eq_getElem hk⟩
  have hcn : r.1 = (mi_nm z).cls := by rw [← hc]; simp [clN, hcl]
  rw [entR_obj (M k) rfl (show vwCl[kd k]? = some (r.1, r.2.1, r.2.2) from hcl)] at he
  have hcell := va_recv hK hP hcl he
  exact ec_call (va_runV (own := (mi_nm y).cls) (C := (mi_nm z).cls) (As := []) (rest := []) ⟨hx, hb, hml, hown, hts⟩ hrun ⟨callB_of 0 hts (gw_wsC ho' y) rfl rfl rfl (g _ g1) (g _ hw) ⟨g4, g5, g6⟩ hR.1, g _ g7, g _ hsel⟩ ⟨prec_blind, by rw [hcn] at hcell; exact hcell, fun U hU hW => prec_at hU hW hz hP hK hSt hB⟩ rfl rfl hl.1 rfl (lv_room (Nat.le_of_ble_eq_true rfl)) hd hR.2) hS (fun n1 R1 M1 H1 locs1 hq hz1 hP1 hS1 => hq p e s m args below meth c2 C ls hl H1 locs1 hz1 hP1 hS1)
end ECR
