def ky_strs : List (Nat × String) := [(36, "many is out of range"), (47, "there would be too many sets"), (298, "there is no such kind"), (68, "there would be too many spare parts"), (293, "there is no such set"), (304, "the set is not in the yard"), (302, "many is below 1"), (314, "the set has not so many parts of the kind"), (296, "there is no such site"), (108, "there are not so many whole sets in the yard"), (117, "the set is in the yard or on this site"), (309, "the set is in the yard"), (132, "money is out of range"), (137, "the bill is less than that"), (146, "days is out of range"), (152, "the day would be too late"), (300, "there is no such setting"), (163, "value is out of range"), (171, "code is out of range"), (176, "the buffer is full"), (191, "the buffer is not a complete row of orders"), (208, "there is no saved state"), (216, "there is no such property of a set"), (221, "there is no such property of a site"), (226, "there is no such number of parts"), (231, "there is no such number"), (239, "cost is out of range")]
/-! ===== a walk over a fixed layout: slots by number, one state of numbers ===== -/
abbrev ky_St : Type := (Nat → Nat → Int32) × (Nat → Int64)
/-- launch, addresses by slot, base, script's length, classes, class of int rows -/
abbrev ky_G : Type := Launch × (Nat → Nat) × Nat × Nat × va_G × ClassId
/-- name, code, locals, returns, handlers -/
abbrev ky_Md : Type := MethodName × ByteArray × Nat × Option FieldType × List (Nat × Nat × Nat × Nat)
abbrev ky_O : Type := String ⊕ Option Value
def ky_A (G : ky_G) : Nat → Prop := fun q => G.2.2.1 ≤ q
abbrev ky_r (G : ky_G) (k : Nat) : Value := .ref (G.2.1 k)
def ky_cls : List vw_C := [(RX0, TX0, 17), (RX1, TX1, 3), (RX2, TX2, 6), (RX3, TX3, 4), (RX4, TX4, 12)]
def ky_bk (k : Nat) : Bool := decide (20 ≤ k) && (decide (k < 111) && decide ((k - 20) % 13 = 0))
def ky_cl (k : Nat) : Nat := if k = 0 then 3 else if k = 2 then 1 else if k = 3 then 2 else if k = 7 then 4 else if ky_bk k = true then 0 else 9
def ky_N (c : Nat) : Nat := if c = 0 then 17 else if c = 1 then 3 else if c = 2 then 6 else if c = 3 then 4 else 12
def ky_ty (c f : Nat) : Nat := if c = 0 then (if f < 5 then 0 else 1) else if c = 1 then (if f = 0 then 1 else 0) else if c = 2 then (if f = 0 then 1 else 0) else if c = 3 then 1
  else if f = 11 then 2 else if f = 0 then 1 else if f = 2 then 1 else if f = 4 then 1 else if f = 6 then 1 else if f = 10 then 1 else 0
def ky_lk (k f : Nat) : Nat := if k = 0 then (if f = 0 then 20 else f + 1) else if k = 2 then 5 else if k = 3 then 6 else if k = 7 then (if f = 0 then 8 else if f = 2 then 9 else if f = 4 then 10 else if f = 6 then 11 else 12) else k + (f - 4)
def ky_val (G : ky_G) (σ : ky_St) (k f : Nat) : Value := if ky_ty (ky_cl k) f = 0 then .int (σ.1 k f) else if ky_ty (ky_cl k) f = 1 then ky_r G (ky_lk k f) else .long (σ.2 k)
def ky_bl (i : Nat) : Option Nat := if i = 0 then none else if i = 1 then some 2 else if i < 5 then some 24 else if i = 5 then some 72 else if i = 6 then some 96 else if i < 9 then some 4 else some 6
/-- the rows of ints -/
def ky_len (L k : Nat) : Option Nat := if k = 4 then some 4 else if k = 6 then some 60 else if k = 8 then some 283 else if k = 9 then some 1698 else if k = 10 then some 60 else if k = 11 then some 66 else if k = 12 then some 4
  else if k = 13 then some 4 else if k = 14 then some 4 else if k = 15 then some L else if 20 ≤ k ∧ k < 111 then ky_bl ((k - 20) % 13) else none
def ky_ro (k : Nat) : Bool := k == 13 || (k == 14 || k == 15)
def ky_us (k : Nat) : Bool := (decide (k < 17) && decide (k ≠ 1)) || (decide (20 ≤ k) && decide (k < 111))
def ky_arr (G : ky_G) (U : State) (σ : ky_St) (H : Heap) (k n : Nat) : Prop :=
  (ky_ro k = true ∧ va_X (G.2.1 k) n (σ.1 k) U H) ∨ (ky_ro k = false ∧ H[G.2.1 k]? = some (vp_cell G.2.2.2.2.2 (n, .inl (σ.1 k))))
def ky_ring (G : ky_G) (U : State) (H : Heap) : Prop := ∃ scr : Cell, H[G.2.1 5]? = some scr ∧ U.isArrayOf scr (.object RX0) ∧ scr.vm ≠ .unknown ∧ scr.slots.size = 6 ∧ ∀ j : Nat, j < 6 → scr.slots[j]? = some (ky_r G (33 + 13 * j))
def ky_out (G : ky_G) (U : State) (σ : ky_St) (H : Heap) : Prop := ∃ scr : Cell, H[G.2.1 16]? = some scr ∧ U.isArrayOf scr .long ∧ scr.vm ≠ .unknown ∧ scr.slots.size = 1 ∧ scr.slots[0]? = some (.long (σ.2 16))
/-- the heap holds the layout -/
def ky_M (G : ky_G) (U : State) (σ : ky_St) (H : Heap) : Prop :=
  (∀ k, ky_cl k < 5 → t_OB (G.2.1 k) (G.2.2.2.2.1.1 (ky_cl k)) (ky_N (ky_cl k)) (G.2.2.2.2.1.2 (ky_cl k)) H (ky_val G σ k)) ∧
  (∀ k n, ky_len G.2.2.2.1 k = some n → ky_arr G U σ H k n) ∧ ky_ring G U H ∧ ky_out G U σ H
def ky_I (G : ky_G) : Prop := G.1.stackTraces = false ∧ (∀ j k, ky_us j = true → ky_us k = true → ky_ro k = false → G.2.1 j = G.2.1 k → j = k) ∧ ∀ k, ky_us k = true → ky_ro k = false → ky_A G (G.2.1 k)
def ky_nest : List Cond := [.methodLinkNest RX3 25 yX2_init RX3, .methodLinkNest RX0 105 yX3_add RX3, .methodLinkNest RX0 70 yX3_copy RX3, .methodLinkNest RX0 78 yX3_at RX3, .methodLinkNest RX0 98 yX3_put RX3, .methodLinkNest RX2 19 yX3_put RX3, .methodLinkNest RX2 26 yX3_at RX3, .declares (Bundle.initS "java/lang/RuntimeException"), .declares (Bundle.initS "java/lang/Exception"), .declares (Bundle.initS Bundle.tN), .fieldLinkNest RX0 85 RX3 "WHOLE" "[I" RX3, .fieldLinkNest RX0 102 RX3 "PRICE" "[I" RX3]
def ky_ex1 : String := "java/lang/IllegalArgumentException"
def ky_ex2 : String := "java/lang/IllegalStateException"
def ky_ex3 : String := "java/lang/IndexOutOfBoundsException"
def ky_ws : List Cond := lw_tbl.filter goodWord
/-- what the tables and the statics say of a state -/
def ky_E (G : ky_G) (U : State) (H : Heap) : Prop :=
  (∀ (c : Nat) (q : vw_C), ky_cls[c]? = some q → u_Kn U q.1 q.2.1 q.2.2 (G.2.2.2.2.1.1 c) (G.2.2.2.2.1.2 c)) ∧ (ArrOfT U G.2.2.2.2.2 .int) ∧
  (∀ q ∈ ky_nest, va_Nw q U) ∧ (∀ q ∈ ky_strs, ∃ sa, vk_R RX3 q.1 q.2 sa U) ∧
  (∀ a ∈ [ky_ex1, ky_ex2, ky_ex3], ∀ b ∈ [ky_ex1, ky_ex2, ky_ex3], a ≠ b → va_Nc a b U) ∧ (∀ a ∈ [ky_ex1, ky_ex2, ky_ex3], va_Nw (.castable a a) U) ∧
  vx_Zq Bundle.tN "UNASSIGNED_STACK" Bundle.steD (ky_A G) U H ∧ vx_Zq Bundle.tN "SUPPRESSED_SENTINEL" Bundle.listD (ky_A G) U H ∧
  va_Z RX3 "WHOLE" "[I" (ky_r G 13) (ky_A G) U H ∧ va_Z RX3 "PRICE" "[I" (ky_r G 14) (ky_A G) U H

def ky_C (G : ky_G) (M : ky_Md) (d : Nat) (p : Program) (R : Room) (s : State) (m : MethodId) (args : Array Value) (meth : Method) (c : Code) (mc ms : Nat) : Prop :=
  p.tables.exec = Jvm.exec ∧ c.code = M.2.1 ∧ meth.sig.returnType = M.2.2.2.1 ∧ c.maxLocals = M.2.2.1 ∧ s.vm.findClass M.1.cls = some m.cls ∧ (∀ w ∈ ky_ws, w.before args s = true) ∧ ky_E G s s.heap ∧ meth.locks = false ∧
  c.exceptionTable.toList = tableOf M.2.2.2.2 ∧ ky_I G ∧ G.2.2.1 ≤ s.heap.size ∧ d ≤ R.frames ∧ 35 * d ≤ R.locals ∧ mc ≤ R.cells ∧ ms ≤ R.slots
def ky_Qc (G : ky_G) (o : ky_O) (σ' : ky_St) : Array Value → State → Outcome → State → Prop := fun _ st oc t => ∃ v : Option Value, oc = .returned v ∧ o = .inr v ∧ ky_M G t σ' t.heap ∧ va_F (ky_A G) st t
def ky_XC (G : ky_G) (o : ky_O) (σ' : ky_St) : String → State → State → Prop := fun E st t => o = .inl E ∧ ky_M G t σ' t.heap ∧ va_F (ky_A G) st t
/-- from here the method M ends with o, and the state σ' -/
def ky_T (G : ky_G) (M : ky_Md) (d kc ks pc : Nat) (lv : List (Nat × Value)) (st : List Value) (σ : ky_St) (o : ky_O) (σ' : ky_St) : Prop :=
  ∀ (p : Program) (e : Env) (R : Room) (s : State) (m : MethodId) (args : Array Value) (below : List Frame) (meth : Method) (c : Code) (H : Heap) (locs : List Loc) (cells slots mc ms : Nat) (ls : Array Slot),
    ky_C G M d p R s m args meth c mc ms → va_S (ky_A G) s.heap H locs → ky_M G s σ H → lv_has ls M.2.2.1 lv → cells + kc ≤ mc → slots + ks ≤ ms →
    W p G.1 e R s m args below meth c H locs cells slots (vx_MQ below (ky_Qc G o σ') (ky_XC G o σ') args s mc ms (ky_A G)) (F0 m pc ls st)
section KYrows
variable {G : ky_G} {M : ky_Md} {d kc ks pc n : Nat} {lv lv' : List (Nat × Value)} {st : List Value} {σ σ' : ky_St} {o : ky_O}

theorem ky_iconst {i : Int} {v : Int32} (hd : decode M.2.1 pc = .ok (.iconst i, 1)) (hn : pc + 1 = n) (hv : Int32.ofInt i = v) (k : ky_T G M d kc ks n lv (.int v :: st) σ o σ') : ky_T G M d kc ks pc lv (st) σ o σ' := by
  intro p e R s m args below meth c H locs cells slots mc ms ls C hS hM hl h1 h2
  subst hn
  exact lv_iconst C.1 C.2.1 hd hv (k p e R s m args below meth c H locs cells slots mc ms ls C hS hM hl h1 h2)
theorem ky_bipush {i : Int} {v : Int32} (hd : decode M.2.1 pc = .ok (.bipush i, 2)) (hn : pc + 2 = n) (hv : (Int8.ofInt i).toInt32 = v) (k : ky_T G M d kc ks n lv (.int v :: st) σ o σ') : ky_T G M d kc ks pc lv (st) σ o σ' := by
  intro p e R s m args below meth c H locs cells slots mc ms ls C hS hM hl h1 h2
  subst hn
  exact lv_bipush C.1 C.2.1 hd hv (k p e R s m args below meth c H locs cells slots mc ms ls C hS hM hl h1 h2)
theorem ky_sipush {i : Int} {v : Int32} (hd : decode M.2.1 pc = .ok (.sipush i, 3)) (hn : pc + 3 = n) (hv : (Int16.ofInt i).toInt32 = v) (k : ky_T G M d kc ks n lv (.int v :: st) σ o σ') : ky_T G M d kc ks pc lv (st) σ o σ' := by
  intro p e R s m args below meth c H locs cells slots mc ms ls C hS hM hl h1 h2
  subst hn
  exact lv_sipush C.1 C.2.1 hd hv (k p e R s m args below meth c H locs cells slots mc ms ls C hS hM hl h1 h2)
theorem ky_lconst {i : Fin 2} {v : Int64} (hd : decode M.2.1 pc = .ok (.lconst i, 1)) (hn : pc + 1 = n) (hv : Int64.ofNat (i : Nat) = v) (k : ky_T G M d kc ks n lv (.long v :: st) σ o σ') : ky_T G M d kc ks pc lv (st) σ o σ' := by
  intro p e R s m args below meth c H locs cells slots mc ms ls C hS hM hl h1 h2
  subst hn
  exact lv_lconst C.1 C.2.1 hd hv (k p e R s m args below meth c H locs cells slots mc ms ls C hS hM hl h1 h2)
theorem ky_dconst0  (hd : decode M.2.1 pc = .ok (.dconst 0, 1)) (hn : pc + 1 = n) (k : ky_T G M d kc ks n lv (.double FP.dconst0 :: st) σ o σ') : ky_T G M d kc ks pc lv (st) σ o σ' := by
  intro p e R s m args below meth c H locs cells slots mc ms ls C hS hM hl h1 h2
  subst hn
  exact lv_dconst0 C.1 C.2.1 hd (k p e R s m args below meth c H locs cells slots mc ms ls C hS hM hl h1 h2)
theorem ky_dconst1  (hd : decode M.2.1 pc = .ok (.dconst 1, 1)) (hn : pc + 1 = n) (k : ky_T G M d kc ks n lv (.double FP.dconst1 :: st) σ o σ') : ky_T G M d kc ks pc lv (st) σ o σ' := by
  intro p e R s m args below meth c H locs cells slots mc ms ls C hS hM hl h1 h2
  subst hn
  exact lv_dconst1 C.1 C.2.1 hd (k p e R s m args below meth c H locs cells slots mc ms ls C hS hM hl h1 h2)
theorem ky_null  (hd : decode M.2.1 pc = .ok (.aconst_null, 1)) (hn : pc + 1 = n) (k : ky_T G M d kc ks n lv (.null :: st) σ o σ') : ky_T G M d kc ks pc lv (st) σ o σ' := by
  intro p e R s m args below meth c H locs cells slots mc ms ls C hS hM hl h1 h2
  subst hn
  exact lv_null C.1 C.2.1 hd (k p e R s m args below meth c H locs cells slots mc ms ls C hS hM hl h1 h2)
theorem ky_iload_n {q : Fin 4} {i : Nat} {x : Int32} (hd : decode M.2.1 pc = .ok (.iload_n q, 1)) (hn : pc + 1 = n) (hi : (q : Nat) = i) (t : Nat) (hk : lv[t]? = some (i, .int x)) (k : ky_T G M d kc ks n lv (.int x :: st) σ o σ') : ky_T G M d kc ks pc lv (st) σ o σ' := by
  intro p e R s m args below meth c H locs cells slots mc ms ls C hS hM hl h1 h2
  subst hn
  exact lv_iload_n C.1 C.2.1 hd hi (lv_at hl t hk) (k p e R s m args below meth c H locs cells slots mc ms ls C hS hM hl h1 h2)
theorem ky_iload {i : Nat} {x : Int32} (hd : decode M.2.1 pc = .ok (.iload i, 2)) (hn : pc + 2 = n) (t : Nat) (hk : lv[t]? = some (i, .int x)) (k : ky_T G M d kc ks n lv (.int x :: st) σ o σ') : ky_T G M d kc ks pc lv (st) σ o σ' := by
  intro p e R s m args below meth c H locs cells slots mc ms ls C hS hM hl h1 h2
  subst hn
  exact lv_iload C.1 C.2.1 hd (lv_at hl t hk) (k p e R s m args below meth c H locs cells slots mc ms ls C hS hM hl h1 h2)
theorem ky_istore_n {q : Fin 4} {i : Nat} {x : Int32} (hd : decode M.2.1 pc = .ok (.istore_n q, 1)) (hn : pc + 1 = n) (hi : (q : Nat) = i) (hb : i < M.2.2.1) (hk : (i, Value.int x) :: lv.filter (fun q => !(q.1 == i) && !(q.1 + 1 == i && q.2.category == 2)) = lv') (k : ky_T G M d kc ks n lv' (st) σ o σ') : ky_T G M d kc ks pc lv (.int x :: st) σ o σ' := by
  intro p e R s m args below meth c H locs cells slots mc ms ls C hS hM hl h1 h2
  subst hn
  exact lv_istore_n C.1 C.2.1 hd hi hl hb hk (fun ls2 hl2 => k p e R s m args below meth c H locs cells slots mc ms ls2 C hS hM hl2 h1 h2)
theorem ky_istore {i : Nat} {x : Int32} (hd : decode M.2.1 pc = .ok (.istore i, 2)) (hn : pc + 2 = n) (hb : i < M.2.2.1) (hk : (i, Value.int x) :: lv.filter (fun q => !(q.1 == i) && !(q.1 + 1 == i && q.2.category == 2)) = lv') (k : ky_T G M d kc ks n lv' (st) σ o σ') : ky_T G M d kc ks pc lv (.int x :: st) σ o σ' := by
  intro p e R s m args below meth c H locs cells slots mc ms ls C hS hM hl h1 h2
  subst hn
  exact lv_istore C.1 C.2.1 hd hl hb hk (fun ls2 hl2 => k p e R s m args below meth c H locs cells slots mc ms ls2 C hS hM hl2 h1 h2)
theorem ky_lload_n {q : Fin 4} {i : Nat} {x : Int64} (hd : decode M.2.1 pc = .ok (.lload_n q, 1)) (hn : pc + 1 = n) (hi : (q : Nat) = i) (t : Nat) (hk : lv[t]? = some (i, .long x)) (k : ky_T G M d kc ks n lv (.long x :: st) σ o σ') : ky_T G M d kc ks pc lv (st) σ o σ' := by
  intro p e R s m args below meth c H locs cells slots mc ms ls C hS hM hl h1 h2
  subst hn
  exact lv_lload_n C.1 C.2.1 hd hi (lv_at hl t hk) (k p e R s m args below meth c H locs cells slots mc ms ls C hS hM hl h1 h2)
theorem ky_lload {i : Nat} {x : Int64} (hd : decode M.2.1 pc = .ok (.lload i, 2)) (hn : pc + 2 = n) (t : Nat) (hk : lv[t]? = some (i, .long x)) (k : ky_T G M d kc ks n lv (.long x :: st) σ o σ') : ky_T G M d kc ks pc lv (st) σ o σ' := by
  intro p e R s m args below meth c H locs cells slots mc ms ls C hS hM hl h1 h2
  subst hn
  exact lv_lload C.1 C.2.1 hd (lv_at hl t hk) (k p e R s m args below meth c H locs cells slots mc ms ls C hS hM hl h1 h2)
theorem ky_lstore_n {q : Fin 4} {i : Nat} {x : Int64} (hd : decode M.2.1 pc = .ok (.lstore_n q, 1)) (hn : pc + 1 = n) (hi : (q : Nat) = i) (hb : i + 1 < M.2.2.1) (hk : (i, Value.long x) :: lv.filter (fun q => !(q.1 == i) && (!(q.1 == i + 1) && !(q.1 + 1 == i && q.2.category == 2))) = lv') (k : ky_T G M d kc ks n lv' (st) σ o σ') : ky_T G M d kc ks pc lv (.long x :: st) σ o σ' := by
  intro p e R s m args below meth c H locs cells slots mc ms ls C hS hM hl h1 h2
  subst hn
  exact lv_lstore_n C.1 C.2.1 hd hi hl hb hk (fun ls2 hl2 => k p e R s m args below meth c H locs cells slots mc ms ls2 C hS hM hl2 h1 h2)
theorem ky_lstore {i : Nat} {x : Int64} (hd : decode M.2.1 pc = .ok (.lstore i, 2)) (hn : pc + 2 = n) (hb : i + 1 < M.2.2.1) (hk : (i, Value.long x) :: lv.filter (fun q => !(q.1 == i) && (!(q.1 == i + 1) && !(q.1 + 1 == i && q.2.category == 2))) = lv') (k : ky_T G M d kc ks n lv' (st) σ o σ') : ky_T G M d kc ks pc lv (.long x :: st) σ o σ' := by
  intro p e R s m args below meth c H locs cells slots mc ms ls C hS hM hl h1 h2
  subst hn
  exact lv_lstore C.1 C.2.1 hd hl hb hk (fun ls2 hl2 => k p e R s m args below meth c H locs cells slots mc ms ls2 C hS hM hl2 h1 h2)
theorem ky_dload_n {q : Fin 4} {i : Nat} {x : UInt64} (hd : decode M.2.1 pc = .ok (.dload_n q, 1)) (hn : pc + 1 = n) (hi : (q : Nat) = i) (t : Nat) (hk : lv[t]? = some (i, .double x)) (k : ky_T G M d kc ks n lv (.double x :: st) σ o σ') : ky_T G M d kc ks pc lv (st) σ o σ' := by
  intro p e R s m args below meth c H locs cells slots mc ms ls C hS hM hl h1 h2
  subst hn
  exact lv_dload_n C.1 C.2.1 hd hi (lv_at hl t hk) (k p e R s m args below meth c H locs cells slots mc ms ls C hS hM hl h1 h2)
theorem ky_dload {i : Nat} {x : UInt64} (hd : decode M.2.1 pc = .ok (.dload i, 2)) (hn : pc + 2 = n) (t : Nat) (hk : lv[t]? = some (i, .double x)) (k : ky_T G M d kc ks n lv (.double x :: st) σ o σ') : ky_T G M d kc ks pc lv (st) σ o σ' := by
  intro p e R s m args below meth c H locs cells slots mc ms ls C hS hM hl h1 h2
  subst hn
  exact lv_dload C.1 C.2.1 hd (lv_at hl t hk) (k p e R s m args below meth c H locs cells slots mc ms ls C hS hM hl h1 h2)
theorem ky_dstore_n {q : Fin 4} {i : Nat} {x : UInt64} (hd : decode M.2.1 pc = .ok (.dstore_n q, 1)) (hn : pc + 1 = n) (hi : (q : Nat) = i) (hb : i + 1 < M.2.2.1) (hk : (i, Value.double x) :: lv.filter (fun q => !(q.1 == i) && (!(q.1 == i + 1) && !(q.1 + 1 == i && q.2.category == 2))) = lv') (k : ky_T G M d kc ks n lv' (st) σ o σ') : ky_T G M d kc ks pc lv (.double x :: st) σ o σ' := by
  intro p e R s m args below meth c H locs cells slots mc ms ls C hS hM hl h1 h2
  subst hn
  exact lv_dstore_n C.1 C.2.1 hd hi hl hb hk (fun ls2 hl2 => k p e R s m args below meth c H locs cells slots mc ms ls2 C hS hM hl2 h1 h2)
theorem ky_dstore {i : Nat} {x : UInt64} (hd : decode M.2.1 pc = .ok (.dstore i, 2)) (hn : pc + 2 = n) (hb : i + 1 < M.2.2.1) (hk : (i, Value.double x) :: lv.filter (fun q => !(q.1 == i) && (!(q.1 == i + 1) && !(q.1 + 1 == i && q.2.category == 2))) = lv') (k : ky_T G M d kc ks n lv' (st) σ o σ') : ky_T G M d kc ks pc lv (.double x :: st) σ o σ' := by
  intro p e R s m args below meth c H locs cells slots mc ms ls C hS hM hl h1 h2
  subst hn
  exact lv_dstore C.1 C.2.1 hd hl hb hk (fun ls2 hl2 => k p e R s m args below meth c H locs cells slots mc ms ls2 C hS hM hl2 h1 h2)
theorem ky_aload_n {q : Fin 4} {i : Nat} {x : Nat} (hd : decode M.2.1 pc = .ok (.aload_n q, 1)) (hn : pc + 1 = n) (hi : (q : Nat) = i) (t : Nat) (hk : lv[t]? = some (i, .ref x)) (k : ky_T G M d kc ks n lv (.ref x :: st) σ o σ') : ky_T G M d kc ks pc lv (st) σ o σ' := by
  intro p e R s m args below meth c H locs cells slots mc ms ls C hS hM hl h1 h2
  subst hn
  exact lv_aload_n C.1 C.2.1 hd hi (lv_at hl t hk) (k p e R s m args below meth c H locs cells slots mc ms ls C hS hM hl h1 h2)
theorem ky_aload {i : Nat} {x : Nat} (hd : decode M.2.1 pc = .ok (.aload i, 2)) (hn : pc + 2 = n) (t : Nat) (hk : lv[t]? = some (i, .ref x)) (k : ky_T G M d kc ks n lv (.ref x :: st) σ o σ') : ky_T G M d kc ks pc lv (st) σ o σ' := by
  intro p e R s m args below meth c H locs cells slots mc ms ls C hS hM hl h1 h2
  subst hn
  exact lv_aload C.1 C.2.1 hd (lv_at hl t hk) (k p e R s m args below meth c H locs cells slots mc ms ls C hS hM hl h1 h2)
theorem ky_astore_n {q : Fin 4} {i : Nat} {x : Nat} (hd : decode M.2.1 pc = .ok (.astore_n q, 1)) (hn : pc + 1 = n) (hi : (q : Nat) = i) (hb : i < M.2.2.1) (hk : (i, Value.ref x) :: lv.filter (fun q => !(q.1 == i) && !(q.1 + 1 == i && q.2.category == 2)) = lv') (k : ky_T G M d kc ks n lv' (st) σ o σ') : ky_T G M d kc ks pc lv (.ref x :: st) σ o σ' := by
  intro p e R s m args below meth c H locs cells slots mc ms ls C hS hM hl h1 h2
  subst hn
  exact lv_astore_n C.1 C.2.1 hd hi hl hb hk (fun ls2 hl2 => k p e R s m args below meth c H locs cells slots mc ms ls2 C hS hM hl2 h1 h2)
theorem ky_astore {i : Nat} {x : Nat} (hd : decode M.2.1 pc = .ok (.astore i, 2)) (hn : pc + 2 = n) (hb : i < M.2.2.1) (hk : (i, Value.ref x) :: lv.filter (fun q => !(q.1 == i) && !(q.1 + 1 == i && q.2.category == 2)) = lv') (k : ky_T G M d kc ks n lv' (st) σ o σ') : ky_T G M d kc ks pc lv (.ref x :: st) σ o σ' := by
  intro p e R s m args below meth c H locs cells slots mc ms ls C hS hM hl h1 h2
  subst hn
  exact lv_astore C.1 C.2.1 hd hl hb hk (fun ls2 hl2 => k p e R s m args below meth c H locs cells slots mc ms ls2 C hS hM hl2 h1 h2)
theorem ky_aload_nN {q : Fin 4} {i : Nat} (hd : decode M.2.1 pc = .ok (.aload_n q, 1)) (hn : pc + 1 = n) (hi : (q : Nat) = i) (t : Nat) (hk : lv[t]? = some (i, .null)) (k : ky_T G M d kc ks n lv (.null :: st) σ o σ') : ky_T G M d kc ks pc lv (st) σ o σ' := by
  intro p e R s m args below meth c H locs cells slots mc ms ls C hS hM hl h1 h2
  subst hn
  exact lv_aload_nN C.1 C.2.1 hd hi (lv_at hl t hk) (k p e R s m args below meth c H locs cells slots mc ms ls C hS hM hl h1 h2)
theorem ky_iinc {i : Nat} {j : Int} {x v : Int32} (hd : decode M.2.1 pc = .ok (.iinc i j, 3)) (hn : pc + 3 = n) (t : Nat) (hk : lv[t]? = some (i, .int x)) (hv : x + Int32.ofInt j = v) (hb : i < M.2.2.1) (hk2 : (i, Value.int v) :: lv.filter (fun q => !(q.1 == i) && !(q.1 + 1 == i && q.2.category == 2)) = lv') (k : ky_T G M d kc ks n lv' (st) σ o σ') : ky_T G M d kc ks pc lv (st) σ o σ' := by
  intro p e R s m args below meth c H locs cells slots mc ms ls C hS hM hl h1 h2
  subst hn
  exact lv_iinc C.1 C.2.1 hd hl hk hv hb hk2 (fun ls2 hl2 => k p e R s m args below meth c H locs cells slots mc ms ls2 C hS hM hl2 h1 h2)
theorem ky_iadd {x y : Int32} (hd : decode M.2.1 pc = .ok (.iadd, 1)) (hn : pc + 1 = n) (k : ky_T G M d kc ks n lv (.int (x + y) :: st) σ o σ') : ky_T G M d kc ks pc lv (.int y :: .int x :: st) σ o σ' := by
  intro p e R s m args below meth c H locs cells slots mc ms ls C hS hM hl h1 h2
  subst hn
  exact lv_iadd C.1 C.2.1 hd (k p e R s m args below meth c H locs cells slots mc ms ls C hS hM hl h1 h2)
theorem ky_isub {x y : Int32} (hd : decode M.2.1 pc = .ok (.isub, 1)) (hn : pc + 1 = n) (k : ky_T G M d kc ks n lv (.int (x - y) :: st) σ o σ') : ky_T G M d kc ks pc lv (.int y :: .int x :: st) σ o σ' := by
  intro p e R s m args below meth c H locs cells slots mc ms ls C hS hM hl h1 h2
  subst hn
  exact lv_isub C.1 C.2.1 hd (k p e R s m args below meth c H locs cells slots mc ms ls C hS hM hl h1 h2)
theorem ky_imul {x y : Int32} (hd : decode M.2.1 pc = .ok (.imul, 1)) (hn : pc + 1 = n) (k : ky_T G M d kc ks n lv (.int (x * y) :: st) σ o σ') : ky_T G M d kc ks pc lv (.int y :: .int x :: st) σ o σ' := by
  intro p e R s m args below meth c H locs cells slots mc ms ls C hS hM hl h1 h2
  subst hn
  exact lv_imul C.1 C.2.1 hd (k p e R s m args below meth c H locs cells slots mc ms ls C hS hM hl h1 h2)
theorem ky_iand {x y : Int32} (hd : decode M.2.1 pc = .ok (.iand, 1)) (hn : pc + 1 = n) (k : ky_T G M d kc ks n lv (.int (x &&& y) :: st) σ o σ') : ky_T G M d kc ks pc lv (.int y :: .int x :: st) σ o σ' := by
  intro p e R s m args below meth c H locs cells slots mc ms ls C hS hM hl h1 h2
  subst hn
  exact lv_iand C.1 C.2.1 hd (k p e R s m args below meth c H locs cells slots mc ms ls C hS hM hl h1 h2)
theorem ky_ladd {x y : Int64} (hd : decode M.2.1 pc = .ok (.ladd, 1)) (hn : pc + 1 = n) (k : ky_T G M d kc ks n lv (.long (x + y) :: st) σ o σ') : ky_T G M d kc ks pc lv (.long y :: .long x :: st) σ o σ' := by
  intro p e R s m args below meth c H locs cells slots mc ms ls C hS hM hl h1 h2
  subst hn
  exact lv_ladd C.1 C.2.1 hd (k p e R s m args below meth c H locs cells slots mc ms ls C hS hM hl h1 h2)
theorem ky_lsub {x y : Int64} (hd : decode M.2.1 pc = .ok (.lsub, 1)) (hn : pc + 1 = n) (k : ky_T G M d kc ks n lv (.long (x - y) :: st) σ o σ') : ky_T G M d kc ks pc lv (.long y :: .long x :: st) σ o σ' := by
  intro p e R s m args below meth c H locs cells slots mc ms ls C hS hM hl h1 h2
  subst hn
  exact lv_lsub C.1 C.2.1 hd (k p e R s m args below meth c H locs cells slots mc ms ls C hS hM hl h1 h2)
theorem ky_lmul {x y : Int64} (hd : decode M.2.1 pc = .ok (.lmul, 1)) (hn : pc + 1 = n) (k : ky_T G M d kc ks n lv (.long (x * y) :: st) σ o σ') : ky_T G M d kc ks pc lv (.long y :: .long x :: st) σ o σ' := by
  intro p e R s m args below meth c H locs cells slots mc ms ls C hS hM hl h1 h2
  subst hn
  exact lv_lmul C.1 C.2.1 hd (k p e R s m args below meth c H locs cells slots mc ms ls C hS hM hl h1 h2)
theorem ky_idiv {x y : Int32} (hd : decode M.2.1 pc = .ok (.idiv, 1)) (hn : pc + 1 = n) (hne : ¬ y = 0) (k : ky_T G M d kc ks n lv (.int (x / y) :: st) σ o σ') : ky_T G M d kc ks pc lv (.int y :: .int x :: st) σ o σ' := by
  intro p e R s m args below meth c H locs cells slots mc ms ls C hS hM hl h1 h2
  subst hn
  exact lv_idiv C.1 C.2.1 hd hne (k p e R s m args below meth c H locs cells slots mc ms ls C hS hM hl h1 h2)
theorem ky_irem {x y : Int32} (hd : decode M.2.1 pc = .ok (.irem, 1)) (hn : pc + 1 = n) (hne : ¬ y = 0) (k : ky_T G M d kc ks n lv (.int (x - x / y * y) :: st) σ o σ') : ky_T G M d kc ks pc lv (.int y :: .int x :: st) σ o σ' := by
  intro p e R s m args below meth c H locs cells slots mc ms ls C hS hM hl h1 h2
  subst hn
  exact lv_irem C.1 C.2.1 hd hne (k p e R s m args below meth c H locs cells slots mc ms ls C hS hM hl h1 h2)
theorem ky_ineg {x : Int32} (hd : decode M.2.1 pc = .ok (.ineg, 1)) (hn : pc + 1 = n) (k : ky_T G M d kc ks n lv (.int (-x) :: st) σ o σ') : ky_T G M d kc ks pc lv (.int x :: st) σ o σ' := by
  intro p e R s m args below meth c H locs cells slots mc ms ls C hS hM hl h1 h2
  subst hn
  exact lv_ineg C.1 C.2.1 hd (k p e R s m args below meth c H locs cells slots mc ms ls C hS hM hl h1 h2)
theorem ky_i2l {x : Int32} (hd : decode M.2.1 pc = .ok (.i2l, 1)) (hn : pc + 1 = n) (k : ky_T G M d kc ks n lv (.long x.toInt64 :: st) σ o σ') : ky_T G M d kc ks pc lv (.int x :: st) σ o σ' := by
  intro p e R s m args below meth c H locs cells slots mc ms ls C hS hM hl h1 h2
  subst hn
  exact lv_i2l C.1 C.2.1 hd rfl (k p e R s m args below meth c H locs cells slots mc ms ls C hS hM hl h1 h2)
theorem ky_i2d {x : Int32} (hd : decode M.2.1 pc = .ok (.i2d, 1)) (hn : pc + 1 = n) (k : ky_T G M d kc ks n lv (.double (FP.i2d x) :: st) σ o σ') : ky_T G M d kc ks pc lv (.int x :: st) σ o σ' := by
  intro p e R s m args below meth c H locs cells slots mc ms ls C hS hM hl h1 h2
  subst hn
  exact lv_i2d C.1 C.2.1 hd (k p e R s m args below meth c H locs cells slots mc ms ls C hS hM hl h1 h2)
theorem ky_d2l {x : UInt64} (hd : decode M.2.1 pc = .ok (.d2l, 1)) (hn : pc + 1 = n) (k : ky_T G M d kc ks n lv (.long (FP.d2l x) :: st) σ o σ') : ky_T G M d kc ks pc lv (.double x :: st) σ o σ' := by
  intro p e R s m args below meth c H locs cells slots mc ms ls C hS hM hl h1 h2
  subst hn
  exact lv_d2l C.1 C.2.1 hd (k p e R s m args below meth c H locs cells slots mc ms ls C hS hM hl h1 h2)
theorem ky_ddiv {x y : UInt64} (hd : decode M.2.1 pc = .ok (.ddiv, 1)) (hn : pc + 1 = n) (hne : vf_n64 (FP.ddiv x y)) (k : ky_T G M d kc ks n lv (.double (FP.ddiv x y) :: st) σ o σ') : ky_T G M d kc ks pc lv (.double y :: .double x :: st) σ o σ' := by
  intro p e R s m args below meth c H locs cells slots mc ms ls C hS hM hl h1 h2
  subst hn
  exact lv_ddiv C.1 C.2.1 hd hne (k p e R s m args below meth c H locs cells slots mc ms ls C hS hM hl h1 h2)
theorem ky_dmul {x y : UInt64} (hd : decode M.2.1 pc = .ok (.dmul, 1)) (hn : pc + 1 = n) (hne : vf_n64 (FP.dmul x y)) (k : ky_T G M d kc ks n lv (.double (FP.dmul x y) :: st) σ o σ') : ky_T G M d kc ks pc lv (.double y :: .double x :: st) σ o σ' := by
  intro p e R s m args below meth c H locs cells slots mc ms ls C hS hM hl h1 h2
  subst hn
  exact lv_dmul C.1 C.2.1 hd hne (k p e R s m args below meth c H locs cells slots mc ms ls C hS hM hl h1 h2)
theorem ky_dsub {x y : UInt64} (hd : decode M.2.1 pc = .ok (.dsub, 1)) (hn : pc + 1 = n) (hne : vf_n64 (FP.dsub x y)) (k : ky_T G M d kc ks n lv (.double (FP.dsub x y) :: st) σ o σ') : ky_T G M d kc ks pc lv (.double y :: .double x :: st) σ o σ' := by
  intro p e R s m args below meth c H locs cells slots mc ms ls C hS hM hl h1 h2
  subst hn
  exact lv_dsub C.1 C.2.1 hd hne (k p e R s m args below meth c H locs cells slots mc ms ls C hS hM hl h1 h2)
theorem ky_dcmp {x y : UInt64} {op : CmpOp} (hd : decode M.2.1 pc = .ok (.dcmp op, 1)) (hn : pc + 1 = n) (k : ky_T G M d kc ks n lv (.int (Op.cmpValue (FP.dcmp x y) op) :: st) σ o σ') : ky_T G M d kc ks pc lv (.double y :: .double x :: st) σ o σ' := by
  intro p e R s m args below meth c H locs cells slots mc ms ls C hS hM hl h1 h2
  subst hn
  exact lv_dcmp C.1 C.2.1 hd (k p e R s m args below meth c H locs cells slots mc ms ls C hS hM hl h1 h2)
theorem ky_lcmp {x y : Int64} (hd : decode M.2.1 pc = .ok (.lcmp, 1)) (hn : pc + 1 = n) (k : ky_T G M d kc ks n lv (.int (lg_cmp x y) :: st) σ o σ') : ky_T G M d kc ks pc lv (.long y :: .long x :: st) σ o σ' := by
  intro p e R s m args below meth c H locs cells slots mc ms ls C hS hM hl h1 h2
  subst hn
  exact W.lcmp C.1 C.2.1 hd (k p e R s m args below meth c H locs cells slots mc ms ls C hS hM hl h1 h2)
theorem ky_lshl {x : Int64} {y : Int32} (hd : decode M.2.1 pc = .ok (.lshl, 1)) (hn : pc + 1 = n) (k : ky_T G M d kc ks n lv (.long (x <<< (y.toInt64 &&& 63)) :: st) σ o σ') : ky_T G M d kc ks pc lv (.int y :: .long x :: st) σ o σ' := by
  intro p e R s m args below meth c H locs cells slots mc ms ls C hS hM hl h1 h2
  subst hn
  exact lv_lshl C.1 C.2.1 hd rfl (k p e R s m args below meth c H locs cells slots mc ms ls C hS hM hl h1 h2)
theorem ky_dup {v : Value} (hd : decode M.2.1 pc = .ok (.dup, 1)) (hn : pc + 1 = n) (hv : v.category = 1) (k : ky_T G M d kc ks n lv (v :: v :: st) σ o σ') : ky_T G M d kc ks pc lv (v :: st) σ o σ' := by
  intro p e R s m args below meth c H locs cells slots mc ms ls C hS hM hl h1 h2
  subst hn
  exact lv_dup C.1 C.2.1 hd hv (k p e R s m args below meth c H locs cells slots mc ms ls C hS hM hl h1 h2)
theorem ky_dup2 {v w : Value} (hd : decode M.2.1 pc = .ok (.dup2, 1)) (hn : pc + 1 = n) (hv : v.category = 1) (hw : w.category = 1) (k : ky_T G M d kc ks n lv (v :: w :: v :: w :: st) σ o σ') : ky_T G M d kc ks pc lv (v :: w :: st) σ o σ' := by
  intro p e R s m args below meth c H locs cells slots mc ms ls C hS hM hl h1 h2
  subst hn
  exact lv_dup2_11 C.1 C.2.1 hd hv hw (k p e R s m args below meth c H locs cells slots mc ms ls C hS hM hl h1 h2)
theorem ky_pop {v : Value} (hd : decode M.2.1 pc = .ok (.pop, 1)) (hn : pc + 1 = n) (hv : v.category = 1) (k : ky_T G M d kc ks n lv (st) σ o σ') : ky_T G M d kc ks pc lv (v :: st) σ o σ' := by
  intro p e R s m args below meth c H locs cells slots mc ms ls C hS hM hl h1 h2
  subst hn
  exact lv_pop C.1 C.2.1 hd hv (k p e R s m args below meth c H locs cells slots mc ms ls C hS hM hl h1 h2)
theorem ky_ldc2 {i : Nat} {v : Int64} (hd : decode M.2.1 pc = .ok (.ldc2_w i, 3)) (hn : pc + 3 = n) (hc : Cond.constantLong M.1.cls i v ∈ ky_ws) (k : ky_T G M d kc ks n lv (.long v :: st) σ o σ') : ky_T G M d kc ks pc lv (st) σ o σ' := by
  intro p e R s m args below meth c H locs cells slots mc ms ls C hS hM hl h1 h2
  subst hn
  exact lv_ldc2 C.1 C.2.1 C.2.2.2.2.1 (C.2.2.2.2.2.1 _ hc) hd (k p e R s m args below meth c H locs cells slots mc ms ls C hS hM hl h1 h2)
theorem ky_ldc2d {i : Nat} {v : UInt64} (hd : decode M.2.1 pc = .ok (.ldc2_w i, 3)) (hn : pc + 3 = n) (hc : Cond.constantDouble M.1.cls i v ∈ ky_ws) (k : ky_T G M d kc ks n lv (.double v :: st) σ o σ') : ky_T G M d kc ks pc lv (st) σ o σ' := by
  intro p e R s m args below meth c H locs cells slots mc ms ls C hS hM hl h1 h2
  subst hn
  exact lv_ldc2d C.1 C.2.1 C.2.2.2.2.1 (C.2.2.2.2.2.1 _ hc) hd (k p e R s m args below meth c H locs cells slots mc ms ls C hS hM hl h1 h2)
theorem ky_if_eq {x : Int32} {off : Int} {tgt : Nat} (hd : decode M.2.1 pc = .ok (.ifCond .eq off, 3)) (ht : (pc : Int) + off = (tgt : Int)) (hn : pc + 3 = n) (kt : x = 0 → ky_T G M d kc ks tgt lv st σ o σ') (kf : ¬ x = 0 → ky_T G M d kc ks n lv st σ o σ') : ky_T G M d kc ks pc lv (.int x :: st) σ o σ' := by
  intro p e R s m args below meth c H locs cells slots mc ms ls C hS hM hl h1 h2
  subst hn
  exact lv_if_eq C.1 C.2.1 hd ht (fun q => kt q p e R s m args below meth c H locs cells slots mc ms ls C hS hM hl h1 h2) (fun q => kf q p e R s m args below meth c H locs cells slots mc ms ls C hS hM hl h1 h2)
theorem ky_icmp_eq {x y : Int32} {off : Int} {tgt : Nat} (hd : decode M.2.1 pc = .ok (.if_icmp .eq off, 3)) (ht : (pc : Int) + off = (tgt : Int)) (hn : pc + 3 = n) (kt : x = y → ky_T G M d kc ks tgt lv st σ o σ') (kf : ¬ x = y → ky_T G M d kc ks n lv st σ o σ') : ky_T G M d kc ks pc lv (.int y :: .int x :: st) σ o σ' := by
  intro p e R s m args below meth c H locs cells slots mc ms ls C hS hM hl h1 h2
  subst hn
  exact lv_icmp_eq C.1 C.2.1 hd ht (fun q => kt q p e R s m args below meth c H locs cells slots mc ms ls C hS hM hl h1 h2) (fun q => kf q p e R s m args below meth c H locs cells slots mc ms ls C hS hM hl h1 h2)
theorem ky_if_ne {x : Int32} {off : Int} {tgt : Nat} (hd : decode M.2.1 pc = .ok (.ifCond .ne off, 3)) (ht : (pc : Int) + off = (tgt : Int)) (hn : pc + 3 = n) (kt : ¬ x = 0 → ky_T G M d kc ks tgt lv st σ o σ') (kf : x = 0 → ky_T G M d kc ks n lv st σ o σ') : ky_T G M d kc ks pc lv (.int x :: st) σ o σ' := by
  intro p e R s m args below meth c H locs cells slots mc ms ls C hS hM hl h1 h2
  subst hn
  exact lv_if_ne C.1 C.2.1 hd ht (fun q => kt q p e R s m args below meth c H locs cells slots mc ms ls C hS hM hl h1 h2) (fun q => kf q p e R s m args below meth c H locs cells slots mc ms ls C hS hM hl h1 h2)
theorem ky_icmp_ne {x y : Int32} {off : Int} {tgt : Nat} (hd : decode M.2.1 pc = .ok (.if_icmp .ne off, 3)) (ht : (pc : Int) + off = (tgt : Int)) (hn : pc + 3 = n) (kt : ¬ x = y → ky_T G M d kc ks tgt lv st σ o σ') (kf : x = y → ky_T G M d kc ks n lv st σ o σ') : ky_T G M d kc ks pc lv (.int y :: .int x :: st) σ o σ' := by
  intro p e R s m args below meth c H locs cells slots mc ms ls C hS hM hl h1 h2
  subst hn
  exact lv_icmp_ne C.1 C.2.1 hd ht (fun q => kt q p e R s m args below meth c H locs cells slots mc ms ls C hS hM hl h1 h2) (fun q => kf q p e R s m args below meth c H locs cells slots mc ms ls C hS hM hl h1 h2)
theorem ky_if_lt {x : Int32} {off : Int} {tgt : Nat} (hd : decode M.2.1 pc = .ok (.ifCond .lt off, 3)) (ht : (pc : Int) + off = (tgt : Int)) (hn : pc + 3 = n) (kt : x < 0 → ky_T G M d kc ks tgt lv st σ o σ') (kf : ¬ x < 0 → ky_T G M d kc ks n lv st σ o σ') : ky_T G M d kc ks pc lv (.int x :: st) σ o σ' := by
  intro p e R s m args below meth c H locs cells slots mc ms ls C hS hM hl h1 h2
  subst hn
  exact lv_if_lt C.1 C.2.1 hd ht (fun q => kt q p e R s m args below meth c H locs cells slots mc ms ls C hS hM hl h1 h2) (fun q => kf q p e R s m args below meth c H locs cells slots mc ms ls C hS hM hl h1 h2)
theorem ky_icmp_lt {x y : Int32} {off : Int} {tgt : Nat} (hd : decode M.2.1 pc = .ok (.if_icmp .lt off, 3)) (ht : (pc : Int) + off = (tgt : Int)) (hn : pc + 3 = n) (kt : x < y → ky_T G M d kc ks tgt lv st σ o σ') (kf : ¬ x < y → ky_T G M d kc ks n lv st σ o σ') : ky_T G M d kc ks pc lv (.int y :: .int x :: st) σ o σ' := by
  intro p e R s m args below meth c H locs cells slots mc ms ls C hS hM hl h1 h2
  subst hn
  exact lv_icmp_lt C.1 C.2.1 hd ht (fun q => kt q p e R s m args below meth c H locs cells slots mc ms ls C hS hM hl h1 h2) (fun q => kf q p e R s m args below meth c H locs cells slots mc ms ls C hS hM hl h1 h2)
theorem ky_if_ge {x : Int32} {off : Int} {tgt : Nat} (hd : decode M.2.1 pc = .ok (.ifCond .ge off, 3)) (ht : (pc : Int) + off = (tgt : Int)) (hn : pc + 3 = n) (kt : 0 ≤ x → ky_T G M d kc ks tgt lv st σ o σ') (kf : ¬ 0 ≤ x → ky_T G M d kc ks n lv st σ o σ') : ky_T G M d kc ks pc lv (.int x :: st) σ o σ' := by
  intro p e R s m args below meth c H locs cells slots mc ms ls C hS hM hl h1 h2
  subst hn
  exact lv_if_ge C.1 C.2.1 hd ht (fun q => kt q p e R s m args below meth c H locs cells slots mc ms ls C hS hM hl h1 h2) (fun q => kf q p e R s m args below meth c H locs cells slots mc ms ls C hS hM hl h1 h2)
theorem ky_icmp_ge {x y : Int32} {off : Int} {tgt : Nat} (hd : decode M.2.1 pc = .ok (.if_icmp .ge off, 3)) (ht : (pc : Int) + off = (tgt : Int)) (hn : pc + 3 = n) (kt : y ≤ x → ky_T G M d kc ks tgt lv st σ o σ') (kf : ¬ y ≤ x → ky_T G M d kc ks n lv st σ o σ') : ky_T G M d kc ks pc lv (.int y :: .int x :: st) σ o σ' := by
  intro p e R s m args below meth c H locs cells slots mc ms ls C hS hM hl h1 h2
  subst hn
  exact lv_icmp_ge C.1 C.2.1 hd ht (fun q => kt q p e R s m args below meth c H locs cells slots mc ms ls C hS hM hl h1 h2) (fun q => kf q p e R s m args below meth c H locs cells slots mc ms ls C hS hM hl h1 h2)
theorem ky_if_gt {x : Int32} {off : Int} {tgt : Nat} (hd : decode M.2.1 pc = .ok (.ifCond .gt off, 3)) (ht : (pc : Int) + off = (tgt : Int)) (hn : pc + 3 = n) (kt : 0 < x → ky_T G M d kc ks tgt lv st σ o σ') (kf : ¬ 0 < x → ky_T G M d kc ks n lv st σ o σ') : ky_T G M d kc ks pc lv (.int x :: st) σ o σ' := by
  intro p e R s m args below meth c H locs cells slots mc ms ls C hS hM hl h1 h2
  subst hn
  exact lv_if_gt C.1 C.2.1 hd ht (fun q => kt q p e R s m args below meth c H locs cells slots mc ms ls C hS hM hl h1 h2) (fun q => kf q p e R s m args below meth c H locs cells slots mc ms ls C hS hM hl h1 h2)
theorem ky_icmp_gt {x y : Int32} {off : Int} {tgt : Nat} (hd : decode M.2.1 pc = .ok (.if_icmp .gt off, 3)) (ht : (pc : Int) + off = (tgt : Int)) (hn : pc + 3 = n) (kt : y < x → ky_T G M d kc ks tgt lv st σ o σ') (kf : ¬ y < x → ky_T G M d kc ks n lv st σ o σ') : ky_T G M d kc ks pc lv (.int y :: .int x :: st) σ o σ' := by
  intro p e R s m args below meth c H locs cells slots mc ms ls C hS hM hl h1 h2
  subst hn
  exact lv_icmp_gt C.1 C.2.1 hd ht (fun q => kt q p e R s m args below meth c H locs cells slots mc ms ls C hS hM hl h1 h2) (fun q => kf q p e R s m args below meth c H locs cells slots mc ms ls C hS hM hl h1 h2)
theorem ky_if_le {x : Int32} {off : Int} {tgt : Nat} (hd : decode M.2.1 pc = .ok (.ifCond .le off, 3)) (ht : (pc : Int) + off = (tgt : Int)) (hn : pc + 3 = n) (kt : x ≤ 0 → ky_T G M d kc ks tgt lv st σ o σ') (kf : ¬ x ≤ 0 → ky_T G M d kc ks n lv st σ o σ') : ky_T G M d kc ks pc lv (.int x :: st) σ o σ' := by
  intro p e R s m args below meth c H locs cells slots mc ms ls C hS hM hl h1 h2
  subst hn
  exact lv_if_le C.1 C.2.1 hd ht (fun q => kt q p e R s m args below meth c H locs cells slots mc ms ls C hS hM hl h1 h2) (fun q => kf q p e R s m args below meth c H locs cells slots mc ms ls C hS hM hl h1 h2)
theorem ky_icmp_le {x y : Int32} {off : Int} {tgt : Nat} (hd : decode M.2.1 pc = .ok (.if_icmp .le off, 3)) (ht : (pc : Int) + off = (tgt : Int)) (hn : pc + 3 = n) (kt : x ≤ y → ky_T G M d kc ks tgt lv st σ o σ') (kf : ¬ x ≤ y → ky_T G M d kc ks n lv st σ o σ') : ky_T G M d kc ks pc lv (.int y :: .int x :: st) σ o σ' := by
  intro p e R s m args below meth c H locs cells slots mc ms ls C hS hM hl h1 h2
  subst hn
  exact lv_icmp_le C.1 C.2.1 hd ht (fun q => kt q p e R s m args below meth c H locs cells slots mc ms ls C hS hM hl h1 h2) (fun q => kf q p e R s m args below meth c H locs cells slots mc ms ls C hS hM hl h1 h2)
theorem ky_goto {off : Int} {tgt : Nat} (hd : decode M.2.1 pc = .ok (.goto off, 3)) (ht : (pc : Int) + off = (tgt : Int)) (k : ky_T G M d kc ks tgt lv st σ o σ') : ky_T G M d kc ks pc lv st σ o σ' := by
  intro p e R s m args below meth c H locs cells slots mc ms ls C hS hM hl h1 h2
  exact lv_goto C.1 C.2.1 hd ht (k p e R s m args below meth c H locs cells slots mc ms ls C hS hM hl h1 h2)
theorem ky_ifnonnull {x : Nat} {off : Int} {tgt : Nat} (hd : decode M.2.1 pc = .ok (.ifnonnull off, 3)) (ht : (pc : Int) + off = (tgt : Int)) (k : ky_T G M d kc ks tgt lv st σ o σ') : ky_T G M d kc ks pc lv (.ref x :: st) σ o σ' := by
  intro p e R s m args below meth c H locs cells slots mc ms ls C hS hM hl h1 h2
  exact lv_ifnonnull C.1 C.2.1 hd ht (k p e R s m args below meth c H locs cells slots mc ms ls C hS hM hl h1 h2)
theorem ky_ifnull {x : Nat} {off : Int} (hd : decode M.2.1 pc = .ok (.ifnull off, 3)) (hn : pc + 3 = n) (k : ky_T G M d kc ks n lv st σ o σ') : ky_T G M d kc ks pc lv (.ref x :: st) σ o σ' := by
  intro p e R s m args below meth c H locs cells slots mc ms ls C hS hM hl h1 h2
  subst hn
  exact lv_ifnull C.1 C.2.1 hd (k p e R s m args below meth c H locs cells slots mc ms ls C hS hM hl h1 h2)
theorem ky_tsIn {dflt lo hi : Int} {offs : Array Int} {len tgt : Nat} {x : Int32} {off : Int} (hd : decode M.2.1 pc = .ok (.tableswitch dflt lo hi offs, len)) (a1 : ¬ x.toInt < lo) (a2 : ¬ hi < x.toInt) (ho : offs[(x.toInt - lo).toNat]? = some off) (ht : (pc : Int) + off = (tgt : Int)) (k : ky_T G M d kc ks tgt lv st σ o σ') : ky_T G M d kc ks pc lv (.int x :: st) σ o σ' := by
  intro p e R s m args below meth c H locs cells slots mc ms ls C hS hM hl h1 h2
  exact lv_tableIn C.1 C.2.1 hd a1 a2 ho ht (k p e R s m args below meth c H locs cells slots mc ms ls C hS hM hl h1 h2)
theorem ky_tsOut {dflt lo hi : Int} {offs : Array Int} {len tgt : Nat} {x : Int32} (hd : decode M.2.1 pc = .ok (.tableswitch dflt lo hi offs, len)) (a1 : x.toInt < lo ∨ hi < x.toInt) (ht : (pc : Int) + dflt = (tgt : Int)) (k : ky_T G M d kc ks tgt lv st σ o σ') : ky_T G M d kc ks pc lv (.int x :: st) σ o σ' := by
  intro p e R s m args below meth c H locs cells slots mc ms ls C hS hM hl h1 h2
  exact lv_tableOut C.1 C.2.1 hd a1 ht (k p e R s m args below meth c H locs cells slots mc ms ls C hS hM hl h1 h2)
theorem ky_lsw {dflt : Int} {ps : Array (Int × Int)} {len tgt : Nat} {x : Int32} {off : Int} (hd : decode M.2.1 pc = .ok (.lookupswitch dflt ps, len)) (hp : (ps.toList.zip (ps.toList.drop 1)).all (fun (a, next) => a.1 < next.1) = true) (ho : Op.lookupswitch.offset ps.toList dflt x.toInt = off) (ht : (pc : Int) + off = (tgt : Int)) (k : ky_T G M d kc ks tgt lv st σ o σ') : ky_T G M d kc ks pc lv (.int x :: st) σ o σ' := by
  intro p e R s m args below meth c H locs cells slots mc ms ls C hS hM hl h1 h2
  exact lv_lookup C.1 C.2.1 hd hp ho ht (k p e R s m args below meth c H locs cells slots mc ms ls C hS hM hl h1 h2)
theorem ky_topi {x : Int32} (k : ∀ y : Int32, y = x → ky_T G M d kc ks pc lv (.int y :: st) σ o σ') : ky_T G M d kc ks pc lv (.int x :: st) σ o σ' := k x rfl
theorem ky_sub (is : List Nat) (h : lv_pick lv is = lv') (k : ky_T G M d kc ks pc lv' st σ o σ') : ky_T G M d kc ks pc lv st σ o σ' := by
  intro p e R s m args below meth c H locs cells slots mc ms ls C hS hM hl h1 h2
  exact k p e R s m args below meth c H locs cells slots mc ms ls C hS hM (lv_sub hl is h) h1 h2
end KYrows

