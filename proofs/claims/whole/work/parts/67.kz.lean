/-! ===== the constructors: a world is a map from addresses to what they hold ===== -/
abbrev kz_W : Type := Nat → Option va_E
/-- launch, base, classes, the classes of rows of ints, of longs, of books -/
abbrev kz_G : Type := Launch × Nat × va_G × ClassId × ClassId × ClassId
def kz_A (G : kz_G) : Nat → Prop := fun q => G.2.1 ≤ q
def kz_tys (G : kz_G) : List (ClassId × FieldType) := [(G.2.2.2.1, .int), (G.2.2.2.2.1, .long), (G.2.2.2.2.2, .object RX0)]
def kz_E (G : kz_G) (U : State) : Prop := va_K G.2.2.1 ky_cls (kz_tys G) U ∧ va_Nw (.methodLinkNest RX3 25 yX2_init RX3) U ∧ va_AO RX0 U
def kz_P (G : kz_G) (w : kz_W) (H : Heap) : Prop := ∀ a e, w a = some e → va_at G.2.2.1 ky_cls (a, e) H
def kz_u (w : kz_W) (a : Nat) (e : va_E) : kz_W := fun b => if b = a then some e else w b
theorem kz_u_s {w : kz_W} {a : Nat} {e : va_E} : kz_u w a e a = some e := if_pos rfl
theorem kz_u_n {w : kz_W} {a b : Nat} {e : va_E} (h : b ≠ a) : kz_u w a e b = w b := if_neg h
section KZ0
variable {G : kz_G} {w : kz_W} {H H1 : Heap} {a : Nat} {e : va_E}
theorem kz_P.put (h : kz_P G w H) (he : va_at G.2.2.1 ky_cls (a, e) H1) (oq : ∀ q : Nat, q ≠ a → H1[q]? = H[q]?) : kz_P G (kz_u w a e) H1 := by
  intro b x hb
  by_cases hab : b = a
  · subst hab
    rw [kz_u_s] at hb
    cases hb
    exact he
  · rw [kz_u_n hab] at hb
    exact (h b x hb).kept (oq b hab)
theorem kz_P.new (h : kz_P G w H) (he : va_at G.2.2.1 ky_cls (H.size, e) H1) (o1 : ∀ q : Nat, q < H.size → H1[q]? = H[q]?) : kz_P G (kz_u w H.size e) H1 := by
  intro b x hb
  by_cases hab : b = H.size
  · subst hab
    rw [kz_u_s] at hb
    cases hb
    exact he
  · rw [kz_u_n hab] at hb
    have hv := h b x hb
    exact hv.kept (o1 b hv.lt)
theorem kz_E.warm {s U : State} (hW : s.WarmedH U.vm) (h : kz_E G s) : kz_E G U := ⟨va_K.moved hW.alike h.1, va_Nw.warmM hW h.2.1, va_AO.moved hW.alike h.2.2⟩
end KZ0
def kz_C (G : kz_G) (M : ky_Md) (d : Nat) (p : Program) (R : Room) (s : State) (m : MethodId) (args : Array Value) (meth : Method) (c : Code) (mc ms : Nat) : Prop :=
  p.tables.exec = Jvm.exec ∧ c.code = M.2.1 ∧ meth.sig.returnType = M.2.2.2.1 ∧ c.maxLocals = M.2.2.1 ∧ s.vm.findClass M.1.cls = some m.cls ∧ (∀ w ∈ ky_ws, w.before args s = true) ∧ kz_E G s ∧ meth.locks = false ∧
  meth.name = M.1.name ∧ c.exceptionTable.toList = tableOf M.2.2.2.2 ∧ G.2.1 ≤ s.heap.size ∧ d ≤ R.frames ∧ 35 * d ≤ R.locals ∧ mc ≤ R.cells ∧ ms ≤ R.slots
abbrev kz_O : Type := List Frame → Array Value → State → Nat → Nat → State → Prop
/-- from here, in the world w of size z, the method comes to F -/
def kz_T (G : kz_G) (M : ky_Md) (d kc ks pc : Nat) (lv : List (Nat × Value)) (st : List Value) (w : kz_W) (z : Nat) (F : kz_O) : Prop :=
  ∀ (p : Program) (e : Env) (R : Room) (s : State) (m : MethodId) (args : Array Value) (below : List Frame) (meth : Method) (c : Code) (H : Heap) (locs : List Loc) (cells slots mc ms : Nat) (ls : Array Slot),
    kz_C G M d p R s m args meth c mc ms → va_S (kz_A G) s.heap H locs → kz_P G w H → H.size = z → lv_has ls M.2.2.1 lv → cells + kc ≤ mc → slots + ks ≤ ms →
    W p G.1 e R s m args below meth c H locs cells slots (F below args s mc ms) (F0 m pc ls st)
section KZrows
variable {G : kz_G} {M : ky_Md} {d kc ks pc n : Nat} {lv lv' : List (Nat × Value)} {st : List Value} {w : kz_W} {z : Nat} {F : kz_O}
theorem kz_iconst {i : Int} {v : Int32} (hd : decode M.2.1 pc = .ok (.iconst i, 1)) (hn : pc + 1 = n) (hv : Int32.ofInt i = v) (k : kz_T G M d kc ks n lv (.int v :: st) w z F) : kz_T G M d kc ks pc lv (st) w z F := by
  intro p e R s m args below meth c H locs cells slots mc ms ls C hS hP hz hl h1 h2
  subst hn
  exact lv_iconst C.1 C.2.1 hd hv (k p e R s m args below meth c H locs cells slots mc ms ls C hS hP hz hl h1 h2)
theorem kz_bipush {i : Int} {v : Int32} (hd : decode M.2.1 pc = .ok (.bipush i, 2)) (hn : pc + 2 = n) (hv : (Int8.ofInt i).toInt32 = v) (k : kz_T G M d kc ks n lv (.int v :: st) w z F) : kz_T G M d kc ks pc lv (st) w z F := by
  intro p e R s m args below meth c H locs cells slots mc ms ls C hS hP hz hl h1 h2
  subst hn
  exact lv_bipush C.1 C.2.1 hd hv (k p e R s m args below meth c H locs cells slots mc ms ls C hS hP hz hl h1 h2)
theorem kz_sipush {i : Int} {v : Int32} (hd : decode M.2.1 pc = .ok (.sipush i, 3)) (hn : pc + 3 = n) (hv : (Int16.ofInt i).toInt32 = v) (k : kz_T G M d kc ks n lv (.int v :: st) w z F) : kz_T G M d kc ks pc lv (st) w z F := by
  intro p e R s m args below meth c H locs cells slots mc ms ls C hS hP hz hl h1 h2
  subst hn
  exact lv_sipush C.1 C.2.1 hd hv (k p e R s m args below meth c H locs cells slots mc ms ls C hS hP hz hl h1 h2)
theorem kz_iload_n {q : Fin 4} {i : Nat} {x : Int32} (hd : decode M.2.1 pc = .ok (.iload_n q, 1)) (hn : pc + 1 = n) (hi : (q : Nat) = i) (t : Nat) (hk : lv[t]? = some (i, .int x)) (k : kz_T G M d kc ks n lv (.int x :: st) w z F) : kz_T G M d kc ks pc lv (st) w z F := by
  intro p e R s m args below meth c H locs cells slots mc ms ls C hS hP hz hl h1 h2
  subst hn
  exact lv_iload_n C.1 C.2.1 hd hi (lv_at hl t hk) (k p e R s m args below meth c H locs cells slots mc ms ls C hS hP hz hl h1 h2)
theorem kz_istore_n {q : Fin 4} {i : Nat} {x : Int32} (hd : decode M.2.1 pc = .ok (.istore_n q, 1)) (hn : pc + 1 = n) (hi : (q : Nat) = i) (hb : i < M.2.2.1) (hk : (i, Value.int x) :: lv.filter (fun q => !(q.1 == i) && !(q.1 + 1 == i && q.2.category == 2)) = lv') (k : kz_T G M d kc ks n lv' (st) w z F) : kz_T G M d kc ks pc lv (.int x :: st) w z F := by
  intro p e R s m args below meth c H locs cells slots mc ms ls C hS hP hz hl h1 h2
  subst hn
  exact lv_istore_n C.1 C.2.1 hd hi hl hb hk (fun ls2 hl2 => k p e R s m args below meth c H locs cells slots mc ms ls2 C hS hP hz hl2 h1 h2)
theorem kz_istore {i : Nat} {x : Int32} (hd : decode M.2.1 pc = .ok (.istore i, 2)) (hn : pc + 2 = n) (hb : i < M.2.2.1) (hk : (i, Value.int x) :: lv.filter (fun q => !(q.1 == i) && !(q.1 + 1 == i && q.2.category == 2)) = lv') (k : kz_T G M d kc ks n lv' (st) w z F) : kz_T G M d kc ks pc lv (.int x :: st) w z F := by
  intro p e R s m args below meth c H locs cells slots mc ms ls C hS hP hz hl h1 h2
  subst hn
  exact lv_istore C.1 C.2.1 hd hl hb hk (fun ls2 hl2 => k p e R s m args below meth c H locs cells slots mc ms ls2 C hS hP hz hl2 h1 h2)
theorem kz_aload_n {q : Fin 4} {i : Nat} {x : Nat} (hd : decode M.2.1 pc = .ok (.aload_n q, 1)) (hn : pc + 1 = n) (hi : (q : Nat) = i) (t : Nat) (hk : lv[t]? = some (i, .ref x)) (k : kz_T G M d kc ks n lv (.ref x :: st) w z F) : kz_T G M d kc ks pc lv (st) w z F := by
  intro p e R s m args below meth c H locs cells slots mc ms ls C hS hP hz hl h1 h2
  subst hn
  exact lv_aload_n C.1 C.2.1 hd hi (lv_at hl t hk) (k p e R s m args below meth c H locs cells slots mc ms ls C hS hP hz hl h1 h2)
theorem kz_astore_n {q : Fin 4} {i : Nat} {x : Nat} (hd : decode M.2.1 pc = .ok (.astore_n q, 1)) (hn : pc + 1 = n) (hi : (q : Nat) = i) (hb : i < M.2.2.1) (hk : (i, Value.ref x) :: lv.filter (fun q => !(q.1 == i) && !(q.1 + 1 == i && q.2.category == 2)) = lv') (k : kz_T G M d kc ks n lv' (st) w z F) : kz_T G M d kc ks pc lv (.ref x :: st) w z F := by
  intro p e R s m args below meth c H locs cells slots mc ms ls C hS hP hz hl h1 h2
  subst hn
  exact lv_astore_n C.1 C.2.1 hd hi hl hb hk (fun ls2 hl2 => k p e R s m args below meth c H locs cells slots mc ms ls2 C hS hP hz hl2 h1 h2)
theorem kz_iinc {i : Nat} {j : Int} {x v : Int32} (hd : decode M.2.1 pc = .ok (.iinc i j, 3)) (hn : pc + 3 = n) (t : Nat) (hk : lv[t]? = some (i, .int x)) (hv : x + Int32.ofInt j = v) (hb : i < M.2.2.1) (hk2 : (i, Value.int v) :: lv.filter (fun q => !(q.1 == i) && !(q.1 + 1 == i && q.2.category == 2)) = lv') (k : kz_T G M d kc ks n lv' (st) w z F) : kz_T G M d kc ks pc lv (st) w z F := by
  intro p e R s m args below meth c H locs cells slots mc ms ls C hS hP hz hl h1 h2
  subst hn
  exact lv_iinc C.1 C.2.1 hd hl hk hv hb hk2 (fun ls2 hl2 => k p e R s m args below meth c H locs cells slots mc ms ls2 C hS hP hz hl2 h1 h2)
theorem kz_icmp_ge {x y : Int32} {off : Int} {tgt : Nat} (hd : decode M.2.1 pc = .ok (.if_icmp .ge off, 3)) (ht : (pc : Int) + off = (tgt : Int)) (hn : pc + 3 = n) (kt : y ≤ x → kz_T G M d kc ks tgt lv st w z F) (kf : ¬ y ≤ x → kz_T G M d kc ks n lv st w z F) : kz_T G M d kc ks pc lv (.int y :: .int x :: st) w z F := by
  intro p e R s m args below meth c H locs cells slots mc ms ls C hS hP hz hl h1 h2
  subst hn
  exact lv_icmp_ge C.1 C.2.1 hd ht (fun q => kt q p e R s m args below meth c H locs cells slots mc ms ls C hS hP hz hl h1 h2) (fun q => kf q p e R s m args below meth c H locs cells slots mc ms ls C hS hP hz hl h1 h2)
theorem kz_goto {off : Int} {tgt : Nat} (hd : decode M.2.1 pc = .ok (.goto off, 3)) (ht : (pc : Int) + off = (tgt : Int)) (k : kz_T G M d kc ks tgt lv st w z F) : kz_T G M d kc ks pc lv st w z F := by
  intro p e R s m args below meth c H locs cells slots mc ms ls C hS hP hz hl h1 h2
  exact lv_goto C.1 C.2.1 hd ht (k p e R s m args below meth c H locs cells slots mc ms ls C hS hP hz hl h1 h2)
theorem kz_dup {v : Value} (hd : decode M.2.1 pc = .ok (.dup, 1)) (hn : pc + 1 = n) (hv : v.category = 1) (k : kz_T G M d kc ks n lv (v :: v :: st) w z F) : kz_T G M d kc ks pc lv (v :: st) w z F := by
  intro p e R s m args below meth c H locs cells slots mc ms ls C hS hP hz hl h1 h2
  subst hn
  exact lv_dup C.1 C.2.1 hd hv (k p e R s m args below meth c H locs cells slots mc ms ls C hS hP hz hl h1 h2)
theorem kz_sub (is : List Nat) (h : lv_pick lv is = lv') (k : kz_T G M d kc ks pc lv' st w z F) : kz_T G M d kc ks pc lv st w z F := by
  intro p e R s m args below meth c H locs cells slots mc ms ls C hS hP hz hl h1 h2
  exact k p e R s m args below meth c H locs cells slots mc ms ls C hS hP hz (lv_sub hl is h) h1 h2
theorem kz_w {w' : kz_W} (h : w = w') (k : kz_T G M d kc ks pc lv st w' z F) : kz_T G M d kc ks pc lv st w z F := h ▸ k
theorem kz_in85 : Cond.instanceMethod objectInit ∈ ky_ws := ky_in 85 (by decide +kernel) (by decide +kernel)
theorem kz_in86 : Cond.code objectInit ⟨#[0xb1]⟩ 1 none ∈ ky_ws := ky_in 86 (by decide +kernel) (by decide +kernel)
theorem kz_obj {i x : Nat} (hd : decode M.2.1 pc = .ok (.invokespecial i, 3)) (hn : pc + 3 = n) (hlk : Cond.methodLink M.1.cls i objectInit ∈ ky_ws) (hst : (st.map fun v => v.category).sum ≤ 8) (k : kz_T G M (d + 1) kc ks n lv st w z F) : kz_T G M (d + 1) kc ks pc lv (.ref x :: st) w z F := by
  intro p e R s m args below meth c H locs cells slots mc ms ls C hS hP hz hl h1 h2
  subst hn
  obtain ⟨hx, hb, hr, hml, hown, hts, hE, hlk2, hnm, hex, hB, hf, hlo, hmc, hms⟩ := id C
  refine W.objInit hx hb hown (hts _ hlk) (hts _ kz_in85) (hts _ kz_in86) rfl (by rw [hml]; exact hl.1) rfl hd (by omega) ?_ (k p e R s m args below meth c H locs cells slots mc ms ls C hS hP hz hl h1 h2)
  show 2 * 0 + _ + 12 ≤ R.locals
  omega
theorem kz_new {i c0 : Nat} {q : vw_C} {fs : List Value} (hd : decode M.2.1 pc = .ok (.new i, 3)) (hn : pc + 3 = n) (hq : ky_cls[c0]? = some q) (ty : Nat → FieldType) (hty : ∀ k, k < q.2.2 → parseFieldDescriptor (q.2.1 k).2.2.1 = some (ty k)) (hcl : Cond.classLink M.1.cls i q.1 ∈ ky_ws) (hin : Cond.instantiable q.1 q.2.2 ∈ ky_ws) (hini : Cond.initialized q.1 ∈ ky_ws)
    (hfs : ∀ j, j < q.2.2 → defaultValue (ty j) = vp_V fs j) (k : kz_T G M d kc ks n lv (.ref z :: st) (kz_u w z (.inr (c0, fs))) (z + 1) F) : kz_T G M d (kc + 1) (ks + q.2.2) pc lv st w z F := by
  intro p e R s m args below meth c H locs cells slots mc ms ls C hS hP hz hl h1 h2
  subst hn
  subst hz
  obtain ⟨hx, hb, hr, hml, hown, hts, hE, hlk2, hnm, hex, hB, hf, hlo, hmc, hms⟩ := id C
  have hKn := hE.1.1 c0 q hq
  refine W.newcK hx hb hown (hts _ hcl) (hts _ hin) (hts _ hini) rfl hd (by omega) (by omega) hKn.2.1 rfl fun H1 kC hkC e1 z1 o1 => ?_
  refine k p e R s m args below meth c H1 locs _ _ mc ms ls C ⟨Nat.le_trans hS.1 (by omega), fun x b1 b2 => (o1 x (Nat.lt_of_lt_of_le b1 hS.1)).trans (hS.2.1 x b1 b2), hS.2.2⟩ (hP.new ?_ o1) z1 hl (by omega) (by omega)
  exact ⟨_, hq, (u_born ty hts (ky_cq hq).2.2.1 hKn hkC e1 hty).to hfs⟩
theorem kz_in153 : Cond.arrayClass .int ∈ ky_ws := ky_in 153 (by decide +kernel) (by decide +kernel)
theorem kz_in1279 : Cond.arrayClass .long ∈ ky_ws := ky_in 1279 (by decide +kernel) (by decide +kernel)
theorem kz_newi {N : Nat} {x : Int32} (hd : decode M.2.1 pc = .ok (.newarray .int, 2)) (hn : pc + 2 = n) (hx0 : ¬ x < 0) (hN : x.toNatClampNeg = N) (hNb : N ≤ 100000)
    (k : kz_T G M d kc ks n lv (.ref z :: st) (kz_u w z (.inl (G.2.2.2.1, N, .inl fun _ => 0))) (z + 1) F) : kz_T G M d (kc + 1) (ks + N) pc lv (.int x :: st) w z F := by
  intro p e R s m args below meth c H locs cells slots mc ms ls C hS hP hz hl h1 h2
  subst hn
  subst hz
  obtain ⟨hx, hb, hr, hml, hown, hts, hE, hlk2, hnm, hex, hB, hf, hlo, hmc, hms⟩ := id C
  have hc4 : componentBytes (newarray.typeOf .int) = 4 := rfl
  refine va_newaK hx hb (atype := .int) (hts _ kz_in153) rfl hd rfl hx0 hN (by rw [hc4]; omega) (by omega) (by omega) rfl fun H1 cA e1 z1 o1 hAr hNm => ?_
  have hcA : cA = G.2.2.2.1 := Option.some.inj (hNm.symm.trans (hE.1.2 0 (G.2.2.2.1, .int) rfl).2)
  subst hcA
  refine k p e R s m args below meth c H1 locs _ _ mc ms ls C ⟨Nat.le_trans hS.1 (by omega), fun x b1 b2 => (o1 x (Nat.lt_of_lt_of_le b1 hS.1)).trans (hS.2.1 x b1 b2), hS.2.2⟩ (hP.new ?_ o1) z1 hl (by omega) (by omega)
  exact e1
theorem kz_newl {N : Nat} {x : Int32} (hd : decode M.2.1 pc = .ok (.newarray .long, 2)) (hn : pc + 2 = n) (hx0 : ¬ x < 0) (hN : x.toNatClampNeg = N) (hNb : N ≤ 100000)
    (k : kz_T G M d kc ks n lv (.ref z :: st) (kz_u w z (.inl (G.2.2.2.2.1, N, .inr (.inl fun _ => 0)))) (z + 1) F) : kz_T G M d (kc + 1) (ks + N) pc lv (.int x :: st) w z F := by
  intro p e R s m args below meth c H locs cells slots mc ms ls C hS hP hz hl h1 h2
  subst hn
  subst hz
  obtain ⟨hx, hb, hr, hml, hown, hts, hE, hlk2, hnm, hex, hB, hf, hlo, hmc, hms⟩ := id C
  have hc4 : componentBytes (newarray.typeOf .long) = 8 := rfl
  refine va_newaK hx hb (atype := .long) (hts _ kz_in1279) rfl hd rfl hx0 hN (by rw [hc4]; omega) (by omega) (by omega) rfl fun H1 cA e1 z1 o1 hAr hNm => ?_
  have hcA : cA = G.2.2.2.2.1 := Option.some.inj (hNm.symm.trans (hE.1.2 1 (G.2.2.2.2.1, .long) rfl).2)
  subst hcA
  refine k p e R s m args below meth c H1 locs _ _ mc ms ls C ⟨Nat.le_trans hS.1 (by omega), fun x b1 b2 => (o1 x (Nat.lt_of_lt_of_le b1 hS.1)).trans (hS.2.1 x b1 b2), hS.2.2⟩ (hP.new ?_ o1) z1 hl (by omega) (by omega)
  exact e1
theorem kz_newq {i N : Nat} {x : Int32} (hd : decode M.2.1 pc = .ok (.anewarray i, 3)) (hn : pc + 3 = n) (hcl : Cond.classLink M.1.cls i RX0 ∈ ky_ws) (hx0 : ¬ x < 0) (hN : x.toNatClampNeg = N) (hNb : N ≤ 100000)
    (k : kz_T G M d kc ks n lv (.ref z :: st) (kz_u w z (.inl (G.2.2.2.2.2, N, .inr (.inr (.inr (.inr (fun _ => none))))))) (z + 1) F) : kz_T G M d (kc + 1) (ks + N) pc lv (.int x :: st) w z F := by
  intro p e R s m args below meth c H locs cells slots mc ms ls C hS hP hz hl h1 h2
  subst hn
  subst hz
  subst hN
  obtain ⟨hx, hb, hr, hml, hown, hts, hE, hlk2, hnm, hex, hB, hf, hlo, hmc, hms⟩ := id C
  refine W.anew hx hb hown (hts _ hcl) (va_AO.use hE.2.2) rfl hd rfl hx0 (by omega) (by omega) (by omega) fun cA kA comp f1 f2 f3 f4 => ?_
  generalize hH1 : H.push ({ cls := cA, slots := Array.replicate x.toNatClampNeg .null, vm := .none } : Cell) = H1
  have z1 : H1.size = H.size + 1 := by rw [← hH1, Array.size_push]
  have e1 : H1[H.size]? = some (arrV cA x.toNatClampNeg (fun _ => .null)) := by rw [← hH1, Array.getElem?_push_size, ← arrV_new]
  have o1 : ∀ q : Nat, q < H.size → H1[q]? = H[q]? := fun q hq => by rw [← hH1, Array.getElem?_push, if_neg (Nat.ne_of_lt hq)]
  obtain ⟨kA', comp', g1, g2, g3, g4⟩ := (hE.1.2 2 (G.2.2.2.2.2, .object RX0) rfl).2
  have hcA : cA = G.2.2.2.2.2 := Option.some.inj (f1.symm.trans g4)
  subst hcA
  refine k p e R s m args below meth c H1 locs _ _ mc ms ls C ⟨Nat.le_trans hS.1 (by omega), fun x b1 b2 => (o1 x (Nat.lt_of_lt_of_le b1 hS.1)).trans (hS.2.1 x b1 b2), hS.2.2⟩ (hP.new ?_ o1) z1 hl (by omega) (by omega)
  exact e1
theorem kz_putF {i k c0 a : Nat} {q : vw_C} {fs : List Value} {v : Value} {ty : FieldType} (hd : decode M.2.1 pc = .ok (.putfield i, 3)) (hn : pc + 3 = n) (ha : w a = some (.inr (c0, fs))) (hq : ky_cls[c0]? = some q) (hk : k < q.2.2) (hlk : Cond.fieldLink M.1.cls i (q.2.1 k).1 (q.2.1 k).2.1 (q.2.1 k).2.2.1 ∈ ky_ws)
    (hfin : (q.2.1 k).2.2.2 = true) (hin2 : M.1.name = "<init>") (hdecl : (q.2.1 k).1 = M.1.cls) (hpd : parseFieldDescriptor (q.2.1 k).2.2.1 = some ty) (hnar : narrow ty v = v) (hfit : fits ty v = true) (hlen : k < fs.length) (hA : G.2.1 ≤ a)
    (k0 : kz_T G M d kc ks n lv st (kz_u w a (.inr (c0, fs.set k v))) z F) : kz_T G M d kc ks pc lv (v :: .ref a :: st) w z F := by
  intro p e R s m args below meth c H locs cells slots mc ms ls C hS hP hz hl h1 h2
  subst hn
  obtain ⟨hx, hb, hr, hml, hown, hts, hE, hlk2, hnm, hex, hB, hf, hlo, hmc, hms⟩ := id C
  obtain ⟨hc5, hN, hin, ⟨ty0, hty⟩, hnm2⟩ := ky_cq hq
  have hap := va_apart (own := M.1.cls) (C := q.1) (T := q.2.1) (N := q.2.2) hts hin ty0 hty hnm2 hE.1 hq
  obtain ⟨r, r1, cell, q1, q2, q3, q4⟩ := hP a _ ha
  have hr2 : r = q := Option.some.inj (r1.symm.trans hq)
  subst hr2
  obtain ⟨hSl, hfc, kC, hkC, hkind⟩ := hE.1.1 c0 _ hq
  obtain ⟨cf, kf, fi, f, hi, hsl⟩ := hSl k hk
  have hlay := hts _ (hin _ (u_in_lay hk))
  unfold u_lay at hlay
  rw [if_pos hfin] at hlay
  have hst := (u_facts hfc hkC (u_lays hts hin hk) hi).1
  have hcf : m.cls = cf := by
    obtain ⟨_, _, c', _, _, _, -, -, hf', -, -, -, hown2, -⟩ := Cond.laysFinal_spec hlay
    have e1 : c' = cf := by have := hi.symm.trans hf'; simp at this; exact this.1.symm
    rw [hdecl] at hown2
    rw [← e1]; exact Option.some.inj (hown.symm.trans hown2)
  have h6 := u_fits hfc hkC hkind (Or.inr hlay) hi hpd hnar hfit
  refine W.putFinK hx hb hown (hts _ hlk) hi hst hcf (hnm.trans hin2) (by rw [q2]; exact h6) q1 q3 (by rw [hsl]; exact k2_hasslot (q4 k hk)) rfl rfl hd fun H' e1 e2 e3 => ?_
  rw [hsl] at e1 ⊢
  exact k0 p e R s m args below meth c H' _ cells slots mc ms ls C (hS.put e2 e3 hA) (hP.put ⟨_, hq, t_OB.to (V := updV (vp_V fs) k v) ⟨_, e1, q2, q3, t_set q4 hap hk v⟩ (fun j _ => vp_updV_set hlen v j)⟩ e3) (e2.trans hz) hl h1 h2
theorem kz_getf {i k c0 a : Nat} {q : vw_C} {fs : List Value} {v : Value} (hd : decode M.2.1 pc = .ok (.getfield i, 3)) (hn : pc + 3 = n) (ha : w a = some (.inr (c0, fs))) (hq : ky_cls[c0]? = some q) (hk : k < q.2.2) (hlk : Cond.fieldLink M.1.cls i (q.2.1 k).1 (q.2.1 k).2.1 (q.2.1 k).2.2.1 ∈ ky_ws) (hv : vp_V fs k = v)
    (k0 : kz_T G M d kc ks n lv (v :: st) w z F) : kz_T G M d kc ks pc lv (.ref a :: st) w z F := by
  intro p e R s m args below meth c H locs cells slots mc ms ls C hS hP hz hl h1 h2
  subst hn
  obtain ⟨hx, hb, hr, hml, hown, hts, hE, hlk2, hnm, hex, hB, hf, hlo, hmc, hms⟩ := id C
  obtain ⟨hc5, hN, hin, -, -⟩ := ky_cq hq
  obtain ⟨r, r1, cell, q1, q2, q3, q4⟩ := hP a _ ha
  have hr2 : r = q := Option.some.inj (r1.symm.trans hq)
  subst hr2
  obtain ⟨hSl, hfc, kC, hkC, hkind⟩ := hE.1.1 c0 _ hq
  obtain ⟨cf, kf, fi, f0, hi, hsl⟩ := hSl k hk
  refine W.getf hx hb hown (hts _ hlk) hi (u_facts hfc hkC (u_lays hts hin hk) hi).1 q1 (by rw [q3]; exact fun h => by cases h) (v := v) ?_ rfl rfl hd (k0 p e R s m args below meth c H locs cells slots mc ms ls C hS hP hz hl h1 h2)
  rw [hsl, q4 k hk, ← hv]
theorem kz_iast {a N : Nat} {f : Nat → Int32} {i x : Int32} (hd : decode M.2.1 pc = .ok (.iastore, 1)) (hn : pc + 1 = n) (ha : w a = some (.inl (G.2.2.2.1, N, .inl f))) (hin : vp_in i N) (hA : G.2.1 ≤ a)
    (k0 : kz_T G M d kc ks n lv st (kz_u w a (.inl (G.2.2.2.1, N, .inl (upd f i.toNatClampNeg x)))) z F) : kz_T G M d kc ks pc lv (.int x :: .int i :: .ref a :: st) w z F := by
  intro p e R s m args below meth c H locs cells slots mc ms ls C hS hP hz hl h1 h2
  subst hn
  obtain ⟨hx, hb, hr, hml, hown, hts, hE, hlk2, hnm, hex, hB, hf, hlo, hmc, hms⟩ := id C
  refine W.iast hx hb (hP a _ ha) ((hE.1.2 0 (G.2.2.2.1, .int) rfl).1 N (fun j => .int (f j))) (fun q => by cases q) (by show ¬ (i < 0 ∨ (arrV _ _ _).slots.size ≤ _); rw [arrV_size]; exact hin) rfl rfl hd fun H1 e1 z1 oq => ?_
  refine k0 p e R s m args below meth c H1 _ cells slots mc ms ls C (hS.put z1 oq hA) (hP.put ?_ oq) (z1.trans hz) hl h1 h2
  show H1[a]? = some (vp_cell _ _)
  rw [e1]
  rw [vp_cell_i, vp_cell_i, arrV_store]
  congr 2
  funext q
  by_cases hq : q = i.toNatClampNeg
  · subst hq
    simp [updV, upd]
  · simp [updV, upd, hq]
theorem kz_alen {a N : Nat} {f : Nat → Int32} (hd : decode M.2.1 pc = .ok (.arraylength, 1)) (hn : pc + 1 = n) (ha : w a = some (.inl (G.2.2.2.1, N, .inl f)))
    (k0 : kz_T G M d kc ks n lv (.int (nI N) :: st) w z F) : kz_T G M d kc ks pc lv (.ref a :: st) w z F := by
  intro p e R s m args below meth c H locs cells slots mc ms ls C hS hP hz hl h1 h2
  subst hn
  obtain ⟨hx, hb, hr, hml, hown, hts, hE, hlk2, hnm, hex, hB, hf, hlo, hmc, hms⟩ := id C
  exact W.alen (n := nI N) hx hb (hP a _ ha) ((hE.1.2 0 (G.2.2.2.1, .int) rfl).1 N (fun j => .int (f j))) (by show (arrV _ _ _).slots.size.toInt32 = _; rw [arrV_size] <;> rfl) rfl rfl hd (k0 p e R s m args below meth c H locs cells slots mc ms ls C hS hP hz hl h1 h2)
theorem kz_alenq {a N : Nat} {f : Nat → Option Nat} (hd : decode M.2.1 pc = .ok (.arraylength, 1)) (hn : pc + 1 = n) (ha : w a = some (.inl (G.2.2.2.2.2, N, .inr (.inr (.inr (.inr f))))))
    (k0 : kz_T G M d kc ks n lv (.int (nI N) :: st) w z F) : kz_T G M d kc ks pc lv (.ref a :: st) w z F := by
  intro p e R s m args below meth c H locs cells slots mc ms ls C hS hP hz hl h1 h2
  subst hn
  obtain ⟨hx, hb, hr, hml, hown, hts, hE, hlk2, hnm, hex, hB, hf, hlo, hmc, hms⟩ := id C
  exact W.alen (n := nI N) hx hb (hP a _ ha) ((hE.1.2 2 (G.2.2.2.2.2, .object RX0) rfl).1 N (fun j => va_rf (f j))) (by show (arrV _ _ _).slots.size.toInt32 = _; rw [arrV_size] <;> rfl) rfl rfl hd (k0 p e R s m args below meth c H locs cells slots mc ms ls C hS hP hz hl h1 h2)
theorem kz_aast {a N v : Nat} {vs : List Value} {f : Nat → Option Nat} {i : Int32} (hd : decode M.2.1 pc = .ok (.aastore, 1)) (hn : pc + 1 = n) (ha : w a = some (.inl (G.2.2.2.2.2, N, .inr (.inr (.inr (.inr f)))))) (hv : w v = some (.inr (0, vs))) (hin : vp_in i N) (hA : G.2.1 ≤ a)
    (k0 : kz_T G M d kc ks n lv st (kz_u w a (.inl (G.2.2.2.2.2, N, .inr (.inr (.inr (.inr (va_up f i.toNatClampNeg (some v)))))))) z F) : kz_T G M d kc ks pc lv (.ref v :: .int i :: .ref a :: st) w z F := by
  intro p e R s m args below meth c H locs cells slots mc ms ls C hS hP hz hl h1 h2
  subst hn
  obtain ⟨hx, hb, hr, hml, hown, hts, hE, hlk2, hnm, hex, hB, hf, hlo, hmc, hms⟩ := id C
  have hlt : i.toNatClampNeg < N := Nat.not_le.mp fun q => hin (Or.inr q)
  have h0 : ¬ i < 0 := fun q => hin (Or.inl q)
  obtain ⟨r', hr', cellV, g1, g2, g3, -⟩ := hP v _ hv
  have hcls := (hE.1.1 0 (RX0, TX0, 17) rfl).2
  obtain ⟨kA, comp, k1, k2, k3, -⟩ := (hE.1.2 2 (G.2.2.2.2.2, .object RX0) rfl).2
  have hcomp : comp = G.2.2.1.1 0 := Option.some.inj (k3.symm.trans hcls.1)
  subst hcomp
  obtain ⟨kC, hkC, -⟩ := id hcls.2
  refine W.aast hx hb (hP a _ ha) (fun q h => by cases h) (fun h => by cases h) k1 k2 rfl hkC ⟨h0, by show _ < (arrV _ _ _).slots.size; rw [arrV_size]; exact hlt⟩ g1 (fun q h => by rw [g3] at h; cases h) (by rw [g2]; exact hkC) (by rw [g2]; exact va_assign hcls) rfl rfl hd fun H1 e1 z1 oq => ?_
  refine k0 p e R s m args below meth c H1 _ cells slots mc ms ls C (hS.put z1 oq hA) (hP.put ?_ oq) (z1.trans hz) hl h1 h2
  show H1[a]? = some (vp_cell _ _)
  rw [e1]
  rw [vp_cell_q, vp_cell_q, arrV_store]
  congr 2
  funext q
  by_cases hq : q = i.toNatClampNeg
  · subst hq
    simp [updV, va_up, va_rf]
  · simp [updV, va_up, hq]
/-! a method that returns nothing: its contract -/
def kz_Pc (G : kz_G) (av : List Value) (w : kz_W) (z : Nat) : Array Value → State → Prop := fun a U => a = av.toArray ∧ kz_E G U ∧ kz_P G w U.heap ∧ U.heap.size = z ∧ G.2.1 ≤ z
def kz_Qc (G : kz_G) (w' : kz_W) (z' : Nat) : Array Value → State → Outcome → State → Prop := fun _ st oc t => oc = .returned none ∧ kz_P G w' t.heap ∧ t.heap.size = z' ∧ va_F (kz_A G) st t
def kz_F (G : kz_G) (w' : kz_W) (z' : Nat) : kz_O := fun below args s mc ms => MQ below (kz_Qc G w' z') args s mc ms (kz_A G)
def kz_K (G : kz_G) (M : ky_Md) (d mc ms : Nat) (av : List Value) (w : kz_W) (z : Nat) (w' : kz_W) (z' : Nat) : Prop :=
  Met G.1 M.1 (ky_wy M) (ky_rm d mc ms) (kz_Pc G av w z) (kz_Qc G w' z') mc ms (kz_A G)
theorem kz_ret {dd : Nat} (hd : decode M.2.1 pc = .ok (.return_, 1)) (hr : M.2.2.2.1 = none) : kz_T G M dd 0 0 pc lv [] w z (kz_F G w z) := by
  intro p e R s m args below meth c H locs cells slots mc ms ls C hS hP hz hl h1 h2
  refine W.widen (k := mc) (n := ms) h1 h2 ?_
  exact W.vret C.1 C.2.1 (C.2.2.1.trans hr) (fun t ht hW => ⟨rfl, by rw [ht]; exact hP, by rw [ht]; exact hz, hS.F ht⟩) hS.2.2 hd C.2.2.2.2.2.2.2.1
theorem kz_enter {av : List Value} {w' : kz_W} {z' : Nat} (hh : M.2.2.2.2 = []) (hp : plainName M.1.cls = true) (hlen : (lg_sl av).length ≤ M.2.2.1) (hlv : lv_args 0 av = lv) (h : kz_T G M d kc ks 0 lv [] w z (kz_F G w' z')) : kz_K G M d kc ks av w z w' z' := by
  have hwy : ky_wy M = .code M.1 M.2.1 M.2.2.1 M.2.2.2.1 :: ky_ws := if_pos hh
  refine Met.ofW (cc := M.2.1) (maxL := M.2.2.1) (ret := M.2.2.2.1) hp hwy ?_
  intro p e s m args below meth c s₁ B hml hv
  obtain ⟨rfl, hE, hP, hz, hB⟩ := hv
  have hts : ∀ w ∈ ky_wy M, w.before av.toArray s = true := atoms_spec B.pre
  have hts : ∀ w ∈ ky_ws, w.before av.toArray s = true := fun w hw => hts w (by rw [hwy]; exact List.mem_cons_of_mem _ hw)
  have hex : c.exceptionTable.toList = tableOf M.2.2.2.2 := by
    obtain ⟨meth9, c9, g1, g2, -, -, -, -, g7, -⟩ := Cond.code_spec B.named (atoms_spec (ws := ky_wy M) B.pre _ (by rw [hwy]; exact List.mem_cons_self))
    cases Option.some.inj (g1.symm.trans B.method)
    cases Option.some.inj (g2.symm.trans (Stand.of_body B).code)
    rw [Array.isEmpty_iff.mp g7, hh]
    rfl
  rw [lg_entry_eq]
  refine h p e _ s m _ below meth c s.heap [] 0 0 kc ks _ ⟨B.exec, B.bytes, B.returns, hml, findClass_of_methodNamed B.named, hts, hE, B.notSynchronized, (name_of_methodNamed B.named B.method).1, hex, by rw [hz]; exact hB, Nat.le_refl _, Nat.le_refl _, Nat.le_refl _, Nat.le_refl _⟩ va_S.rf hP hz ?_ (by omega) (by omega)
  rw [← hlv]
  exact lv_entry av hlen
theorem kz_blind {av : List Value} : FrameBlind (kz_Pc G av w z) := by
  intro a U g mk h
  obtain ⟨h1, h2, h3, h4, h5⟩ := h
  have hW : U.WarmedH (U.calling g mk a).vm := State.WarmedH.refl U
  exact ⟨h1, h2.warm hW, h3, h4, h5⟩
theorem kz_pre {s : State} {H : Heap} (hE : kz_E G s) (hP : kz_P G w H) (hz : H.size = z) (hB : G.2.1 ≤ z) (av : List Value) : ∀ U : State, U.heap = H → s.WarmedH U.vm → kz_Pc G av w z av.toArray U := by
  intro U hU hW
  exact ⟨rfl, hE.warm hW, by rw [hU]; exact hP, by rw [hU]; exact hz, hB⟩
theorem kz_go {p : Program} {e : Env} {R : Room} {s : State} {m : MethodId} {args : Array Value} {below : List Frame} {meth : Method} {c : Code} {H H0 : Heap} {locs : List Loc} {cells slots mc ms : Nat} {Q : State → Prop} {ls : Array Slot} {st0 rest : List Value} {a : Array Value} {w1 : kz_W} {z1 : Nat}
    (hr : va_Run p G.1 e R s m args below meth c H locs cells slots mc ms (F0 m pc ls st0) rest (kz_Qc G w1 z1 a) (kz_A G)) (hS : va_S (kz_A G) H0 H locs)
    (kk : ∀ (H1 : Heap) (locs1 : List Loc), kz_P G w1 H1 → H1.size = z1 → va_S (kz_A G) H0 H1 locs1 → W p G.1 e R s m args below meth c H1 locs1 (cells + mc) (slots + ms) Q (F0 m (pc + 3) ls rest)) : W p G.1 e R s m args below meth c H locs cells slots Q (F0 m pc ls st0) := by
  intro T hT X
  obtain ⟨v, st₀, t, T', L, h0, X', hL, e1, e2, ⟨hv, hP, hz, hF⟩, go⟩ := hr T hT X
  cases hv
  obtain ⟨k1, k2, k3⟩ := vx_keep h0 e1 hS (fun q _ h => h) (fun q h => h) hL hF
  obtain ⟨t2, a1, b1⟩ := kk T'.heap (locs ++ L) (by rw [e1]; exact hP) (by rw [e1]; exact hz) k3 T' rfl X'
  exact ⟨t2, go t2 a1, b1⟩
def kz_okI (Mc : ky_Md) : Prop := ky_okM Mc 0 ∧ Cond.instanceMethod Mc.1 ∈ ky_ws ∧ Mc.1.name = "<init>"
theorem kz_callI {Mc : ky_Md} {i a kc2 ks2 z1 : Nat} {w1 : kz_W} (hM1 : kz_K G Mc d kc2 ks2 [.ref a] w z w1 z1) (ok : kz_okI Mc) (hlk : Cond.methodLink M.1.cls i Mc.1 ∈ ky_ws) (hret : Mc.2.2.2.1 = none) (hst : (st.map fun v => v.category).sum ≤ 8) (hd : decode M.2.1 pc = .ok (.invokespecial i, 3)) (hn : pc + 3 = n) (hB2 : G.2.1 ≤ z)
    (k : kz_T G M (d + 1) kc ks n lv st w1 z1 F) : kz_T G M (d + 1) (kc + kc2) (ks + ks2) pc lv (.ref a :: st) w z F := by
  intro p e R s m args below meth c H locs cells slots mc ms ls C hS hP hz hl h1 h2
  subst hn
  obtain ⟨hx, hb, hr, hml, hown, hts, hE, hlk2, hnm, hex, hB, hf, hlo, hmc, hms⟩ := id C
  refine kz_go (va_runI (As := []) (index := i) (n := 0) (rest := st) (bytes := Mc.2.1) (maxL := Mc.2.2.1) ⟨hx, hb, hml, hown, hts⟩ hM1 ⟨⟨rfl, rfl, hf, ?_, ok.1.words hts, ?_, ?_, hts _ ok.1.1.2.2.2, ok.1.2.1, ky_nargs ok.1.2.2.1, hts _ hlk⟩, ok.2.2, hts _ ok.2.1⟩
    ⟨kz_blind, kz_pre hE hP hz hB2 _⟩ rfl rfl hl.1 rfl (lv_room hst) hd ⟨by omega, by omega⟩) hS (fun H1 locs1 hP2 hz2 hS2 => ?_)
  · have := ok.1.2.2.2
    show 8 + (Mc.2.2.1 + 11) + 35 * d ≤ R.locals
    omega
  · rw [← hret, show ky_wy Mc = .code Mc.1 Mc.2.1 Mc.2.2.1 Mc.2.2.2.1 :: ky_ws from if_pos ok.1.1.1]; exact List.mem_cons_self
  · rw [← hret]; exact hts _ ok.1.1.2.2.1
  · exact k p e R s m args below meth c H1 locs1 _ _ mc ms ls C hS2 hP2 hz2 hl (by omega) (by omega)
theorem kz_callN {Mc : ky_Md} {i a kc2 ks2 z1 : Nat} {w1 : kz_W} (hM1 : kz_K G Mc d kc2 ks2 [.ref a] w z w1 z1) (ok : kz_okI Mc) (hlk : Cond.methodLinkNest M.1.cls i Mc.1 RX3 = .methodLinkNest RX3 25 yX2_init RX3) (hret : Mc.2.2.2.1 = none) (hst : (st.map fun v => v.category).sum ≤ 8) (hd : decode M.2.1 pc = .ok (.invokespecial i, 3)) (hn : pc + 3 = n) (hB2 : G.2.1 ≤ z)
    (k : kz_T G M (d + 1) kc ks n lv st w1 z1 F) : kz_T G M (d + 1) (kc + kc2) (ks + ks2) pc lv (.ref a :: st) w z F := by
  intro p e R s m args below meth c H locs cells slots mc ms ls C hS hP hz hl h1 h2
  subst hn
  obtain ⟨hx, hb, hr, hml, hown, hts, hE, hlk2, hnm, hex, hB, hf, hlo, hmc, hms⟩ := id C
  refine kz_go (va_runIN (As := []) (index := i) (n := 0) (host := RX3) (rest := st) (bytes := Mc.2.1) (maxL := Mc.2.2.1) ⟨hx, hb, hml, hown, hts⟩ hM1 ⟨⟨⟨rfl, rfl, hf, ?_, ok.1.words hts, ?_⟩, ?_, hts _ ok.1.1.2.2.2, ok.1.2.1, ky_nargs ok.1.2.2.1, va_Nw.use rfl (by rw [hlk]; exact hE.2.1)⟩, ok.2.2, hts _ ok.2.1⟩
    ⟨kz_blind, kz_pre hE hP hz hB2 _⟩ rfl rfl hl.1 rfl (lv_room hst) hd ⟨by omega, by omega⟩) hS (fun H1 locs1 hP2 hz2 hS2 => ?_)
  · have := ok.1.2.2.2
    show 8 + (Mc.2.2.1 + 11) + 35 * d ≤ R.locals
    omega
  · rw [← hret, show ky_wy Mc = .code Mc.1 Mc.2.1 Mc.2.2.1 Mc.2.2.2.1 :: ky_ws from if_pos ok.1.1.1]; exact List.mem_cons_self
  · rw [← hret]; exact hts _ ok.1.1.2.2.1
  · exact k p e R s m args below meth c H1 locs1 _ _ mc ms ls C hS2 hP2 hz2 hl (by omega) (by omega)
theorem kz_callS {Mc : ky_Md} {i na kc2 ks2 z1 : Nat} {as stk : List Value} {w1 : kz_W} (hM1 : kz_K G Mc d kc2 ks2 as w z w1 z1) (ok : ky_okS Mc na) (hlk : Cond.methodLink M.1.cls i Mc.1 ∈ ky_ws) (hna : as.length = na) (hstk : stk = as.reverse ++ st) (hst : (st.map fun v => v.category).sum ≤ 8) (hd : decode M.2.1 pc = .ok (.invokestatic i, 3)) (hn : pc + 3 = n) (hB2 : G.2.1 ≤ z)
    (k : kz_T G M (d + 1) kc ks n lv st w1 z1 F) : kz_T G M (d + 1) (kc + kc2) (ks + ks2) pc lv stk w z F := by
  intro p e R s m args below meth c H locs cells slots mc ms ls C hS hP hz hl h1 h2
  subst hn
  obtain ⟨hx, hb, hr, hml, hown, hts, hE, hlk2, hnm, hex, hB, hf, hlo, hmc, hms⟩ := id C
  refine kz_go (va_runS (As := as) (index := i) (n := na) (rest := st) (bytes := Mc.2.1) (maxL := Mc.2.2.1) (ret := Mc.2.2.2.1) ⟨hx, hb, hml, hown, hts⟩ hM1 ⟨⟨rfl, rfl, hf, ?_, ok.1.words hts, ?_, hts _ ok.1.1.2.2.1, hts _ ok.1.1.2.2.2, ok.1.2.1, ky_nargs ok.1.2.2.1, hts _ hlk⟩, hts _ ok.2⟩
    ⟨kz_blind, kz_pre hE hP hz hB2 _⟩ rfl hna hl.1 hstk (lv_room hst) hd ⟨by omega, by omega⟩) hS (fun H1 locs1 hP2 hz2 hS2 => ?_)
  · have := ok.1.2.2.2
    show 8 + (Mc.2.2.1 + 11) + 35 * d ≤ R.locals
    omega
  · rw [show ky_wy Mc = .code Mc.1 Mc.2.1 Mc.2.2.1 Mc.2.2.2.1 :: ky_ws from if_pos ok.1.1.1]; exact List.mem_cons_self
  · exact k p e R s m args below meth c H1 locs1 _ _ mc ms ls C hS2 hP2 hz2 hl (by omega) (by omega)
end KZrows
