/-! ===== throws, catches, the library ===== -/
section KYt
variable {G : ky_G} {M : ky_Md} {d kc ks pc n : Nat} {lv lv' : List (Nat × Value)} {st : List Value} {σ σ' : ky_St} {o : ky_O}
def ky_bad (X : String) : List Cond := [.declares (Bundle.initS "java/lang/RuntimeException"), .declares (Bundle.initS "java/lang/Exception"), .declares (Bundle.initS Bundle.tN), .castable X X]
def ky_sup : List String := ["java/lang/RuntimeException", "java/lang/Exception"]
/-- what a program decides of a throw's words, once for each class -/
def ky_okX (ic : Nat) (X : String) : Prop := X ∈ [ky_ex1, ky_ex2, ky_ex3] ∧ Bundle.fit X = true ∧ Cond.initialized X ∈ ky_ws ∧ (∀ w ∈ (vx_atS RX3 ic X ky_sup).filter goodWord, w ∈ ky_ws) ∧ (vx_atS RX3 ic X ky_sup).filter (fun w => !goodWord w) = ky_bad X ∧ (∀ w ∈ Cond.initialized X :: vx_atS RX3 ic X ky_sup, vx_ot w = true)
theorem ky_throw {ik is ic : Nat} {X text : String} (ok : ky_okX ic X) (hown : M.1.cls = RX3) (hk : Cond.classLink RX3 ik X ∈ ky_ws) (hstr : (is, text) ∈ ky_strs)
    (d0 : decode M.2.1 pc = .ok (.new ik, 3)) (d3 : decode M.2.1 (pc + 3) = .ok (.dup, 1)) (d4 : decode M.2.1 (pc + 4) = .ok (.ldc is, 2)) (d6 : decode M.2.1 (pc + 6) = .ok (.invokespecial ic, 3)) (d9 : decode M.2.1 (pc + 9) = .ok (.athrow, 1))
    (hh : M.2.2.2.2 = []) (hst : (st.map fun v => v.category).sum ≤ 8) (hkc : 1 ≤ kc) (hks : 6 ≤ ks) (hd : 6 ≤ d) : ky_T G M d kc ks pc lv st σ (.inl X) σ := by
  intro p e R s m args below meth c H locs cells slots mc ms ls C hS hM hl h1 h2
  obtain ⟨hx, hb, hr, hml, how, hts, hE, hlk2, hex, hI, hB, hf, hlo, hmc, hms⟩ := id C
  obtain ⟨o1, o2, o3, o4, o5, o6⟩ := ok
  obtain ⟨sa, hsa⟩ := hE.2.2.2.1 _ hstr
  refine vx_throwS (names := ky_sup) (sa := sa) (text := text) hx hb hI.1 (by rw [← hown]; exact how) o2 (by decide) (hts _ hk) (hts _ o3) hsa (vx_hat (B := ky_bad X) (fun w hw => hts w (o4 w hw)) (fun w hw => by rw [o5] at hw; exact hw) ?_) ?_
    hE.2.2.2.2.2.2.1 hE.2.2.2.2.2.2.2.1 hS (by rw [hl.1, hml]) d0 d3 d4 d6 d9 (by rw [hex, hh]; intro x hx; cases hx) (by show 2 + 3 < R.frames; omega) (by show _ + (13 * (2 + 1) + 43) ≤ R.locals; omega) (by omega) (by omega) hlk2
    (fun t hal hz hk => ⟨rfl, ?_, ?_, ?_⟩) hS.2.2 (by omega) (by omega)
  · intro w hw
    simp only [ky_bad, List.mem_cons, List.not_mem_nil, or_false] at hw
    have hn : ∀ q ∈ ky_nest, va_Nw q s := hE.2.2.1
    rcases hw with rfl | rfl | rfl | rfl
    · exact va_Nw.use rfl (hn _ (List.mem_of_getElem? (i := 7) rfl))
    · exact va_Nw.use rfl (hn _ (List.mem_of_getElem? (i := 8) rfl))
    · exact va_Nw.use rfl (hn _ (List.mem_of_getElem? (i := 9) rfl))
    · exact va_Nw.use rfl (hE.2.2.2.2.2.1 _ o1)
  · intro w hw
    rcases List.mem_cons.mp hw with e | hw
    · rw [e]; rfl
    · exact o6 w hw
  · have hlt : ∀ k n, ky_len G.2.2.2.1 k = some n → G.2.1 k < H.size := fun k n hk2 => by
      obtain ⟨scr, b1, -⟩ := hM.X hE.2.1 hk2
      exact (Array.getElem?_eq_some_iff.mp b1).1
    obtain ⟨m1, m2, ⟨scr, r1, r2, r3⟩, ⟨sc2, t1, t2, t3⟩⟩ := hM
    refine ⟨fun k hk2 => ?_, fun k n hk2 => ?_, ⟨scr, (hk _ (Array.getElem?_eq_some_iff.mp r1).1).trans r1, State.isArrayOf_alike hal r2, r3⟩, ⟨sc2, (hk _ (Array.getElem?_eq_some_iff.mp t1).1).trans t1, State.isArrayOf_alike hal t2, t3⟩⟩
    · obtain ⟨cell, q1, q2⟩ := m1 k hk2
      exact ⟨cell, (hk _ (Array.getElem?_eq_some_iff.mp q1).1).trans q1, q2⟩
    · have e := hk _ (hlt k n hk2)
      rcases m2 k n hk2 with ⟨h5, h6⟩ | ⟨h5, h6⟩
      · exact Or.inl ⟨h5, (va_X.moved hal h6).kept e⟩
      · exact Or.inr ⟨h5, by rw [e]; exact h6⟩
  · exact Nat.le_trans hS.1 hz
  · intro q g1 g2
    rw [hk q (Nat.lt_of_lt_of_le g1 hS.1)]
    exact hS.2.1 q g1 g2
theorem ky_throwW {ik is ic : Nat} {X text : String} (ok : ky_okX ic X) (hown : M.1.cls = RX3) (hk : Cond.classLink RX3 ik X ∈ ky_ws) (hstr : (is, text) ∈ ky_strs)
    (d0 : decode M.2.1 pc = .ok (.new ik, 3)) (d3 : decode M.2.1 (pc + 3) = .ok (.dup, 1)) (d4 : decode M.2.1 (pc + 4) = .ok (.ldc_w is, 3)) (d6 : decode M.2.1 (pc + 7) = .ok (.invokespecial ic, 3)) (d9 : decode M.2.1 (pc + 10) = .ok (.athrow, 1))
    (hh : M.2.2.2.2 = []) (hst : (st.map fun v => v.category).sum ≤ 8) (hkc : 1 ≤ kc) (hks : 6 ≤ ks) (hd : 6 ≤ d) : ky_T G M d kc ks pc lv st σ (.inl X) σ := by
  intro p e R s m args below meth c H locs cells slots mc ms ls C hS hM hl h1 h2
  obtain ⟨hx, hb, hr, hml, how, hts, hE, hlk2, hex, hI, hB, hf, hlo, hmc, hms⟩ := id C
  obtain ⟨o1, o2, o3, o4, o5, o6⟩ := ok
  obtain ⟨sa, hsa⟩ := hE.2.2.2.1 _ hstr
  refine vx_throwSW (names := ky_sup) (sa := sa) (text := text) hx hb hI.1 (by rw [← hown]; exact how) o2 (by decide) (hts _ hk) (hts _ o3) hsa (vx_hat (B := ky_bad X) (fun w hw => hts w (o4 w hw)) (fun w hw => by rw [o5] at hw; exact hw) ?_) ?_
    hE.2.2.2.2.2.2.1 hE.2.2.2.2.2.2.2.1 hS (by rw [hl.1, hml]) d0 d3 d4 d6 d9 (by rw [hex, hh]; intro x hx; cases hx) (by show 2 + 3 < R.frames; omega) (by show _ + (13 * (2 + 1) + 43) ≤ R.locals; omega) (by omega) (by omega) hlk2
    (fun t hal hz hk => ⟨rfl, ?_, ?_, ?_⟩) hS.2.2 (by omega) (by omega)
  · intro w hw
    simp only [ky_bad, List.mem_cons, List.not_mem_nil, or_false] at hw
    have hn : ∀ q ∈ ky_nest, va_Nw q s := hE.2.2.1
    rcases hw with rfl | rfl | rfl | rfl
    · exact va_Nw.use rfl (hn _ (List.mem_of_getElem? (i := 7) rfl))
    · exact va_Nw.use rfl (hn _ (List.mem_of_getElem? (i := 8) rfl))
    · exact va_Nw.use rfl (hn _ (List.mem_of_getElem? (i := 9) rfl))
    · exact va_Nw.use rfl (hE.2.2.2.2.2.1 _ o1)
  · intro w hw
    rcases List.mem_cons.mp hw with e | hw
    · rw [e]; rfl
    · exact o6 w hw
  · have hlt : ∀ k n, ky_len G.2.2.2.1 k = some n → G.2.1 k < H.size := fun k n hk2 => by
      obtain ⟨scr, b1, -⟩ := hM.X hE.2.1 hk2
      exact (Array.getElem?_eq_some_iff.mp b1).1
    obtain ⟨m1, m2, ⟨scr, r1, r2, r3⟩, ⟨sc2, t1, t2, t3⟩⟩ := hM
    refine ⟨fun k hk2 => ?_, fun k n hk2 => ?_, ⟨scr, (hk _ (Array.getElem?_eq_some_iff.mp r1).1).trans r1, State.isArrayOf_alike hal r2, r3⟩, ⟨sc2, (hk _ (Array.getElem?_eq_some_iff.mp t1).1).trans t1, State.isArrayOf_alike hal t2, t3⟩⟩
    · obtain ⟨cell, q1, q2⟩ := m1 k hk2
      exact ⟨cell, (hk _ (Array.getElem?_eq_some_iff.mp q1).1).trans q1, q2⟩
    · have e := hk _ (hlt k n hk2)
      rcases m2 k n hk2 with ⟨h5, h6⟩ | ⟨h5, h6⟩
      · exact Or.inl ⟨h5, (va_X.moved hal h6).kept e⟩
      · exact Or.inr ⟨h5, by rw [e]; exact h6⟩
  · exact Nat.le_trans hS.1 hz
  · intro q g1 g2
    rw [hk q (Nat.lt_of_lt_of_le g1 hS.1)]
    exact hS.2.1 q g1 g2
/-- the callee throws, a handler here takes it -/
theorem ky_callVC {Mc : ky_Md} {i na k0 kc2 ks2 : Nat} {as : List Value} {X : String} {σ1 : ky_St} {stk : List Value} {c5 : Nat} {q : vw_C} (hM1 : ky_K G Mc d kc2 ks2 (ky_r G k0 :: as) σ (.inl X) σ1) (ok : ky_okV Mc na) (hlk : Cond.methodLink M.1.cls i Mc.1 ∈ ky_ws) (hc : ky_cl k0 = c5) (hq : ky_cls[c5]? = some q) (hq2 : q.1 = Mc.1.cls)
    (hna : as.length = na) (hstk : stk = as.reverse ++ ky_r G k0 :: st) (hst : (st.map fun v => v.category).sum ≤ 8) (hd : decode M.2.1 pc = .ok (.invokevirtual i, 3)) (hX : X ∈ [ky_ex1, ky_ex2, ky_ex3])
    (pre : List (Nat × Nat × Nat × Nat)) (nms : List String) (x : Nat × Nat × Nat × Nat) (suf : List (Nat × Nat × Nat × Nat)) (hh : M.2.2.2.2 = pre ++ x :: suf) (hx1 : x.1 ≤ pc ∧ pc < x.2.1) (h0 : x.2.2.2 ≠ 0)
    (hpre : pre.map (fun z => z.2.2.2) = nms.map (fun y => if y = ky_ex1 then 13 else if y = ky_ex2 then 15 else 21)) (hnm : ∀ y ∈ nms, y ∈ [ky_ex1, ky_ex2, ky_ex3] ∧ y ≠ X) (hl13 : ∀ y ∈ [ky_ex1, ky_ex2, ky_ex3], Cond.classLink M.1.cls (if y = ky_ex1 then 13 else if y = ky_ex2 then 15 else 21) y ∈ ky_ws)
    (hx2 : x.2.2.2 = if X = ky_ex1 then 13 else if X = ky_ex2 then 15 else 21) (hcov : covers ⟨x.1, x.2.1, x.2.2.1, x.2.2.2⟩ pc = true)
    (k : ∀ qa : Nat, ky_T G M (d + 1) kc ks x.2.2.1 lv [.ref qa] σ1 o σ') : ky_T G M (d + 1) (kc + kc2) (ks + ks2) pc lv stk σ o σ' := by
  intro p e R s m args below meth c H locs cells slots mc ms ls C hS hM hl h1 h2
  refine ky_go (ky_runV hM1 ok hlk hc hq hq2 hna hstk hst hd C hS hM hl h1 h2) hS (fun E2 ce q9 H1 locs1 z hM2 hS2 hce hcv hcl => ?_) (fun v2 H1 locs1 z => (by cases z))
  cases z
  obtain ⟨hx, hb, hr, hml, how, hts, hE, hlk2, hex, hI, hB, hf, hlo, hmc, hms⟩ := id C
  refine vx_catch (name := X) how (tableOf pre) ⟨x.1, x.2.1, x.2.2.1, x.2.2.2⟩ (tableOf suf) (by rw [hex, hh]; simp [tableOf]) (fun z hz => Or.inr ?_) hcov h0 (by show (Cond.classLink _ x.2.2.2 _).before _ _ = true; rw [hx2]; exact hts _ (hl13 X hX)) (va_Nw.use rfl (hE.2.2.2.2.2.1 _ hX)) hce hcv hcl
    (k q9 p e R s m args below meth c H1 locs1 _ _ mc ms ls C hS2 hM2 hl (by omega) (by omega))
  obtain ⟨z0, hz0, rfl⟩ := List.mem_map.mp hz
  have hm : z0.2.2.2 ∈ pre.map (fun z => z.2.2.2) := List.mem_map.mpr ⟨z0, hz0, rfl⟩
  rw [hpre] at hm
  obtain ⟨y, hy, hye⟩ := List.mem_map.mp hm
  obtain ⟨hy1, hy2⟩ := hnm y hy
  refine ⟨?_, y, ?_, hE.2.2.2.2.1 X hX y hy1 (fun e => hy2 e.symm)⟩
  · show z0.2.2.2 ≠ 0
    rw [← hye]
    split
    · decide
    · split <;> decide
  · show (Cond.classLink _ z0.2.2.2 _).before _ _ = true
    rw [← hye]
    exact hts _ (hl13 y hy1)
/-- a static method with handlers, which returns -/
theorem ky_callSW {Mc : ky_Md} {i na kc2 ks2 : Nat} {as : List Value} {v : Option Value} {σ1 : ky_St} {stk : List Value} (hM1 : ky_K G Mc d kc2 ks2 as σ (.inr v) σ1) (hh : Mc.2.2.2.2 ≠ []) (hco : Cond.codeWith Mc.1 Mc.2.1 Mc.2.2.1 Mc.2.2.2.1 Mc.2.2.2.2 ∈ ky_ws) (hini : Cond.initialized Mc.1.cls ∈ ky_ws) (hst0 : Cond.static Mc.1 ∈ ky_ws) (hcl : Mc.1.cls ≠ "java/lang/invoke/MethodHandle" ∧ Mc.1.cls ≠ "java/lang/invoke/VarHandle")
    (hpa : (parseMethodDescriptor Mc.1.desc).map (fun d => d.parameters.length) = some na) (hmx : Mc.2.2.1 ≤ 16) (hlk : Cond.methodLink M.1.cls i Mc.1 ∈ ky_ws)
    (hna : as.length = na) (hstk : stk = as.reverse ++ st) (hst : (st.map fun v => v.category).sum ≤ 8) (hd : decode M.2.1 pc = .ok (.invokestatic i, 3)) (hn : pc + 3 = n)
    (k : ky_T G M (d + 1) kc ks n lv (v.toList ++ st) σ1 o σ') : ky_T G M (d + 1) (kc + kc2) (ks + ks2) pc lv stk σ o σ' := by
  intro p e R s m args below meth c H locs cells slots mc ms ls C hS hM hl h1 h2
  subst hn
  obtain ⟨hx, hb, hr, hml, hown, hts, hE, hlk2, hex, hI, hB, hf, hlo, hmc, hms⟩ := id C
  have hwy : ky_wy Mc = .codeWith Mc.1 Mc.2.1 Mc.2.2.1 Mc.2.2.2.1 Mc.2.2.2.2 :: ky_ws := if_neg hh
  have hwm : ∀ w ∈ ky_wy Mc, w ∈ ky_ws := fun w hw => by
    rw [hwy] at hw
    rcases List.mem_cons.mp hw with e | hw
    · rw [e]; exact hco
    · exact hw
  refine ky_goA (vx_runSW (As := as) (index := i) (n := na) (rest := st) (bytes := Mc.2.1) (maxL := Mc.2.2.1) (ret := Mc.2.2.2.1) (hh := Mc.2.2.2.2) ⟨hx, hb, hml, hown, hts⟩ (ky_Met hM1) ⟨⟨rfl, rfl, hf, ?_, fun w hw a' U hW => word_at hW (ky_good (hwm w hw)) (hts w (hwm w hw)), ?_⟩, hts _ hco, hts _ hini, hcl, ky_nargs hpa, hts _ hlk, hts _ hst0⟩
    ⟨ky_blind, ky_pre hE hS hM hI hB _⟩ rfl hna hl.1 hstk (lv_room hst) hd ⟨by omega, by omega⟩) hS (fun H1 locs1 hM2 hS2 => ?_)
  · show 8 + (Mc.2.2.1 + 11) + 35 * d ≤ R.locals
    omega
  · rw [hwy]; exact List.mem_cons_self
  · exact k p e R s m args below meth c H1 locs1 _ _ mc ms ls C hS2 hM2 hl (by omega) (by omega)
theorem ky_min {i : Nat} {x y : Int32} (hd : decode M.2.1 pc = .ok (.invokestatic i, 3)) (hn : pc + 3 = n) (hlk : Cond.methodLink M.1.cls i Lib.Math.min.name ∈ ky_ws) (h0 : Cond.static Lib.Math.min.name ∈ ky_ws) (hi : Cond.initialized "java/lang/Math" ∈ ky_ws) (hco : Cond.code Lib.Math.min.name Lib.Math.min.code 2 (some .int) ∈ ky_ws)
    (hd1 : 1 ≤ d) (hst : (st.map fun v => v.category).sum ≤ 8) (k : ky_T G M d kc ks n lv (.int (if y < x then y else x) :: st) σ o σ') : ky_T G M d kc ks pc lv (.int y :: .int x :: st) σ o σ' := by
  intro p e R s m args below meth c H locs cells slots mc ms ls C hS hM hl h1 h2
  subst hn
  obtain ⟨hx, hb, hr, hml, hown, hts, hE, hlk2, hex, hI, hB, hf, hlo, hmc, hms⟩ := id C
  exact va_mmin hx hb (hml.trans hl.1.symm) hown (hts _ hlk) (hts _ h0) (hts _ hi) (hts _ hco) (by omega) (by omega) (by omega) (by omega) hd (k p e R s m args below meth c H locs cells slots mc ms ls C hS hM hl h1 h2)
theorem ky_max {i : Nat} {x y : Int32} (hd : decode M.2.1 pc = .ok (.invokestatic i, 3)) (hn : pc + 3 = n) (hlk : Cond.methodLink M.1.cls i Lib.Math.max.name ∈ ky_ws) (h0 : Cond.static Lib.Math.max.name ∈ ky_ws) (hi : Cond.initialized "java/lang/Math" ∈ ky_ws) (hco : Cond.code Lib.Math.max.name Lib.Math.max.code 2 (some .int) ∈ ky_ws)
    (hd1 : 1 ≤ d) (hst : (st.map fun v => v.category).sum ≤ 8) (k : ky_T G M d kc ks n lv (.int (if x < y then y else x) :: st) σ o σ') : ky_T G M d kc ks pc lv (.int y :: .int x :: st) σ o σ' := by
  intro p e R s m args below meth c H locs cells slots mc ms ls C hS hM hl h1 h2
  subst hn
  obtain ⟨hx, hb, hr, hml, hown, hts, hE, hlk2, hex, hI, hB, hf, hlo, hmc, hms⟩ := id C
  exact va_mmax hx hb (hml.trans hl.1.symm) hown (hts _ hlk) (hts _ h0) (hts _ hi) (hts _ hco) (by omega) (by omega) (by omega) (by omega) hd (k p e R s m args below meth c H locs cells slots mc ms ls C hS hM hl h1 h2)
theorem ky_rawbits {i : Nat} {b : UInt64} (hd : decode M.2.1 pc = .ok (.invokestatic i, 3)) (hn : pc + 3 = n) (hlk : Cond.methodLink M.1.cls i ⟨"java/lang/Double", "doubleToRawLongBits", "(D)J"⟩ ∈ ky_ws) (h0 : Cond.native ⟨"java/lang/Double", "doubleToRawLongBits", "(D)J"⟩ ∈ ky_ws) (h3 : Cond.static ⟨"java/lang/Double", "doubleToRawLongBits", "(D)J"⟩ ∈ ky_ws) (hi : Cond.initialized "java/lang/Double" ∈ ky_ws)
    (hd1 : 1 ≤ d) (hst : (st.map fun v => v.category).sum ≤ 8) (k : ky_T G M d kc ks n lv (.long b.toInt64 :: st) σ o σ') : ky_T G M d kc ks pc lv (.double b :: st) σ o σ' := by
  intro p e R s m args below meth c H locs cells slots mc ms ls C hS hM hl h1 h2
  subst hn
  obtain ⟨hx, hb, hr, hml, hown, hts, hE, hlk2, hex, hI, hB, hf, hlo, hmc, hms⟩ := id C
  exact vn_d2l hx hb (hml.trans hl.1.symm) hown (hts _ hlk) (hts _ h0) (hts _ h3) (hts _ hi) (by omega) (by omega) hd (k p e R s m args below meth c H locs cells slots mc ms ls C hS hM hl h1 h2)
/-- System.arraycopy of whole int rows from their starts -/
theorem ky_copy {i k0 k1 n0 n1 : Nat} {z : Int32} (hd : decode M.2.1 pc = .ok (.invokestatic i, 3)) (hn : pc + 3 = n) (hlk : Cond.methodLink M.1.cls i arraycopyName ∈ ky_ws) (h0 : Cond.native arraycopyName ∈ ky_ws) (h3 : Cond.static arraycopyName ∈ ky_ws) (hi : Cond.initialized "java/lang/System" ∈ ky_ws)
    (g0 : ky_len G.2.2.2.1 k0 = some n0) (r0 : ky_ro k0 = false) (g1 : ky_len G.2.2.2.1 k1 = some n1) (r1 : ky_ro k1 = false) (hz : ¬ z < 0) (hz0 : z.toNatClampNeg ≤ n0) (hz1 : z.toNatClampNeg ≤ n1)
    (hd1 : 1 ≤ d) (hst : (st.map fun v => v.category).sum ≤ 8) (k : ∀ σ1, σ1 = ky_uR σ k1 (va_cpy (σ.1 k0) (σ.1 k1) 0 0 z.toNatClampNeg) → ky_T G M d kc ks n lv st σ1 o σ') : ky_T G M d kc ks pc lv (.int z :: .int 0 :: ky_r G k1 :: .int 0 :: ky_r G k0 :: st) σ o σ' := by
  intro p e R s m args below meth c H locs cells slots mc ms ls C hS hM hl h1 h2
  subst hn
  obtain ⟨hx, hb, hr, hml, hown, hts, hE, hlk2, hex, hI, hB, hf, hlo, hmc, hms⟩ := id C
  have hc0 : H[G.2.1 k0]? = some (vp_cell G.2.2.2.2.2 (n0, .inl (σ.1 k0))) := by
    rcases hM.2.1 k0 n0 g0 with ⟨h, -⟩ | ⟨-, h⟩
    · rw [r0] at h; cases h
    · exact h
  have hc1 : H[G.2.1 k1]? = some (vp_cell G.2.2.2.2.2 (n1, .inl (σ.1 k1))) := by
    rcases hM.2.1 k1 n1 g1 with ⟨h, -⟩ | ⟨-, h⟩
    · rw [r1] at h; cases h
    · exact h
  intro T hT X
  obtain ⟨-, q0, hq0, cm0, hqq0⟩ := hE.2.1 n0 (fun j => .int (σ.1 k0 j))
  obtain ⟨-, q1, hq1, cm1, hqq1⟩ := hE.2.1 n1 (fun j => .int (σ.1 k1 j))
  have nz : ((0 : Int32)).toNatClampNeg = 0 := rfl
  have hnf : nativeFrameWords "java/lang/System" "arraycopy" 5 ≤ 16 := by decide
  have nn : ∀ v : Int32, ¬ v < 0 → v.toInt = (v.toNatClampNeg : Int) := fun v hv => by
    rw [Int32.lt_iff_toInt_lt, Int32.toInt_zero] at hv
    show v.toInt = ((v.toInt.toNat : Nat) : Int)
    omega
  obtain ⟨vm', X', step⟩ := X.arraycopy hx hown (hts _ hlk) (hts _ h0) (hts _ h3) (hts _ hi) (src := G.2.1 k0) (dst := G.2.1 k1) (cs := vp_cell G.2.2.2.2.2 (n0, .inl (σ.1 k0))) (cd := vp_cell G.2.2.2.2.2 (n1, .inl (σ.1 k1))) (srcPos := 0) (destPos := 0) (n := z) (by rw [hT]; exact hc0) (by rw [hT]; exact hc1)
    (fun _ h => by cases h) (fun _ h => by cases h) (fun h => by cases h) (fun h => by cases h) hq0 hq1 hqq0 hqq1 (by simp [refKind]) (by decide) (by decide) hz
    (by rw [nn z hz]; show ¬ _ > ((arrV G.2.2.2.2.2 n0 (fun j => .int (σ.1 k0 j))).slots.size : Int); rw [arrV_size]; simp; omega)
    (by rw [nn z hz]; show ¬ _ > ((arrV G.2.2.2.2.2 n1 (fun j => .int (σ.1 k1 j))).slots.size : Int); rw [arrV_size]; simp; omega)
    (fun vm₁ _ i hi => by
      have e : (vp_cell G.2.2.2.2.2 (n0, .inl (σ.1 k0))).slots.getD ((0 : Int32).toNatClampNeg + i) .null = .int (σ.1 k0 ((0 : Int32).toNatClampNeg + i)) := by
        show (arrV G.2.2.2.2.2 n0 (fun j => .int (σ.1 k0 j))).slots.getD _ _ = _
        rw [Array.getD_eq_getD_getElem?, arrV_read _ _ (by rw [nz]; omega)]
        rfl
      refine ⟨?_, ?_⟩
      · rw [e]; rfl
      · rw [e]; exact trivial)
    (g := F0 m pc ls (.int z :: .int 0 :: ky_r G k1 :: .int 0 :: ky_r G k0 :: st)) rfl (by rw [hl.1, hml]) (rest := st) rfl (by rw [hb]; exact hd) (by omega) (by show 2 * 0 + _ + _ ≤ _; omega)
  have e1 : copied (vp_cell G.2.2.2.2.2 (n0, .inl (σ.1 k0))) (vp_cell G.2.2.2.2.2 (n1, .inl (σ.1 k1))) 0 0 z = vp_cell G.2.2.2.2.2 (n1, .inl (va_cpy (σ.1 k0) (σ.1 k1) (0 : Int32).toNatClampNeg (0 : Int32).toNatClampNeg z.toNatClampNeg)) := va_copied (fun z => .int z) _ _ _ _ (by rw [nz]; omega)
  rw [e1] at X' step
  have hl1 : G.2.1 k1 < H.size := (Array.getElem?_eq_some_iff.mp hc1).1
  have hheap : ((T.setVm vm').setCell (G.2.1 k1) (vp_cell G.2.2.2.2.2 (n1, .inl (va_cpy (σ.1 k0) (σ.1 k1) (0 : Int32).toNatClampNeg (0 : Int32).toNatClampNeg z.toNatClampNeg)))).heap = H.setIfInBounds (G.2.1 k1) (vp_cell G.2.2.2.2.2 (n1, .inl (va_cpy (σ.1 k0) (σ.1 k1) (0 : Int32).toNatClampNeg (0 : Int32).toNatClampNeg z.toNatClampNeg))) := by rw [← hT]; rfl
  have oq : ∀ q : Nat, q ≠ G.2.1 k1 → (H.setIfInBounds (G.2.1 k1) (vp_cell G.2.2.2.2.2 (n1, .inl (va_cpy (σ.1 k0) (σ.1 k1) (0 : Int32).toNatClampNeg (0 : Int32).toNatClampNeg z.toNatClampNeg))))[q]? = H[q]? := fun q hq => by simp [Array.getElem?_setIfInBounds, Ne.symm hq]
  have hA1 := hI.2.2 k1 (ky_len_f g1).1 r1
  have hS2 : ∀ (locs1 : List Loc), (∀ q ∈ locs1, ky_A G q.base) → va_S (ky_A G) s.heap (H.setIfInBounds (G.2.1 k1) (vp_cell G.2.2.2.2.2 (n1, .inl (va_cpy (σ.1 k0) (σ.1 k1) (0 : Int32).toNatClampNeg (0 : Int32).toNatClampNeg z.toNatClampNeg)))) (locs ++ locs1) := by
    intro locs1 hL
    refine ⟨by simp; exact hS.1, fun q g1 g2 => ?_, fun q hq => ?_⟩
    · rw [oq q (fun e => g2 (by rw [e]; exact hA1))]
      exact hS.2.1 q g1 g2
    · rcases List.mem_append.mp hq with h | h
      · exact hS.2.2 q h
      · exact hL q h
  have hM2 : ky_M G s (ky_uR σ k1 (va_cpy (σ.1 k0) (σ.1 k1) 0 0 z.toNatClampNeg)) (H.setIfInBounds (G.2.1 k1) (vp_cell G.2.2.2.2.2 (n1, .inl (va_cpy (σ.1 k0) (σ.1 k1) (0 : Int32).toNatClampNeg (0 : Int32).toNatClampNeg z.toNatClampNeg)))) := by
    refine hM.putArr hI g1 r1 oq (fun a ha => ky_uR_ne ha) rfl ?_
    rw [ky_uR_row]
    simp [Array.getElem?_setIfInBounds, hl1]
  obtain ⟨t, a1, b1⟩ := k _ rfl p e R s m args below meth c _ _ cells slots mc ms ls C (hS2 _ (fun q hq => by
      obtain ⟨z, -, hz⟩ := List.mem_map.mp hq
      rw [← hz]
      exact hA1)) hM2 hl h1 h2 _ hheap X'
  exact ⟨t, step t a1, b1⟩
end KYt
