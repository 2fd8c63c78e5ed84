/-! ===== calls ===== -/
theorem ky_bad1 : (vx_atS RX3 295 ky_ex3 ["java/lang/RuntimeException", "java/lang/Exception"]).filter (fun w => !goodWord w) = [.declares (Bundle.initS "java/lang/RuntimeException"), .declares (Bundle.initS "java/lang/Exception"), .declares (Bundle.initS Bundle.tN), .castable ky_ex3 ky_ex3] := by decide +kernel
def ky_rm (d mc ms : Nat) : Room := { frames := d, cells := mc, slots := ms, locals := 35 * d }
def ky_wy (M : ky_Md) : List Cond := if M.2.2.2.2 = [] then .code M.1 M.2.1 M.2.2.1 M.2.2.2.1 :: ky_ws else .codeWith M.1 M.2.1 M.2.2.1 M.2.2.2.1 M.2.2.2.2 :: ky_ws
def ky_Pc (G : ky_G) (av : List Value) (σ : ky_St) : Array Value → State → Prop := fun a U => a = av.toArray ∧ ky_E G U U.heap ∧ ky_M G U σ U.heap ∧ ky_I G ∧ G.2.2.1 ≤ U.heap.size
/-- the method M, at these arguments and this state, ends so; it makes at most mc cells of ms slots -/
def ky_K (G : ky_G) (M : ky_Md) (d mc ms : Nat) (av : List Value) (σ : ky_St) (o : ky_O) (σ' : ky_St) : Prop :=
  vx_Met G.1 M.1 (ky_wy M) (ky_rm d mc ms) (ky_Pc G av σ) (ky_Qc G o σ') (ky_XC G o σ') mc ms (ky_A G)
theorem ky_blind {G : ky_G} {av : List Value} {σ : ky_St} : FrameBlind (ky_Pc G av σ) := by
  intro a U g mk h
  obtain ⟨h1, h2, h3, h4, h5⟩ := h
  have hW : U.WarmedH (U.calling g mk a).vm := State.WarmedH.refl U
  exact ⟨h1, h2.warm hW, h3.moved hW.alike, h4, h5⟩
section KYc
variable {G : ky_G} {M : ky_Md} {d kc ks pc n : Nat} {lv lv' : List (Nat × Value)} {st : List Value} {σ σ' : ky_St} {o : ky_O}
theorem ky_enter {av : List Value} (hh : M.2.2.2.2 = []) (hp : plainName M.1.cls = true) (hlen : (lg_sl av).length ≤ M.2.2.1) (hlv : lv_args 0 av = lv) (h : ky_T G M d kc ks 0 lv [] σ o σ') : ky_K G M d kc ks av σ o σ' := by
  have hwy : ky_wy M = .code M.1 M.2.1 M.2.2.1 M.2.2.2.1 :: ky_ws := if_pos hh
  refine vx_ofW (cc := M.2.1) (maxL := M.2.2.1) (ret := M.2.2.2.1) hp hwy ?_
  intro p e s m args below meth c s₁ B hml hex hv
  obtain ⟨rfl, hE, hM, hI, hB⟩ := hv
  have hts : ∀ w ∈ ky_wy M, w.before av.toArray s = true := atoms_spec B.pre
  have hts : ∀ w ∈ ky_ws, w.before av.toArray s = true := fun w hw => hts w (by rw [hwy]; exact List.mem_cons_of_mem _ hw)
  have hex2 : c.exceptionTable.toList = [] := by
    cases hq : c.exceptionTable.toList with
    | nil => rfl
    | cons a t => exact absurd (hex a (by rw [hq]; exact List.mem_cons_self)) id
  rw [lg_entry_eq]
  refine h p e _ s m _ below meth c s.heap [] 0 0 kc ks _ ⟨B.exec, B.bytes, B.returns, hml, findClass_of_methodNamed B.named, hts, hE, B.notSynchronized, by rw [hex2, hh]; rfl, hI, hB, Nat.le_refl _, Nat.le_refl _, Nat.le_refl _, Nat.le_refl _⟩ va_S.rf hM ?_ (by omega) (by omega)
  rw [← hlv]
  exact lv_entry av hlen
theorem ky_enterH {av : List Value} (hh : M.2.2.2.2 ≠ []) (hp : plainName M.1.cls = true) (hlen : (lg_sl av).length ≤ M.2.2.1) (hlv : lv_args 0 av = lv) (h : ky_T G M d kc ks 0 lv [] σ o σ') : ky_K G M d kc ks av σ o σ' := by
  have hwy : ky_wy M = .codeWith M.1 M.2.1 M.2.2.1 M.2.2.2.1 M.2.2.2.2 :: ky_ws := if_neg hh
  refine vx_ofWH (cc := M.2.1) (maxL := M.2.2.1) (ret := M.2.2.2.1) hp hwy ?_
  intro p e s m args below meth c s₁ B hml hv
  obtain ⟨rfl, hE, hM, hI, hB⟩ := hv
  have hts : ∀ w ∈ ky_wy M, w.before av.toArray s = true := atoms_spec B.pre
  have htab := vx_table (x := M.1) B (hts _ (by rw [hwy]; exact List.mem_cons_self))
  have hts : ∀ w ∈ ky_ws, w.before av.toArray s = true := fun w hw => hts w (by rw [hwy]; exact List.mem_cons_of_mem _ hw)
  rw [lg_entry_eq]
  refine h p e _ s m _ below meth c s.heap [] 0 0 kc ks _ ⟨B.exec, B.bytes, B.returns, hml, findClass_of_methodNamed B.named, hts, hE, B.notSynchronized, htab, hI, hB, Nat.le_refl _, Nat.le_refl _, Nat.le_refl _, Nat.le_refl _⟩ va_S.rf hM ?_ (by omega) (by omega)
  rw [← hlv]
  exact lv_entry av hlen
/-- a method that doesn't throw, as a plain contract -/
theorem ky_Met {av : List Value} {v : Option Value} {mc ms : Nat} (h : ky_K G M d mc ms av σ (.inr v) σ') : Met G.1 M.1 (ky_wy M) (ky_rm d mc ms) (ky_Pc G av σ) (ky_Qc G (.inr v) σ') mc ms (ky_A G) := by
  intro p e h1 h2 h3 s m args below h4 h5 h6 h7
  obtain ⟨n, oc, a1, a2, a3, a4⟩ := h p e h1 h2 h3 s m args below h4 h5 h6 h7
  refine ⟨n, oc, a1, a2, a3, ?_⟩
  rcases a4 with h | ⟨q, -, E, ce, L, hx, -⟩
  · exact h
  · exact absurd hx.1 (by intro z; cases z)
/-- what a program decides of a method once -/
def ky_okM (Mc : ky_Md) (na : Nat) : Prop := (Mc.2.2.2.2 = [] ∧ plainName Mc.1.cls = true ∧ Cond.code Mc.1 Mc.2.1 Mc.2.2.1 Mc.2.2.2.1 ∈ ky_ws ∧ Cond.initialized Mc.1.cls ∈ ky_ws) ∧ (Mc.1.cls ≠ "java/lang/invoke/MethodHandle" ∧ Mc.1.cls ≠ "java/lang/invoke/VarHandle") ∧
  (parseMethodDescriptor Mc.1.desc).map (fun d => d.parameters.length) = some na ∧ Mc.2.2.1 ≤ 16
def ky_okV (Mc : ky_Md) (na : Nat) : Prop := ky_okM Mc na ∧ Cond.instanceMethod Mc.1 ∈ ky_ws ∧ Cond.selects Mc.1.cls Mc.1 Mc.1 ∈ ky_ws
def ky_okS (Mc : ky_Md) (na : Nat) : Prop := ky_okM Mc na ∧ Cond.static Mc.1 ∈ ky_ws
theorem ky_okM.words {Mc : ky_Md} {na : Nat} (h : ky_okM Mc na) {args : Array Value} {s : State} (hts : ∀ w ∈ ky_ws, w.before args s = true) : ∀ w ∈ ky_wy Mc, ∀ (a' : Array Value) (U : State), s.WarmedH U.vm → w.before a' U = true := by
  intro w hw a' U hW
  have hm : w ∈ ky_ws := by
    rw [show ky_wy Mc = .code Mc.1 Mc.2.1 Mc.2.2.1 Mc.2.2.2.1 :: ky_ws from if_pos h.1.1] at hw
    rcases List.mem_cons.mp hw with e | hw
    · rw [e]; exact h.1.2.2.1
    · exact hw
  exact word_at hW (ky_good hm) (hts w hm)
theorem ky_nargs {Mc : ky_Md} {na : Nat} (h : (parseMethodDescriptor Mc.1.desc).map (fun d => d.parameters.length) = some na) : ∀ sig, parseMethodDescriptor Mc.1.desc = some sig → na = sig.parameters.length := by
  intro sig h2
  rw [h2] at h
  exact (Option.some.inj h).symm
/-- behind a call -/
theorem ky_go {p : Program} {e : Env} {R : Room} {s : State} {m : MethodId} {args : Array Value} {below : List Frame} {meth : Method} {c : Code} {H H0 : Heap} {locs : List Loc} {cells slots mc ms : Nat} {Q : State → Prop} {ls : Array Slot} {st0 rest : List Value} {a : Array Value} {o1 : ky_O} {σ1 : ky_St}
    (hr : vx_Run p G.1 e R s m args below meth c H locs cells slots mc ms (F0 m pc ls st0) rest (ky_Qc G o1 σ1 a) (ky_XC G o1 σ1) (ky_A G)) (hS : va_S (ky_A G) H0 H locs)
    (kx : ∀ (E : String) (ce : Cell) (q9 : Addr) (H1 : Heap) (locs1 : List Loc), o1 = .inl E → ky_M G s σ1 H1 → va_S (ky_A G) H0 H1 locs1 → H1[q9]? = some ce → ce.vm = .none → s.vm.findClass E = some ce.cls → vx_W p G.1 e R s m args below meth c H1 locs1 (cells + mc) (slots + ms) Q (F0 m pc ls rest) q9)
    (kk : ∀ (v : Option Value) (H1 : Heap) (locs1 : List Loc), o1 = .inr v → ky_M G s σ1 H1 → va_S (ky_A G) H0 H1 locs1 → W p G.1 e R s m args below meth c H1 locs1 (cells + mc) (slots + ms) Q (F0 m (pc + 3) ls (v.toList ++ rest))) : W p G.1 e R s m args below meth c H locs cells slots Q (F0 m pc ls st0) := by
  intro T hT X
  rcases hr T hT X with ⟨v, st₀, t, T', L, h0, X', hL, e1, e2, ⟨v', hv, ho, hm, hF⟩, go⟩ | ⟨q, st₀, t, T', L, E, ce, h0, X', hL, e1, e2, ⟨ho, hm, hF⟩, hce, hcv, hcl, go⟩
  · cases hv
    obtain ⟨k1, k2, k3⟩ := vx_keep h0 e1 hS (fun q _ h => h) (fun q h => h) hL hF
    have hal : t.vm.Alike s.vm := by rw [← e2]; exact X'.warmed.alike.symm
    obtain ⟨t2, a1, b1⟩ := kk v T'.heap (locs ++ L) ho (by rw [e1]; exact hm.moved hal) k3 T' rfl X'
    exact ⟨t2, go t2 a1, b1⟩
  · obtain ⟨k1, k2, k3⟩ := vx_keep h0 e1 hS (fun q _ h => h) (fun q h => h) hL hF
    have hal : t.vm.Alike s.vm := by rw [← e2]; exact X'.warmed.alike.symm
    obtain ⟨t2, a1, b1⟩ := kx E ce q T'.heap (locs ++ L) ho (by rw [e1]; exact hm.moved hal) k3 (by rw [e1]; exact hce) hcv hcl T' rfl X'
    exact ⟨t2, go.trans a1, b1⟩
theorem ky_goA {p : Program} {e : Env} {R : Room} {s : State} {m : MethodId} {args : Array Value} {below : List Frame} {meth : Method} {c : Code} {H H0 : Heap} {locs : List Loc} {cells slots mc ms : Nat} {Q : State → Prop} {ls : Array Slot} {st0 rest : List Value} {a : Array Value} {v1 : Option Value} {σ1 : ky_St}
    (hr : va_Run p G.1 e R s m args below meth c H locs cells slots mc ms (F0 m pc ls st0) rest (ky_Qc G (.inr v1) σ1 a) (ky_A G)) (hS : va_S (ky_A G) H0 H locs)
    (kk : ∀ (H1 : Heap) (locs1 : List Loc), ky_M G s σ1 H1 → va_S (ky_A G) H0 H1 locs1 → W p G.1 e R s m args below meth c H1 locs1 (cells + mc) (slots + ms) Q (F0 m (pc + 3) ls (v1.toList ++ rest))) : W p G.1 e R s m args below meth c H locs cells slots Q (F0 m pc ls st0) := by
  intro T hT X
  obtain ⟨v, st₀, t, T', L, h0, X', hL, e1, e2, ⟨v', hv, ho, hm, hF⟩, go⟩ := hr T hT X
  cases hv
  cases ho
  obtain ⟨k1, k2, k3⟩ := vx_keep h0 e1 hS (fun q _ h => h) (fun q h => h) hL hF
  have hal : t.vm.Alike s.vm := by rw [← e2]; exact X'.warmed.alike.symm
  obtain ⟨t2, a1, b1⟩ := kk T'.heap (locs ++ L) (by rw [e1]; exact hm.moved hal) k3 T' rfl X'
  exact ⟨t2, go t2 a1, b1⟩
theorem ky_pre {s : State} {H : Heap} {locs : List Loc} (hE : ky_E G s s.heap) (hS : va_S (ky_A G) s.heap H locs) (hM : ky_M G s σ H) (hI : ky_I G) (hB : G.2.2.1 ≤ s.heap.size) (av : List Value) : ∀ U : State, U.heap = H → s.WarmedH U.vm → ky_Pc G av σ av.toArray U := by
  intro U hU hW
  refine ⟨rfl, ?_, ?_, hI, ?_⟩
  · rw [hU]
    exact (hE.kept hS.2.1).warm hW
  · rw [hU]
    exact hM.moved hW.alike
  · rw [hU]
    exact Nat.le_trans hB hS.1
theorem ky_runV {Mc : ky_Md} {i na k0 kc2 ks2 : Nat} {as : List Value} {o1 : ky_O} {σ1 : ky_St} {stk : List Value} {c5 : Nat} {q : vw_C} (hM1 : ky_K G Mc d kc2 ks2 (ky_r G k0 :: as) σ o1 σ1) (ok : ky_okV Mc na) (hlk : Cond.methodLink M.1.cls i Mc.1 ∈ ky_ws) (hc : ky_cl k0 = c5) (hq : ky_cls[c5]? = some q) (hq2 : q.1 = Mc.1.cls)
    (hna : as.length = na) (hstk : stk = as.reverse ++ ky_r G k0 :: st) (hst : (st.map fun v => v.category).sum ≤ 8) (hd : decode M.2.1 pc = .ok (.invokevirtual i, 3))
    {p : Program} {e : Env} {R : Room} {s : State} {m : MethodId} {args : Array Value} {below : List Frame} {meth : Method} {c : Code} {H : Heap} {locs : List Loc} {cells slots mc ms : Nat} {ls : Array Slot}
    (C : ky_C G M (d + 1) p R s m args meth c mc ms) (hS : va_S (ky_A G) s.heap H locs) (hM : ky_M G s σ H) (hl : lv_has ls M.2.2.1 lv) (h1 : cells + (kc + kc2) ≤ mc) (h2 : slots + (ks + ks2) ≤ ms) :
    vx_Run p G.1 e R s m args below meth c H locs cells slots kc2 ks2 (F0 m pc ls stk) st (ky_Qc G o1 σ1 (ky_r G k0 :: as).toArray) (ky_XC G o1 σ1) (ky_A G) := by
  obtain ⟨hx, hb, hr, hml, hown, hts, hE, hlk2, hex, hI, hB, hf, hlo, hmc, hms⟩ := C
  obtain ⟨⟨hcq5, hN, -⟩, -⟩ := (⟨ky_cq hq, trivial⟩ : _ ∧ True)
  subst hc
  obtain ⟨cell, q1, q2, q3, q4⟩ := hM.1 k0 hcq5
  obtain ⟨-, hfc, -⟩ := hE.1 _ q hq
  refine vx_runV (As := as) (C := Mc.1.cls) (index := i) (n := na) (bytes := Mc.2.1) (maxL := Mc.2.2.1) (ret := Mc.2.2.2.1) ⟨hx, hb, hml, hown, hts⟩ hM1 ⟨⟨rfl, rfl, hf, ?_, ok.1.words hts, ?_, hts _ ok.1.1.2.2.1, hts _ ok.1.1.2.2.2, ok.1.2.1, ky_nargs ok.1.2.2.1, hts _ hlk⟩, hts _ ok.2.1, hts _ ok.2.2⟩
    ⟨ky_blind, ⟨cell, q1, by rw [q3]; rfl, ?_⟩, ky_pre hE hS hM hI hB _⟩ rfl hna hl.1 hstk (lv_room hst) hd ⟨by omega, by omega⟩
  · have := ok.1.2.2.2
    show 8 + (Mc.2.2.1 + 11) + 35 * d ≤ R.locals
    omega
  · rw [show ky_wy Mc = .code Mc.1 Mc.2.1 Mc.2.2.1 Mc.2.2.2.1 :: ky_ws from if_pos ok.1.1.1]; exact List.mem_cons_self
  · rw [← hq2, q2]; exact hfc
theorem ky_callV {Mc : ky_Md} {i na k0 kc2 ks2 : Nat} {as : List Value} {v : Option Value} {σ1 : ky_St} {stk : List Value} {c5 : Nat} {q : vw_C} (hM1 : ky_K G Mc d kc2 ks2 (ky_r G k0 :: as) σ (.inr v) σ1) (ok : ky_okV Mc na) (hlk : Cond.methodLink M.1.cls i Mc.1 ∈ ky_ws) (hc : ky_cl k0 = c5) (hq : ky_cls[c5]? = some q) (hq2 : q.1 = Mc.1.cls)
    (hna : as.length = na) (hstk : stk = as.reverse ++ ky_r G k0 :: st) (hst : (st.map fun v => v.category).sum ≤ 8) (hd : decode M.2.1 pc = .ok (.invokevirtual i, 3)) (hn : pc + 3 = n)
    (k : ky_T G M (d + 1) kc ks n lv (v.toList ++ st) σ1 o σ') : ky_T G M (d + 1) (kc + kc2) (ks + ks2) pc lv stk σ o σ' := by
  intro p e R s m args below meth c H locs cells slots mc ms ls C hS hM hl h1 h2
  subst hn
  refine ky_go (ky_runV hM1 ok hlk hc hq hq2 hna hstk hst hd C hS hM hl h1 h2) hS (fun E ce q9 H1 locs1 z => (by cases z)) (fun v2 H1 locs1 z hM2 hS2 => ?_)
  cases z
  exact k p e R s m args below meth c H1 locs1 _ _ mc ms ls C hS2 hM2 hl (by omega) (by omega)
/-- the callee throws, nothing here catches it -/
theorem ky_callVX {Mc : ky_Md} {i na k0 kc2 ks2 : Nat} {as : List Value} {E : String} {σ1 : ky_St} {stk : List Value} {c5 : Nat} {q : vw_C} (hM1 : ky_K G Mc d kc2 ks2 (ky_r G k0 :: as) σ (.inl E) σ1) (ok : ky_okV Mc na) (hlk : Cond.methodLink M.1.cls i Mc.1 ∈ ky_ws) (hc : ky_cl k0 = c5) (hq : ky_cls[c5]? = some q) (hq2 : q.1 = Mc.1.cls)
    (hna : as.length = na) (hstk : stk = as.reverse ++ ky_r G k0 :: st) (hst : (st.map fun v => v.category).sum ≤ 8) (hd : decode M.2.1 pc = .ok (.invokevirtual i, 3)) (hh : M.2.2.2.2 = []) : ky_T G M (d + 1) (kc + kc2) (ks + ks2) pc lv stk σ (.inl E) σ1 := by
  intro p e R s m args below meth c H locs cells slots mc ms ls C hS hM hl h1 h2
  refine ky_go (ky_runV hM1 ok hlk hc hq hq2 hna hstk hst hd C hS hM hl h1 h2) hS (fun E2 ce q9 H1 locs1 z hM2 hS2 hce hcv hcl => ?_) (fun v2 H1 locs1 z => (by cases z))
  cases z
  exact vx_out (by rw [C.2.2.2.2.2.2.2.2.1, hh]; intro x hx; cases hx) C.2.2.2.2.2.2.2.1 hce hcv hcl (fun t ht hal => ⟨rfl, (show ky_M G s σ1 t.heap by rw [ht]; exact hM2).moved hal, hS2.F ht⟩) hS2.2.2 (by omega) (by omega)
theorem ky_runS {Mc : ky_Md} {i na kc2 ks2 : Nat} {as : List Value} {o1 : ky_O} {σ1 : ky_St} {stk : List Value} (hM1 : ky_K G Mc d kc2 ks2 as σ o1 σ1) (ok : ky_okS Mc na) (hlk : Cond.methodLink M.1.cls i Mc.1 ∈ ky_ws)
    (hna : as.length = na) (hstk : stk = as.reverse ++ st) (hst : (st.map fun v => v.category).sum ≤ 8) (hd : decode M.2.1 pc = .ok (.invokestatic i, 3))
    {p : Program} {e : Env} {R : Room} {s : State} {m : MethodId} {args : Array Value} {below : List Frame} {meth : Method} {c : Code} {H : Heap} {locs : List Loc} {cells slots mc ms : Nat} {ls : Array Slot}
    (C : ky_C G M (d + 1) p R s m args meth c mc ms) (hS : va_S (ky_A G) s.heap H locs) (hM : ky_M G s σ H) (hl : lv_has ls M.2.2.1 lv) (h1 : cells + (kc + kc2) ≤ mc) (h2 : slots + (ks + ks2) ≤ ms) :
    vx_Run p G.1 e R s m args below meth c H locs cells slots kc2 ks2 (F0 m pc ls stk) st (ky_Qc G o1 σ1 as.toArray) (ky_XC G o1 σ1) (ky_A G) := by
  obtain ⟨hx, hb, hr, hml, hown, hts, hE, hlk2, hex, hI, hB, hf, hlo, hmc, hms⟩ := C
  refine vx_runS (As := as) (index := i) (n := na) (bytes := Mc.2.1) (maxL := Mc.2.2.1) (ret := Mc.2.2.2.1) ⟨hx, hb, hml, hown, hts⟩ hM1 ⟨⟨rfl, rfl, hf, ?_, ok.1.words hts, ?_, hts _ ok.1.1.2.2.1, hts _ ok.1.1.2.2.2, ok.1.2.1, ky_nargs ok.1.2.2.1, hts _ hlk⟩, hts _ ok.2⟩
    ⟨ky_blind, ky_pre hE hS hM hI hB _⟩ rfl hna hl.1 hstk (lv_room hst) hd ⟨by omega, by omega⟩
  · have := ok.1.2.2.2
    show 8 + (Mc.2.2.1 + 11) + 35 * d ≤ R.locals
    omega
  · rw [show ky_wy Mc = .code Mc.1 Mc.2.1 Mc.2.2.1 Mc.2.2.2.1 :: ky_ws from if_pos ok.1.1.1]; exact List.mem_cons_self
theorem ky_callS {Mc : ky_Md} {i na kc2 ks2 : Nat} {as : List Value} {v : Option Value} {σ1 : ky_St} {stk : List Value} (hM1 : ky_K G Mc d kc2 ks2 as σ (.inr v) σ1) (ok : ky_okS Mc na) (hlk : Cond.methodLink M.1.cls i Mc.1 ∈ ky_ws)
    (hna : as.length = na) (hstk : stk = as.reverse ++ st) (hst : (st.map fun v => v.category).sum ≤ 8) (hd : decode M.2.1 pc = .ok (.invokestatic i, 3)) (hn : pc + 3 = n)
    (k : ky_T G M (d + 1) kc ks n lv (v.toList ++ st) σ1 o σ') : ky_T G M (d + 1) (kc + kc2) (ks + ks2) pc lv stk σ o σ' := by
  intro p e R s m args below meth c H locs cells slots mc ms ls C hS hM hl h1 h2
  subst hn
  refine ky_go (ky_runS hM1 ok hlk hna hstk hst hd C hS hM hl h1 h2) hS (fun E ce q9 H1 locs1 z => (by cases z)) (fun v2 H1 locs1 z hM2 hS2 => ?_)
  cases z
  exact k p e R s m args below meth c H1 locs1 _ _ mc ms ls C hS2 hM2 hl (by omega) (by omega)
theorem ky_callSX {Mc : ky_Md} {i na kc2 ks2 : Nat} {as : List Value} {E : String} {σ1 : ky_St} {stk : List Value} (hM1 : ky_K G Mc d kc2 ks2 as σ (.inl E) σ1) (ok : ky_okS Mc na) (hlk : Cond.methodLink M.1.cls i Mc.1 ∈ ky_ws)
    (hna : as.length = na) (hstk : stk = as.reverse ++ st) (hst : (st.map fun v => v.category).sum ≤ 8) (hd : decode M.2.1 pc = .ok (.invokestatic i, 3)) (hh : M.2.2.2.2 = []) : ky_T G M (d + 1) (kc + kc2) (ks + ks2) pc lv stk σ (.inl E) σ1 := by
  intro p e R s m args below meth c H locs cells slots mc ms ls C hS hM hl h1 h2
  refine ky_go (ky_runS hM1 ok hlk hna hstk hst hd C hS hM hl h1 h2) hS (fun E2 ce q9 H1 locs1 z hM2 hS2 hce hcv hcl => ?_) (fun v2 H1 locs1 z => (by cases z))
  cases z
  exact vx_out (by rw [C.2.2.2.2.2.2.2.2.1, hh]; intro x hx; cases hx) C.2.2.2.2.2.2.2.1 hce hcv hcl (fun t ht hal => ⟨rfl, (show ky_M G s σ1 t.heap by rw [ht]; exact hM2).moved hal, hS2.F ht⟩) hS2.2.2 (by omega) (by omega)
/-- a private static method of a nest mate -/
theorem ky_callN {Mc : ky_Md} {i na kc2 ks2 : Nat} {as : List Value} {v : Option Value} {σ1 : ky_St} {stk : List Value} (hM1 : ky_K G Mc d kc2 ks2 as σ (.inr v) σ1) (ok : ky_okS Mc na) (hlk : Cond.methodLinkNest M.1.cls i Mc.1 RX3 ∈ ky_nest)
    (hna : as.length = na) (hstk : stk = as.reverse ++ st) (hst : (st.map fun v => v.category).sum ≤ 8) (hd : decode M.2.1 pc = .ok (.invokestatic i, 3)) (hn : pc + 3 = n)
    (k : ky_T G M (d + 1) kc ks n lv (v.toList ++ st) σ1 o σ') : ky_T G M (d + 1) (kc + kc2) (ks + ks2) pc lv stk σ o σ' := by
  intro p e R s m args below meth c H locs cells slots mc ms ls C hS hM hl h1 h2
  subst hn
  obtain ⟨hx, hb, hr, hml, hown, hts, hE, hlk2, hex, hI, hB, hf, hlo, hmc, hms⟩ := id C
  refine ky_goA (va_runSN (As := as) (index := i) (n := na) (host := RX3) (rest := st) (bytes := Mc.2.1) (maxL := Mc.2.2.1) (ret := Mc.2.2.2.1) ⟨hx, hb, hml, hown, hts⟩ (ky_Met hM1) ⟨⟨⟨rfl, rfl, hf, ?_, ok.1.words hts, ?_⟩, hts _ ok.1.1.2.2.1, hts _ ok.1.1.2.2.2, ok.1.2.1, ky_nargs ok.1.2.2.1, va_Nw.use rfl (hE.2.2.1 _ hlk)⟩, hts _ ok.2, trivial⟩
    ⟨ky_blind, ky_pre hE hS hM hI hB _⟩ rfl hna hl.1 hstk (lv_room hst) hd ⟨by omega, by omega⟩) hS (fun H1 locs1 hM2 hS2 => ?_)
  · have := ok.1.2.2.2
    show 8 + (Mc.2.2.1 + 11) + 35 * d ≤ R.locals
    omega
  · rw [show ky_wy Mc = .code Mc.1 Mc.2.1 Mc.2.2.1 Mc.2.2.2.1 :: ky_ws from if_pos ok.1.1.1]; exact List.mem_cons_self
  · exact k p e R s m args below meth c H1 locs1 _ _ mc ms ls C hS2 hM2 hl (by omega) (by omega)
end KYc
