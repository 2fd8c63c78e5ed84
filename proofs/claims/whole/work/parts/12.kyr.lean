section KYr
variable {G : ky_G} {M : ky_Md} {d kc ks pc n : Nat} {lv lv' : List (Nat × Value)} {st : List Value} {σ σ' : ky_St} {o : ky_O}
theorem ky_getf {i k f c : Nat} {q : vw_C} {v : Value} (hd : decode M.2.1 pc = .ok (.getfield i, 3)) (hn : pc + 3 = n) (hc : ky_cl k = c) (hq : ky_cls[c]? = some q) (hf : f < q.2.2) (hlk : Cond.fieldLink M.1.cls i (q.2.1 f).1 (q.2.1 f).2.1 (q.2.1 f).2.2.1 ∈ ky_ws) (hv : ky_val G σ k f = v)
    (k0 : ky_T G M d kc ks n lv (v :: st) σ o σ') : ky_T G M d kc ks pc lv (ky_r G k :: st) σ o σ' := by
  intro p e R s m args below meth c0 H locs cells slots mc ms ls C hS hM hl h1 h2
  subst hn
  subst hc
  obtain ⟨hc5, hN, hin, -, -⟩ := ky_cq hq
  obtain ⟨cell, q1, q2, q3, q4⟩ := hM.1 k hc5
  obtain ⟨hSl, hfc, kC, hkC, hkind⟩ := C.2.2.2.2.2.2.1.1 _ q hq
  obtain ⟨cf, kf, fi, f0, hi, hsl⟩ := hSl f hf
  refine W.getf C.1 C.2.1 C.2.2.2.2.1 (C.2.2.2.2.2.1 _ hlk) hi (u_facts hfc hkC (u_lays C.2.2.2.2.2.1 hin hf) hi).1 q1 (by rw [q3]; exact fun h => by cases h) (v := v) ?_ rfl rfl hd (k0 p e R s m args below meth c0 H locs cells slots mc ms ls C hS hM hl h1 h2)
  rw [hsl, q4 f (by rw [hN]; exact hf), hv]
theorem ky_putW {i k f c : Nat} {q : vw_C} {v : Value} {σ1 : ky_St} {fty : FieldType} (hd : decode M.2.1 pc = .ok (.putfield i, 3)) (hn : pc + 3 = n) (hc : ky_cl k = c) (hq : ky_cls[c]? = some q) (hf : f < q.2.2) (hlk : Cond.fieldLink M.1.cls i (q.2.1 f).1 (q.2.1 f).2.1 (q.2.1 f).2.2.1 ∈ ky_ws)
    (hfin : (q.2.1 f).2.2.2 = false) (hpd : parseFieldDescriptor (q.2.1 f).2.2.1 = some fty) (hnar : narrow fty v = v) (hfit : fits fty v = true) (hσ : ∀ a, a ≠ k → σ1.1 a = σ.1 a ∧ σ1.2 a = σ.2 a) (hval : ∀ j, updV (ky_val G σ k) f v j = ky_val G σ1 k j)
    (k0 : ky_T G M d kc ks n lv st σ1 o σ') : ky_T G M d kc ks pc lv (v :: ky_r G k :: st) σ o σ' := by
  intro p e R s m args below meth c0 H locs cells slots mc ms ls C hS hM hl h1 h2
  subst hn
  subst hc
  obtain ⟨hc5, hN, hin, ⟨ty0, hty⟩, hnm⟩ := ky_cq hq
  obtain ⟨cell, q1, q2, q3, q4⟩ := hM.1 k hc5
  have hK := C.2.2.2.2.2.2.1.K
  have hap := va_apart (own := M.1.cls) (C := q.1) (T := q.2.1) (N := q.2.2) C.2.2.2.2.2.1 hin ty0 hty hnm hK hq
  obtain ⟨hSl, hfc, kC, hkC, hkind⟩ := C.2.2.2.2.2.2.1.1 _ q hq
  obtain ⟨cf, kf, fi, f0, hi, hsl⟩ := hSl f hf
  have hlay := C.2.2.2.2.2.1 _ (hin _ (u_in_lay hf))
  unfold u_lay at hlay
  rw [if_neg (by rw [hfin]; decide)] at hlay
  have hst := (u_facts hfc hkC (u_lays C.2.2.2.2.2.1 hin hf) hi).1
  have h6 := u_store hfc hkC hkind hlay hi hpd hnar hfit
  rw [hN] at q4
  refine W.putK C.1 C.2.1 (f := f0) ⟨C.2.2.2.2.1, C.2.2.2.2.2.1 _ hlk, ⟨_, _, _, hi⟩, hst⟩ (by rw [q2]; exact h6) q1 q3 (by rw [hsl]; exact k2_hasslot (q4 f hf)) rfl rfl hd fun H' e1 e2 e3 => ?_
  rw [hsl] at e1 ⊢
  refine k0 p e R s m args below meth c0 H' _ cells slots mc ms ls C (hS.put e2 e3 (C.2.2.2.2.2.2.2.2.2.1.2.2 k (ky_cl_f (L := 0) hc5).1 (ky_cl_f (L := 0) hc5).2.1)) (hM.putObj C.2.2.2.2.2.2.2.2.2.1 hc5 e3 hσ ?_) hl h1 h2
  rw [hN]
  exact t_OB.to (V := updV (ky_val G σ k) f v) ⟨_, e1, q2, q3, t_set q4 hap hf v⟩ (fun j _ => hval j)
theorem ky_putf {i k f c : Nat} {q : vw_C} {x : Int32} (hd : decode M.2.1 pc = .ok (.putfield i, 3)) (hn : pc + 3 = n) (hc : ky_cl k = c) (hq : ky_cls[c]? = some q) (hf : f < q.2.2) (hlk : Cond.fieldLink M.1.cls i (q.2.1 f).1 (q.2.1 f).2.1 (q.2.1 f).2.2.1 ∈ ky_ws)
    (hfin : (q.2.1 f).2.2.2 = false) (hpd : parseFieldDescriptor (q.2.1 f).2.2.1 = some .int) (hty : ky_ty c f = 0)
    (k0 : ∀ σ1, σ1 = ky_u1 σ k f x → ky_T G M d kc ks n lv st σ1 o σ') : ky_T G M d kc ks pc lv (.int x :: ky_r G k :: st) σ o σ' := by
  refine ky_putW (σ1 := ky_u1 σ k f x) hd hn hc hq hf hlk hfin hpd rfl rfl (fun a ha => ⟨ky_u1_ne ha, rfl⟩) (fun j => ?_) (k0 _ rfl)
  unfold updV ky_val
  by_cases hj : j = f
  · subst hj
    rw [if_pos rfl, hc, if_pos hty, ky_u1_row]
    simp [upd]
  · rw [if_neg hj, ky_u1_row]
    simp [upd, hj, ky_u1]
theorem ky_putl {i k f c : Nat} {q : vw_C} {x : Int64} (hd : decode M.2.1 pc = .ok (.putfield i, 3)) (hn : pc + 3 = n) (hc : ky_cl k = c) (hq : ky_cls[c]? = some q) (hf : f < q.2.2) (hlk : Cond.fieldLink M.1.cls i (q.2.1 f).1 (q.2.1 f).2.1 (q.2.1 f).2.2.1 ∈ ky_ws)
    (hfin : (q.2.1 f).2.2.2 = false) (hpd : parseFieldDescriptor (q.2.1 f).2.2.1 = some .long) (hty : ∀ j, ky_ty c j = 0 ∨ ky_ty c j = 1 ∨ j = f) (hty2 : ky_ty c f = 2)
    (k0 : ∀ σ1, σ1 = ky_uJ σ k x → ky_T G M d kc ks n lv st σ1 o σ') : ky_T G M d kc ks pc lv (.long x :: ky_r G k :: st) σ o σ' := by
  refine ky_putW (σ1 := ky_uJ σ k x) hd hn hc hq hf hlk hfin hpd rfl rfl (fun a ha => ⟨rfl, if_neg ha⟩) (fun j => ?_) (k0 _ rfl)
  unfold updV ky_val
  rw [hc]
  by_cases hj : j = f
  · subst hj
    rw [if_pos rfl, hty2]
    simp [ky_uJ]
  · rw [if_neg hj]
    rcases hty j with h | h | h
    · rw [h]; rfl
    · rw [h]; rfl
    · exact absurd h hj
theorem ky_iald {k N : Nat} {x : Int32} (hd : decode M.2.1 pc = .ok (.iaload, 1)) (hn : pc + 1 = n) (hlen : ky_len G.2.2.2.1 k = some N) (hin : vp_in x N)
    (k0 : ky_T G M d kc ks n lv (.int (σ.1 k x.toNatClampNeg) :: st) σ o σ') : ky_T G M d kc ks pc lv (.int x :: ky_r G k :: st) σ o σ' := by
  intro p e R s m args below meth c0 H locs cells slots mc ms ls C hS hM hl h1 h2
  subst hn
  obtain ⟨scr, b1, b2, b3, b4, b5⟩ := hM.X C.2.2.2.2.2.2.1.2.1 hlen
  exact W.iald (v := .int (σ.1 k x.toNatClampNeg)) C.1 C.2.1 b1 b2 b3 (by rw [b4]; exact hin) (b5 _ (ky_lt hin)) rfl rfl hd (k0 p e R s m args below meth c0 H locs cells slots mc ms ls C hS hM hl h1 h2)
theorem ky_alen {k N : Nat} (hd : decode M.2.1 pc = .ok (.arraylength, 1)) (hn : pc + 1 = n) (hlen : ky_len G.2.2.2.1 k = some N)
    (k0 : ky_T G M d kc ks n lv (.int (Int32.ofNat N) :: st) σ o σ') : ky_T G M d kc ks pc lv (ky_r G k :: st) σ o σ' := by
  intro p e R s m args below meth c0 H locs cells slots mc ms ls C hS hM hl h1 h2
  subst hn
  obtain ⟨scr, b1, b2, b3, b4, b5⟩ := hM.X C.2.2.2.2.2.2.1.2.1 hlen
  exact W.alen (n := Int32.ofNat N) C.1 C.2.1 b1 b2 (by rw [b4] <;> rfl) rfl rfl hd (k0 p e R s m args below meth c0 H locs cells slots mc ms ls C hS hM hl h1 h2)
theorem ky_alenR (hd : decode M.2.1 pc = .ok (.arraylength, 1)) (hn : pc + 1 = n)
    (k0 : ky_T G M d kc ks n lv (.int 6 :: st) σ o σ') : ky_T G M d kc ks pc lv (ky_r G 5 :: st) σ o σ' := by
  intro p e R s m args below meth c0 H locs cells slots mc ms ls C hS hM hl h1 h2
  subst hn
  obtain ⟨scr, b1, b2, b3, b4, b5⟩ := hM.2.2.1
  exact W.alen (n := 6) C.1 C.2.1 b1 b2 (by rw [b4]; rfl) rfl rfl hd (k0 p e R s m args below meth c0 H locs cells slots mc ms ls C hS hM hl h1 h2)
theorem ky_aald {x : Int32} (hd : decode M.2.1 pc = .ok (.aaload, 1)) (hn : pc + 1 = n) (hin : vp_in x 6)
    (k0 : ky_T G M d kc ks n lv (ky_r G (33 + 13 * x.toNatClampNeg) :: st) σ o σ') : ky_T G M d kc ks pc lv (.int x :: ky_r G 5 :: st) σ o σ' := by
  intro p e R s m args below meth c0 H locs cells slots mc ms ls C hS hM hl h1 h2
  subst hn
  obtain ⟨scr, b1, b2, b3, b4, b5⟩ := hM.2.2.1
  exact W.aald (v := ky_r G (33 + 13 * x.toNatClampNeg)) (ty := .object RX0) C.1 C.2.1 b1 b2 rfl b3 (by rw [b4]; exact hin) (b5 _ (ky_lt hin)) rfl rfl hd (k0 p e R s m args below meth c0 H locs cells slots mc ms ls C hS hM hl h1 h2)
theorem ky_lald (hd : decode M.2.1 pc = .ok (.laload, 1)) (hn : pc + 1 = n)
    (k0 : ky_T G M d kc ks n lv (.long (σ.2 16) :: st) σ o σ') : ky_T G M d kc ks pc lv (.int 0 :: ky_r G 16 :: st) σ o σ' := by
  intro p e R s m args below meth c0 H locs cells slots mc ms ls C hS hM hl h1 h2
  subst hn
  obtain ⟨scr, b1, b2, b3, b4, b5⟩ := hM.2.2.2
  exact W.lald (j := 0) (v := .long (σ.2 16)) C.1 C.2.1 b1 b2 b3 (by rw [b4]; decide) b5 rfl rfl hd (k0 p e R s m args below meth c0 H locs cells slots mc ms ls C hS hM hl h1 h2)
theorem ky_last {x : Int64} (hd : decode M.2.1 pc = .ok (.lastore, 1)) (hn : pc + 1 = n)
    (k0 : ∀ σ1, σ1 = ky_uJ σ 16 x → ky_T G M d kc ks n lv st σ1 o σ') : ky_T G M d kc ks pc lv (.long x :: .int 0 :: ky_r G 16 :: st) σ o σ' := by
  intro p e R s m args below meth c0 H locs cells slots mc ms ls C hS hM hl h1 h2
  subst hn
  obtain ⟨scr, b1, b2, b3, b4, b5⟩ := hM.2.2.2
  refine W.last C.1 C.2.1 b1 b2 b3 (by rw [b4]; decide) rfl rfl hd fun H1 e1 z oq => ?_
  refine k0 _ rfl p e R s m args below meth c0 H1 _ cells slots mc ms ls C (hS.put z oq (C.2.2.2.2.2.2.2.2.2.1.2.2 16 rfl rfl)) (hM.putOut C.2.2.2.2.2.2.2.2.2.1 oq rfl (fun a ha => if_neg ha) ⟨_, e1, b2, b3, ?_, ?_⟩) hl h1 h2
  · simpa [Cell.setSlot] using b4
  · have h0 : 0 < scr.slots.size := by rw [b4]; decide
    simp [Cell.setSlot, ky_uJ, h0]
theorem ky_iast {k N : Nat} {x y : Int32} (hd : decode M.2.1 pc = .ok (.iastore, 1)) (hn : pc + 1 = n) (hlen : ky_len G.2.2.2.1 k = some N) (hro : ky_ro k = false) (hin : vp_in x N)
    (k0 : ∀ σ1, σ1 = ky_u1 σ k x.toNatClampNeg y → ky_T G M d kc ks n lv st σ1 o σ') : ky_T G M d kc ks pc lv (.int y :: .int x :: ky_r G k :: st) σ o σ' := by
  intro p e R s m args below meth c0 H locs cells slots mc ms ls C hS hM hl h1 h2
  subst hn
  have hcell : H[G.2.1 k]? = some (vp_cell G.2.2.2.2.2 (N, .inl (σ.1 k))) := by
    rcases hM.2.1 k N hlen with ⟨h, -⟩ | ⟨-, h⟩
    · rw [hro] at h; cases h
    · exact h
  refine W.iast C.1 C.2.1 hcell (C.2.2.2.2.2.2.1.2.1 N (fun j => .int (σ.1 k j))) (fun q => by cases q) (by show ¬ (x < 0 ∨ (arrV _ _ _).slots.size ≤ _); rw [arrV_size]; exact hin) rfl rfl hd fun H1 e1 z oq => ?_
  refine k0 _ rfl p e R s m args below meth c0 H1 _ cells slots mc ms ls C (hS.put z oq (C.2.2.2.2.2.2.2.2.2.1.2.2 k (ky_len_f hlen).1 hro)) (hM.putArr C.2.2.2.2.2.2.2.2.2.1 hlen hro oq (fun a ha => ky_u1_ne ha) rfl ?_) hl h1 h2
  rw [e1, ky_u1_row, vp_cell_i, vp_cell_i, arrV_store]
  congr 2
  funext q
  by_cases hq : q = x.toNatClampNeg
  · subst hq
    simp [updV, upd]
  · simp [updV, upd, hq]
theorem ky_gets {i : Nat} (hd : decode M.2.1 pc = .ok (.getstatic i, 3)) (hn : pc + 3 = n) (nm : String) (k : Nat) (hk : (nm = "WHOLE" ∧ k = 13) ∨ (nm = "PRICE" ∧ k = 14)) (hlk : Cond.fieldLink M.1.cls i RX3 nm "[I" ∈ ky_ws)
    (k0 : ky_T G M d kc ks n lv (ky_r G k :: st) σ o σ') : ky_T G M d kc ks pc lv st σ o σ' := by
  intro p e R s m args below meth c0 H locs cells slots mc ms ls C hS hM hl h1 h2
  subst hn
  have hZ : va_Z RX3 nm "[I" (ky_r G k) (ky_A G) s s.heap := by
    rcases hk with ⟨rfl, rfl⟩ | ⟨rfl, rfl⟩
    · exact C.2.2.2.2.2.2.1.2.2.2.2.2.2.2.2.1
    · exact C.2.2.2.2.2.2.1.2.2.2.2.2.2.2.2.2
  exact va_gets C.1 C.2.1 hZ hS C.2.2.2.2.1 (C.2.2.2.2.2.1 _ hlk) (fun _ h => h) hd (k0 p e R s m args below meth c0 H locs cells slots mc ms ls C hS hM hl h1 h2)
theorem ky_getsN {i : Nat} (hd : decode M.2.1 pc = .ok (.getstatic i, 3)) (hn : pc + 3 = n) (nm : String) (k : Nat) (hk : (nm = "WHOLE" ∧ k = 13) ∨ (nm = "PRICE" ∧ k = 14)) (hlk : Cond.fieldLinkNest M.1.cls i RX3 nm "[I" RX3 ∈ ky_nest)
    (k0 : ky_T G M d kc ks n lv (ky_r G k :: st) σ o σ') : ky_T G M d kc ks pc lv st σ o σ' := by
  intro p e R s m args below meth c0 H locs cells slots mc ms ls C hS hM hl h1 h2
  subst hn
  have hZ : va_Z RX3 nm "[I" (ky_r G k) (ky_A G) s s.heap := by
    rcases hk with ⟨rfl, rfl⟩ | ⟨rfl, rfl⟩
    · exact C.2.2.2.2.2.2.1.2.2.2.2.2.2.2.2.1
    · exact C.2.2.2.2.2.2.1.2.2.2.2.2.2.2.2.2
  exact va_getsN C.1 C.2.1 hZ hS C.2.2.2.2.1 (va_Nw.use rfl (C.2.2.2.2.2.2.1.2.2.1 _ hlk)) (fun _ h => h) hd (k0 p e R s m args below meth c0 H locs cells slots mc ms ls C hS hM hl h1 h2)
/-! ends -/
theorem ky_ireturn {x : Int32} (hd : decode M.2.1 pc = .ok (.ireturn, 1)) (hr : M.2.2.2.1 = some .int) : ky_T G M d kc ks pc lv [.int x] σ (.inr (some (.int x))) σ := by
  intro p e R s m args below meth c0 H locs cells slots mc ms ls C hS hM hl h1 h2
  refine W.widen (k := mc) (n := ms) (by omega) (by omega) (vx_ret (W.iret C.1 C.2.1 (C.2.2.1.trans hr) (fun t ht hW => ?_) hS.2.2 hd C.2.2.2.2.2.2.2.1))
  exact ⟨_, rfl, rfl, (show ky_M G s σ t.heap by rw [ht]; exact hM).moved hW.alike, hS.F ht⟩
theorem ky_zreturn {x : Int32} (hd : decode M.2.1 pc = .ok (.ireturn, 1)) (hr : M.2.2.2.1 = some .boolean) (hx : x = 0 ∨ x = 1) : ky_T G M d kc ks pc lv [.int x] σ (.inr (some (.int x))) σ := by
  intro p e R s m args below meth c0 H locs cells slots mc ms ls C hS hM hl h1 h2
  refine W.widen (k := mc) (n := ms) (by omega) (by omega) (vx_ret (W.zret (ty := .boolean) C.1 C.2.1 (C.2.2.1.trans hr) (by rcases hx with rfl | rfl <;> rfl) (fun t ht hW => ?_) hS.2.2 hd C.2.2.2.2.2.2.2.1))
  exact ⟨_, rfl, rfl, (show ky_M G s σ t.heap by rw [ht]; exact hM).moved hW.alike, hS.F ht⟩
theorem ky_return (hd : decode M.2.1 pc = .ok (.return_, 1)) (hr : M.2.2.2.1 = none) : ky_T G M d kc ks pc lv [] σ (.inr none) σ := by
  intro p e R s m args below meth c0 H locs cells slots mc ms ls C hS hM hl h1 h2
  refine W.widen (k := mc) (n := ms) (by omega) (by omega) (vx_ret (W.vret C.1 C.2.1 (C.2.2.1.trans hr) (fun t ht hW => ?_) hS.2.2 hd C.2.2.2.2.2.2.2.1))
  exact ⟨_, rfl, rfl, (show ky_M G s σ t.heap by rw [ht]; exact hM).moved hW.alike, hS.F ht⟩
theorem ky_lreturn {x : Int64} (hd : decode M.2.1 pc = .ok (.lreturn, 1)) (hr : M.2.2.2.1 = some .long) : ky_T G M d kc ks pc lv [.long x] σ (.inr (some (.long x))) σ := by
  intro p e R s m args below meth c0 H locs cells slots mc ms ls C hS hM hl h1 h2
  refine W.widen (k := mc) (n := ms) (by omega) (by omega) (vx_ret (W.lret C.1 C.2.1 (C.2.2.1.trans hr) (fun t ht hW => ?_) hS.2.2 hd C.2.2.2.2.2.2.2.1))
  exact ⟨_, rfl, rfl, (show ky_M G s σ t.heap by rw [ht]; exact hM).moved hW.alike, hS.F ht⟩
theorem ky_dreturn {x : UInt64} (hd : decode M.2.1 pc = .ok (.dreturn, 1)) (hr : M.2.2.2.1 = some .double) : ky_T G M d kc ks pc lv [.double x] σ (.inr (some (.double x))) σ := by
  intro p e R s m args below meth c0 H locs cells slots mc ms ls C hS hM hl h1 h2
  refine W.widen (k := mc) (n := ms) (by omega) (by omega) (vx_ret (W.dret C.1 C.2.1 (C.2.2.1.trans hr) (fun t ht hW => ?_) hS.2.2 hd C.2.2.2.2.2.2.2.1))
  exact ⟨_, rfl, rfl, (show ky_M G s σ t.heap by rw [ht]; exact hM).moved hW.alike, hS.F ht⟩
theorem ky_areturn {v : Value} (hd : decode M.2.1 pc = .ok (.areturn, 1)) (hr : ∃ nm, M.2.2.2.1 = some (.object nm)) (hv : v = .null ∨ ∃ a, v = .ref a) : ky_T G M d kc ks pc lv [v] σ (.inr (some v)) σ := by
  intro p e R s m args below meth c0 H locs cells slots mc ms ls C hS hM hl h1 h2
  obtain ⟨nm, hr⟩ := hr
  refine W.widen (k := mc) (n := ms) (by omega) (by omega) (vx_ret (W.aret C.1 C.2.1 (C.2.2.1.trans hr) (Or.inl ⟨nm, rfl⟩) hv (fun t ht hW => ?_) hS.2.2 hd C.2.2.2.2.2.2.2.1))
  exact ⟨_, rfl, rfl, (show ky_M G s σ t.heap by rw [ht]; exact hM).moved hW.alike, hS.F ht⟩
end KYr
