/-! ===== the law's start: what the Statement gives ===== -/
section STA
variable {s : State} {args : Array Value} {b0 : Nat}
theorem sbn_forget {s t : State} {L : List Loc} {k n : Nat} (h : s.sameButNew t L k n) (hL : ∀ q ∈ L, s.heap.size ≤ q.base) : s.sameButNew t [] k n := by
  obtain ⟨h1, h2, h3, h4, h5, h6⟩ := h
  refine ⟨h1, h2, h3, h4, h5, fun a c hc => ?_⟩
  obtain ⟨c', e1, e2, e3, e4⟩ := h6 a c hc
  refine ⟨c', e1, e2, e3, fun i _ => e4 i (fun hm => ?_)⟩
  have hlt : a < s.heap.size := (Array.getElem?_eq_some_iff.mp hc).1
  exact absurd (hL _ hm) (Nat.not_le.mpr hlt)
/-- a static row of four ints -/
theorem sta_X {tm : Term} {f : Nat → Int32} (harr : (Cond.arrayOf tm .int).before args s = true) (hlen : (Cond.eq (.length tm) (.int 4)).before args s = true) (hel : ∀ j, j < 4 → (Cond.eq (.elem tm (.int (Int32.ofNat j))) (.int (f j))).before args s = true) : ∃ t : Nat, tm.eval args s none [] s = some (.ref t) ∧ va_X t 4 f s s.heap ∧ t < s.heap.size := by
  have hv : (Term.length tm).eval args s none [] s = some (.int (Int32.ofNat 4)) := va_eqt hlen
  obtain ⟨t, ht, cell, h1, h2, h3, h4, h5, h6, -⟩ := va_Tof (N := 4) (f := fun j => .int (f j)) (A := fun _ => False) (by omega) harr hv (fun j hj => va_eqt (hel j hj)) (fun _ _ h => h)
  refine ⟨t, ht, ⟨cell, h1, h2, h3, ?_, h6⟩, (Array.getElem?_eq_some_iff.mp h1).1⟩
  obtain ⟨t', cell', ht', hat, -⟩ := Term.length_spec hv
  cases ht.symm.trans ht'
  obtain ⟨hc', -, -, -⟩ := State.arrayAt?_spec hat
  cases h1.symm.trans hc'
  have hlt : cell.slots.size < 2147483648 := by
    simp only [Term.eval, ht, hat, Option.bind_eq_bind, Option.bind_some] at hv
    by_cases hlt : cell.slots.size < 2147483648
    · exact hlt
    · simp [hlt] at hv
  exact (nI_eq (a := cell.slots.size) (b := 4) (by omega) (by omega)).mp h5
theorem sta_nest : ∀ q ∈ ky_nest, q ∈ lw_tbl ∧ q.onTables = true := by decide +kernel
theorem sta_strs : ∀ q ∈ ky_strs, Cond.stringRef RX3 q.1 q.2 ∈ lw_tbl := by decide +kernel
theorem sta_strx : ∀ q ∈ ky_strs, Cond.exactly (.string RX3 q.1) "java/lang/String" ∈ flatC (Jvm.Cond.and given_1 narrow_1) := by decide +kernel
theorem sta_nc : ∀ a ∈ [ky_ex1, ky_ex2, ky_ex3], ∀ b ∈ [ky_ex1, ky_ex2, ky_ex3], a ≠ b → Cond.not (.castable a b) ∈ flatC (Jvm.Cond.and given_1 narrow_1) := by decide +kernel
theorem sta_ca : ∀ a ∈ [ky_ex1, ky_ex2, ky_ex3], Cond.castable a a ∈ lw_tbl := by decide +kernel
theorem sta_l1 : Cond.laysStatic Bundle.tN "UNASSIGNED_STACK" Bundle.steD ∈ lw_tbl := by decide +kernel
theorem sta_l2 : Cond.laysStatic Bundle.tN "SUPPRESSED_SENTINEL" Bundle.listD ∈ lw_tbl := by decide +kernel
theorem sta_l3 : Cond.laysStatic RX3 "WHOLE" "[I" ∈ lw_tbl := by decide +kernel
theorem sta_l4 : Cond.laysStatic RX3 "PRICE" "[I" ∈ lw_tbl := by decide +kernel
theorem sta_i1 : Cond.initialized Bundle.tN ∈ lw_tbl := by decide +kernel
theorem sta_i3 : Cond.initialized RX3 ∈ lw_tbl := by decide +kernel
theorem sta_r1 : Cond.isRef (.static Bundle.tN "UNASSIGNED_STACK" Bundle.steD) ∈ flatC (Jvm.Cond.and given_1 narrow_1) := by decide +kernel
theorem sta_r2 : Cond.isRef (.static Bundle.tN "SUPPRESSED_SENTINEL" Bundle.listD) ∈ flatC (Jvm.Cond.and given_1 narrow_1) := by decide +kernel
theorem sta_w1 : Cond.arrayOf (.static RX3 "WHOLE" "[I") .int ∈ flatC (Jvm.Cond.and given_1 narrow_1) := by decide +kernel
theorem sta_w2 : Cond.eq (.length (.static RX3 "WHOLE" "[I")) (.int 4) ∈ flatC (Jvm.Cond.and given_1 narrow_1) := by decide +kernel
theorem sta_w3 : ∀ j, j < 4 → Cond.eq (.elem (.static RX3 "WHOLE" "[I") (.int (Int32.ofNat j))) (.int (pWi j)) ∈ flatC (Jvm.Cond.and given_1 narrow_1) := by decide +kernel
theorem sta_p1 : Cond.arrayOf (.static RX3 "PRICE" "[I") .int ∈ flatC (Jvm.Cond.and given_1 narrow_1) := by decide +kernel
theorem sta_p2 : Cond.eq (.length (.static RX3 "PRICE" "[I")) (.int 4) ∈ flatC (Jvm.Cond.and given_1 narrow_1) := by decide +kernel
theorem sta_p3 : ∀ j, j < 4 → Cond.eq (.elem (.static RX3 "PRICE" "[I") (.int (Int32.ofNat j))) (.int (pCo j)) ∈ flatC (Jvm.Cond.and given_1 narrow_1) := by decide +kernel
theorem sta_ao : Cond.arrayOver (.object RX0) ∈ lw_tbl := by decide +kernel
/-- from the entry on: classes, statics -/
theorem sta (l : Launch) (L : Nat) (hts : ∀ w ∈ lw_tbl, w.before args s = true) (hgv : (Jvm.Cond.and given_1 narrow_1).before args s = true) : ∃ (D : va_G) (cI cL cB : ClassId) (a13 a14 : Nat), kz_E (l, s.heap.size, D, cI, cL, cB) s ∧ va_X a13 4 pWi s s.heap ∧ va_X a14 4 pCo s s.heap ∧ a13 < s.heap.size ∧ a14 < s.heap.size ∧ ∀ a15, ky_E (gk (l, s.heap.size, D, cI, cL, cB) L a13 a14 a15) s s.heap := by
  have hs := flat_of_before _ hgv
  have hw : ∀ w ∈ ky_ws, w.before args s = true := fun w h => hts w (List.mem_filter.mp h).1
  obtain ⟨c0, i0, hK0⟩ := u_known (C := RX0) (T := TX0) (N := 17) (n := 17) hts inX0 (hw _ kz_n0)
  obtain ⟨c1, i1, hK1⟩ := u_known (C := RX1) (T := TX1) (N := 3) (n := 3) hts inX1 (hw _ kz_n1)
  obtain ⟨c2, i2, hK2⟩ := u_known (C := RX2) (T := TX2) (N := 6) (n := 6) hts inX2 (hw _ kz_n2)
  obtain ⟨c3, i3, hK3⟩ := u_known (C := RX3) (T := TX3) (N := 4) (n := 4) hts inX3 (hw _ kz_n3)
  obtain ⟨c4, i4, hK4⟩ := u_known (C := RX4) (T := TX4) (N := 12) (n := 12) hts inX4 (hw _ kz_n4)
  obtain ⟨cI, kI, compI, f1, f2, f3⟩ := Cond.arrayClass_spec (hw _ kz_in153)
  obtain ⟨cL, kL, compL, g1, g2, g3⟩ := Cond.arrayClass_spec (hw _ kz_in1279)
  have hao := hts _ sta_ao
  obtain ⟨comp, cB, kB, j1, -, j3, j4, j5⟩ := Cond.arrayOver_spec hao
  obtain ⟨a13, t1, t2, t3⟩ := sta_X (f := pWi) (hs _ sta_w1) (hs _ sta_w2) (fun j hj => hs _ (sta_w3 j hj))
  obtain ⟨a14, u1, u2, u3⟩ := sta_X (f := pCo) (hs _ sta_p1) (hs _ sta_p2) (fun j hj => hs _ (sta_p3 j hj))
  have hcls : ∀ (c : Nat) (q : vw_C), ky_cls[c]? = some q → u_Kn s q.1 q.2.1 q.2.2 ((fun k => if k = 0 then c0 else if k = 1 then c1 else if k = 2 then c2 else if k = 3 then c3 else c4) c) ((fun k => if k = 0 then i0 else if k = 1 then i1 else if k = 2 then i2 else if k = 3 then i3 else i4) c) := by
    intro c q hq
    match c, hq with
    | 0, hq => cases hq; exact hK0
    | 1, hq => cases hq; exact hK1
    | 2, hq => cases hq; exact hK2
    | 3, hq => cases hq; exact hK3
    | 4, hq => cases hq; exact hK4
    | c + 5, hq => simp [ky_cls] at hq
  have arI : ArrOfT s cI .int := fun n z => ⟨fun k h => (by cases h), kI, f2, compI, f3⟩
  have arL : ArrOfT s cL .long := fun n z => ⟨fun k h => (by cases h), kL, g2, compL, g3⟩
  have arB : ArrOfT s cB (.object RX0) := fun n z => ⟨fun k h => (by cases h), kB, j3, comp, j4⟩
  have hA : ∀ a : Nat, a < s.heap.size → ¬ (s.heap.size ≤ a) := fun a h => Nat.not_le.mpr h
  refine ⟨(_, _), cI, cL, cB, a13, a14, ⟨⟨hcls, fun k q hq => ?_⟩, va_Nw.of rfl (hts _ (sta_nest _ List.mem_cons_self).1), va_AO.of hao⟩, t2, u2, t3, u3, fun a15 => ⟨hcls, arI, fun q hq => va_Nw.of (sta_nest q hq).2 (hts _ (sta_nest q hq).1), fun q hq => ?_, fun a ha b hb hab => va_Nc.of (hs _ (sta_nc a ha b hb hab)), fun a ha => va_Nw.of rfl (hts _ (sta_ca a ha)), vx_Zqof (hts _ sta_l1) (hts _ sta_i1) (hs _ sta_r1) hA, vx_Zqof (hts _ sta_l2) (hts _ sta_i1) (hs _ sta_r2) hA, va_Zof (hts _ sta_l3) (hts _ sta_i3) t1 hA, va_Zof (hts _ sta_l4) (hts _ sta_i3) u1 hA⟩⟩
  · match k, hq with
    | 0, hq => cases hq; exact ⟨arI, f1⟩
    | 1, hq => cases hq; exact ⟨arL, g1⟩
    | 2, hq => cases hq; exact ⟨arB, kB, comp, j3, j4, j1, j5⟩
    | k + 3, hq => simp [kz_tys] at hq
  · obtain ⟨a, _, _, _, e1, _⟩ := Cond.exactly_spec (args := args) (first := s) (o := none) (s := s) (idx := []) (t := .string RX3 q.1) (cls := "java/lang/String") (hs _ (sta_strx q hq))
    exact ⟨a, vk_R.of (hts _ (sta_strs q hq)) e1⟩
end STA
