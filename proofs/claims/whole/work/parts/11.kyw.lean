/-! ===== the layout: which slots are what ===== -/
theorem ky_cl_f {L k : Nat} (h : ky_cl k < 5) : ky_us k = true ∧ ky_ro k = false ∧ ky_len L k = none ∧ k ≠ 5 ∧ k ≠ 16 := by
  by_cases h0 : k = 0
  · subst h0; exact ⟨rfl, rfl, rfl, by decide, by decide⟩
  by_cases h2 : k = 2
  · subst h2; exact ⟨rfl, rfl, rfl, by decide, by decide⟩
  by_cases h3 : k = 3
  · subst h3; exact ⟨rfl, rfl, rfl, by decide, by decide⟩
  by_cases h7 : k = 7
  · subst h7; exact ⟨rfl, rfl, rfl, by decide, by decide⟩
  unfold ky_cl at h
  rw [if_neg h0, if_neg h2, if_neg h3, if_neg h7] at h
  by_cases hb : ky_bk k = true
  · simp only [ky_bk, Bool.and_eq_true, decide_eq_true_eq] at hb
    obtain ⟨b1, b2, b3⟩ := hb
    refine ⟨?_, ?_, ?_, by omega, by omega⟩
    · simp only [ky_us, Bool.or_eq_true, Bool.and_eq_true, decide_eq_true_eq]; omega
    · simp only [ky_ro, Bool.or_eq_false_iff, beq_eq_false_iff_ne, ne_eq]; omega
    · unfold ky_len
      rw [if_neg (by omega), if_neg (by omega), if_neg (by omega), if_neg (by omega), if_neg (by omega), if_neg (by omega), if_neg (by omega), if_neg (by omega), if_neg (by omega), if_neg (by omega), if_pos ⟨b1, b2⟩, b3]
      rfl
  · rw [if_neg hb] at h
    omega
theorem ky_len_f {L k n : Nat} (h : ky_len L k = some n) : ky_us k = true ∧ k ≠ 5 ∧ k ≠ 16 ∧ ¬ ky_cl k < 5 := by
  have hc : ¬ ky_cl k < 5 := fun hc => by
    rw [(ky_cl_f (L := L) hc).2.2.1] at h
    cases h
  refine ⟨?_, fun e => ?_, fun e => ?_, hc⟩
  · by_cases hk : ky_us k = true
    · exact hk
    · exfalso
      simp only [ky_us, Bool.or_eq_true, Bool.and_eq_true, decide_eq_true_eq] at hk
      by_cases h1 : k = 1
      · subst h1
        have : ky_len L 1 = none := rfl
        rw [this] at h; cases h
      unfold ky_len at h
      rw [if_neg (by omega), if_neg (by omega), if_neg (by omega), if_neg (by omega), if_neg (by omega), if_neg (by omega), if_neg (by omega), if_neg (by omega), if_neg (by omega), if_neg (by omega), if_neg (by omega)] at h
      cases h
  · subst e
    have : ky_len L 5 = none := rfl
    rw [this] at h; cases h
  · subst e
    have : ky_len L 16 = none := rfl
    rw [this] at h; cases h
/-! ===== moving ===== -/
theorem ky_arr.moved {G : ky_G} {u U : State} {σ : ky_St} {H : Heap} {k n : Nat} (hvm : u.vm.Alike U.vm) (h : ky_arr G u σ H k n) : ky_arr G U σ H k n := by
  rcases h with ⟨h1, h2⟩ | h
  · exact Or.inl ⟨h1, va_X.moved hvm h2⟩
  · exact Or.inr h
theorem ky_M.moved {G : ky_G} {u U : State} {σ : ky_St} {H : Heap} (hvm : u.vm.Alike U.vm) (h : ky_M G u σ H) : ky_M G U σ H := by
  obtain ⟨h1, h2, ⟨scr, r1, r2, r3⟩, ⟨sc2, t1, t2, t3⟩⟩ := h
  exact ⟨h1, fun k n hk => (h2 k n hk).moved hvm, ⟨scr, r1, State.isArrayOf_alike hvm r2, r3⟩, ⟨sc2, t1, State.isArrayOf_alike hvm t2, t3⟩⟩
theorem ky_nest_warm {s U : State} (hW : s.WarmedH U.vm) (h : ∀ q ∈ ky_nest, va_Nw q s) : ∀ q ∈ ky_nest, va_Nw q U := by
  intro q hq
  have h1 := h q hq
  simp only [ky_nest, List.mem_cons, List.not_mem_nil, or_false] at hq
  rcases hq with rfl | rfl | rfl | rfl | rfl | rfl | rfl | rfl | rfl | rfl | rfl | rfl <;> first | exact va_Nw.warmM hW h1 | exact va_Nw.warmD hW h1 | exact va_Nw.warmF hW h1
theorem ky_E.warm {G : ky_G} {s U : State} {H : Heap} (hW : s.WarmedH U.vm) (h : ky_E G s H) : ky_E G U H := by
  obtain ⟨h1, h2, h3, h4, h5, h6, h7, h8, h9, h10⟩ := h
  refine ⟨fun c q hq => u_Kn_moved hW.alike (h1 c q hq), fun n z => State.isArrayOf_alike hW.alike (h2 n z), ky_nest_warm hW h3, fun q hq => ?_, fun a ha b hb hab => va_Nc.moved hW.alike (h5 a ha b hb hab), fun a ha => va_Nw.warmC hW (h6 a ha), vx_Zq.moved hW.alike h7, vx_Zq.moved hW.alike h8, va_Z.moved hW.alike h9, va_Z.moved hW.alike h10⟩
  obtain ⟨sa, hs⟩ := h4 q hq
  exact ⟨sa, vk_R.warm hW hs⟩
theorem ky_E.kept {G : ky_G} {U : State} {H H1 : Heap} (hq : ∀ a : Nat, a < H.size → ¬ ky_A G a → H1[a]? = H[a]?) (h : ky_E G U H) : ky_E G U H1 := by
  obtain ⟨h1, h2, h3, h4, h5, h6, h7, h8, h9, h10⟩ := h
  exact ⟨h1, h2, h3, h4, h5, h6, vx_Zq.kept h7 hq, vx_Zq.kept h8 hq, va_Z.kept h9 hq, va_Z.kept h10 hq⟩
theorem ky_E.K {G : ky_G} {U : State} {H : Heap} (h : ky_E G U H) : va_K G.2.2.2.2.1 ky_cls [] U := ⟨h.1, fun k q hq => by simp at hq⟩
/-! ===== what a program decides of the classes ===== -/
theorem ky_in {w : Cond} (i : Nat) (h : (k2_sels lw_privs ++ tables_1)[i]? = some w) (hg : goodWord w = true) : w ∈ ky_ws := List.mem_filter.mpr ⟨List.mem_of_getElem? h, hg⟩
theorem ky_good {w : Cond} (h : w ∈ ky_ws) : (w.onTables && w.keeps) = true ∨ ∃ ty, w = .arrayClass ty := good_of_word (List.mem_filter.mp h).2
theorem ky_f0 : ∀ w ∈ u_ws RX0 TX0 17, w ∈ ky_ws := fun w h => List.mem_filter.mpr ⟨inX0 w h, (show ∀ w ∈ u_ws RX0 TX0 17, goodWord w = true by decide +kernel) w h⟩
theorem ky_f1 : ∀ w ∈ u_ws RX1 TX1 3, w ∈ ky_ws := fun w h => List.mem_filter.mpr ⟨inX1 w h, (show ∀ w ∈ u_ws RX1 TX1 3, goodWord w = true by decide +kernel) w h⟩
theorem ky_f2 : ∀ w ∈ u_ws RX2 TX2 6, w ∈ ky_ws := fun w h => List.mem_filter.mpr ⟨inX2 w h, (show ∀ w ∈ u_ws RX2 TX2 6, goodWord w = true by decide +kernel) w h⟩
theorem ky_f3 : ∀ w ∈ u_ws RX3 TX3 4, w ∈ ky_ws := fun w h => List.mem_filter.mpr ⟨inX3 w h, (show ∀ w ∈ u_ws RX3 TX3 4, goodWord w = true by decide +kernel) w h⟩
theorem ky_f4 : ∀ w ∈ u_ws RX4 TX4 12, w ∈ ky_ws := fun w h => List.mem_filter.mpr ⟨inX4 w h, (show ∀ w ∈ u_ws RX4 TX4 12, goodWord w = true by decide +kernel) w h⟩
theorem ky_cq {c : Nat} {q : vw_C} (h : ky_cls[c]? = some q) : c < 5 ∧ ky_N c = q.2.2 ∧ (∀ w ∈ u_ws q.1 q.2.1 q.2.2, w ∈ ky_ws) ∧ (∃ ty0 : Nat → FieldType, ∀ k, k < q.2.2 → parseFieldDescriptor (q.2.1 k).2.2.1 = some (ty0 k)) ∧ (∀ a, a < q.2.2 → ∀ b, b < q.2.2 → a ≠ b → (q.2.1 a).2.1 ≠ (q.2.1 b).2.1) := by
  match c, h with
  | 0, h => cases h; exact ⟨by decide, rfl, ky_f0, ⟨tyX0, tyX0_ok⟩, nmX0⟩
  | 1, h => cases h; exact ⟨by decide, rfl, ky_f1, ⟨tyX1, tyX1_ok⟩, nmX1⟩
  | 2, h => cases h; exact ⟨by decide, rfl, ky_f2, ⟨tyX2, tyX2_ok⟩, nmX2⟩
  | 3, h => cases h; exact ⟨by decide, rfl, ky_f3, ⟨tyX3, tyX3_ok⟩, nmX3⟩
  | 4, h => cases h; exact ⟨by decide, rfl, ky_f4, ⟨tyX4, tyX4_ok⟩, nmX4⟩
  | c + 5, h => simp [ky_cls] at h
/-! ===== writing into the layout ===== -/
def ky_u1 (σ : ky_St) (k f : Nat) (x : Int32) : ky_St := (fun a b => if a = k ∧ b = f then x else σ.1 a b, σ.2)
def ky_uJ (σ : ky_St) (k : Nat) (x : Int64) : ky_St := (σ.1, fun a => if a = k then x else σ.2 a)
def ky_uR (σ : ky_St) (k : Nat) (g : Nat → Int32) : ky_St := (fun a => if a = k then g else σ.1 a, σ.2)
theorem ky_u1_ne {σ : ky_St} {k f : Nat} {x : Int32} {a : Nat} (h : a ≠ k) : (ky_u1 σ k f x).1 a = σ.1 a := by
  funext b
  show (if a = k ∧ b = f then x else σ.1 a b) = _
  rw [if_neg (fun q => h q.1)]
theorem ky_u1_row {σ : ky_St} {k f : Nat} {x : Int32} : (ky_u1 σ k f x).1 k = upd (σ.1 k) f x := by
  funext b
  show (if k = k ∧ b = f then x else σ.1 k b) = if b = f then x else σ.1 k b
  by_cases h : b = f
  · rw [if_pos ⟨rfl, h⟩, if_pos h]
  · rw [if_neg (fun q => h q.2), if_neg h]
theorem ky_uR_ne {σ : ky_St} {k : Nat} {g : Nat → Int32} {a : Nat} (h : a ≠ k) : (ky_uR σ k g).1 a = σ.1 a := if_neg h
theorem ky_uR_row {σ : ky_St} {k : Nat} {g : Nat → Int32} : (ky_uR σ k g).1 k = g := if_pos rfl
/-- a cell is replaced: what stands elsewhere stands -/
theorem ky_M.objOther {G : ky_G} {σ σ1 : ky_St} {H H1 : Heap} (hI : ky_I G) {k : Nat} (hk : ky_us k = true) (hro : ky_ro k = false) (oq : ∀ q, q ≠ G.2.1 k → H1[q]? = H[q]?) (hσ : ∀ a, a ≠ k → σ1.1 a = σ.1 a ∧ σ1.2 a = σ.2 a)
    {k2 : Nat} (h2 : ky_cl k2 < 5) (hne : k2 ≠ k) (h : t_OB (G.2.1 k2) (G.2.2.2.2.1.1 (ky_cl k2)) (ky_N (ky_cl k2)) (G.2.2.2.2.1.2 (ky_cl k2)) H (ky_val G σ k2)) :
    t_OB (G.2.1 k2) (G.2.2.2.2.1.1 (ky_cl k2)) (ky_N (ky_cl k2)) (G.2.2.2.2.1.2 (ky_cl k2)) H1 (ky_val G σ1 k2) := by
  refine (h.kept (oq _ fun e => hne (hI.2.1 _ _ (ky_cl_f (L := 0) h2).1 hk hro e))).to fun f _ => ?_
  unfold ky_val
  rw [(hσ k2 hne).1, (hσ k2 hne).2]
theorem ky_arr.other {G : ky_G} {U : State} {σ σ1 : ky_St} {H H1 : Heap} (hI : ky_I G) {k : Nat} (hk : ky_us k = true) (hro : ky_ro k = false) (oq : ∀ q, q ≠ G.2.1 k → H1[q]? = H[q]?) (hσ : ∀ a, a ≠ k → σ1.1 a = σ.1 a)
    {k2 n : Nat} (h2 : ky_us k2 = true) (hne : k2 ≠ k) (h : ky_arr G U σ H k2 n) : ky_arr G U σ1 H1 k2 n := by
  have e : H1[G.2.1 k2]? = H[G.2.1 k2]? := oq _ fun e => hne (hI.2.1 _ _ h2 hk hro e)
  rcases h with ⟨h1, h3⟩ | ⟨h1, h3⟩
  · exact Or.inl ⟨h1, by rw [hσ k2 hne]; exact h3.kept e⟩
  · exact Or.inr ⟨h1, by rw [e, hσ k2 hne]; exact h3⟩
theorem ky_M.putObj {G : ky_G} {U : State} {σ σ1 : ky_St} {H H1 : Heap} (hI : ky_I G) (h : ky_M G U σ H) {k : Nat} (hk : ky_cl k < 5) (oq : ∀ q, q ≠ G.2.1 k → H1[q]? = H[q]?) (hσ : ∀ a, a ≠ k → σ1.1 a = σ.1 a ∧ σ1.2 a = σ.2 a)
    (h1 : t_OB (G.2.1 k) (G.2.2.2.2.1.1 (ky_cl k)) (ky_N (ky_cl k)) (G.2.2.2.2.1.2 (ky_cl k)) H1 (ky_val G σ1 k)) : ky_M G U σ1 H1 := by
  obtain ⟨m1, m2, ⟨scr, r1, r2⟩, ⟨sc2, t1, t2, t3, t4, t5⟩⟩ := h
  have hf := ky_cl_f (L := G.2.2.2.1) hk
  refine ⟨fun k2 h2 => ?_, fun k2 n h2 => ?_, ⟨scr, (oq _ fun e => hf.2.2.2.1 (hI.2.1 5 k rfl hf.1 hf.2.1 e).symm).trans r1, r2⟩, ⟨sc2, (oq _ fun e => hf.2.2.2.2 (hI.2.1 16 k rfl hf.1 hf.2.1 e).symm).trans t1, t2, t3, t4, ?_⟩⟩
  · by_cases e : k2 = k
    · subst e; exact h1
    · exact ky_M.objOther hI hf.1 hf.2.1 oq hσ h2 e (m1 k2 h2)
  · have hg := ky_len_f h2
    exact ky_arr.other hI hf.1 hf.2.1 oq (fun a ha => (hσ a ha).1) hg.1 (fun e => hg.2.2.2 (by rw [e]; exact hk)) (m2 k2 n h2)
  · rw [(hσ 16 (fun e => hf.2.2.2.2 e.symm)).2]; exact t5
theorem ky_M.putArr {G : ky_G} {U : State} {σ σ1 : ky_St} {H H1 : Heap} (hI : ky_I G) (h : ky_M G U σ H) {k N : Nat} (hk : ky_len G.2.2.2.1 k = some N) (hro : ky_ro k = false) (oq : ∀ q, q ≠ G.2.1 k → H1[q]? = H[q]?) (hσ : ∀ a, a ≠ k → σ1.1 a = σ.1 a) (hσ2 : σ1.2 = σ.2)
    (h1 : H1[G.2.1 k]? = some (vp_cell G.2.2.2.2.2 (N, .inl (σ1.1 k)))) : ky_M G U σ1 H1 := by
  obtain ⟨m1, m2, ⟨scr, r1, r2⟩, ⟨sc2, t1, t2, t3, t4, t5⟩⟩ := h
  have hf := ky_len_f hk
  refine ⟨fun k2 h2 => ?_, fun k2 n h2 => ?_, ⟨scr, (oq _ fun e => hf.2.1 (hI.2.1 5 k rfl hf.1 hro e).symm).trans r1, r2⟩, ⟨sc2, (oq _ fun e => hf.2.2.1 (hI.2.1 16 k rfl hf.1 hro e).symm).trans t1, t2, t3, t4, ?_⟩⟩
  · exact ky_M.objOther hI hf.1 hro oq (fun a ha => ⟨hσ a ha, by rw [hσ2]⟩) h2 (fun e => hf.2.2.2 (by rw [← e]; exact h2)) (m1 k2 h2)
  · by_cases e : k2 = k
    · subst e
      cases hk.symm.trans h2
      exact Or.inr ⟨hro, h1⟩
    · exact ky_arr.other hI hf.1 hro oq hσ (ky_len_f h2).1 e (m2 k2 n h2)
  · rw [hσ2]; exact t5
theorem ky_M.putOut {G : ky_G} {U : State} {σ σ1 : ky_St} {H H1 : Heap} (hI : ky_I G) (h : ky_M G U σ H) (oq : ∀ q, q ≠ G.2.1 16 → H1[q]? = H[q]?) (hσ : σ1.1 = σ.1) (hσ2 : ∀ a, a ≠ 16 → σ1.2 a = σ.2 a)
    (h1 : ky_out G U σ1 H1) : ky_M G U σ1 H1 := by
  obtain ⟨m1, m2, ⟨scr, r1, r2⟩, -⟩ := h
  refine ⟨fun k2 h2 => ?_, fun k2 n h2 => ?_, ⟨scr, (oq _ fun e => absurd (hI.2.1 5 16 rfl rfl rfl e) (by decide)).trans r1, r2⟩, h1⟩
  · exact ky_M.objOther hI (k := 16) rfl rfl oq (fun a ha => ⟨by rw [hσ], hσ2 a ha⟩) h2 (ky_cl_f (L := 0) h2).2.2.2.2 (m1 k2 h2)
  · exact ky_arr.other hI (k := 16) rfl rfl oq (fun a ha => by rw [hσ]) (ky_len_f h2).1 (ky_len_f h2).2.2.1 (m2 k2 n h2)
/-- any row of ints, as the reading rows want it -/
theorem ky_M.X {G : ky_G} {U : State} {σ : ky_St} {H : Heap} (hA : ArrOfT U G.2.2.2.2.2 .int) (h : ky_M G U σ H) {k N : Nat} (hk : ky_len G.2.2.2.1 k = some N) : va_X (G.2.1 k) N (σ.1 k) U H := by
  rcases h.2.1 k N hk with ⟨-, h1⟩ | ⟨-, h1⟩
  · exact h1
  · exact ⟨_, h1, hA N (fun j => .int (σ.1 k j)), fun q => (by cases q), arrV_size _ _ _, fun j hj => arrV_read _ _ hj⟩
theorem ky_lt {i : Int32} {N : Nat} (h : vp_in i N) : i.toNatClampNeg < N := Nat.not_le.mp fun q => h (Or.inr q)
