/-! ===== pure: the readers' loops; firstError ===== -/
section WX
variable {σ τ : ky_St} {t p q k : Nat} {r : Nat → Nat} {P : Nat → Int32} {nm du c f s : Int32}
theorem ff_L (hl : hL t r) (hs : hC t r σ) : ∀ (m p k fu : Nat) (P : Nat → Int32) (nm c f s : Int32), t - p < m → p ≤ t → 3 * k ≤ p → t - p < fu → ∃ q c1 f1 s1 P' k' nm' du', q ≤ t ∧ fX2_firstFault_L6 fu (nI k) (cT σ p c f s) = some (nI q, cT σ q c1 f1 s1) ∧ eA t r p P k nm 0 q P' k' nm' du' := by
  have h60 := hl.1
  intro m
  induction m with
  | zero =>
    intro p k fu P nm c f s h1
    exact absurd h1 (Nat.not_lt_zero _)
  | succ m ih =>
    intro p k fu P nm c f s h1 h2 h3 h4
    obtain ⟨fu, rfl⟩ : ∃ q, fu = q + 1 := ⟨fu - 1, by omega⟩
    rw [fX2_firstFault_L6, if_neg (show ¬ (60 : Int32) ≤ nI k from nI_ge (a := k) (b := 60) (by omega) (by omega))]
    rcases oc (P := P) (nm := nm) (k := k) hl (by omega) h2 with ⟨q, b1, b2, cl, P', nm', du', m1, m2⟩ | ⟨q, a, f1, s1, b1, b2, cl, vl, P', nm', du', m1, m2, m3, m4, m5⟩
    · obtain ⟨c1, f1, s1, e⟩ := cl σ hs c f s
      refine ⟨q, c1, f1, s1, P', k, nm', du', b2, ?_, m1⟩
      rw [ky_bd_s e, if_pos rfl]
      rfl
    · obtain ⟨s2, e, _⟩ := cl σ hs c f s
      rw [ky_bd_s e, if_neg (by decide)]
      by_cases e59 : q < t ∧ r q = 59
      · obtain ⟨q', c1, f1', s1', P2, k2, nm2, du2, d1, d2, d3⟩ := ih (q + 1) (k + 1) fu P' nm' a f1 s2 (by omega) (by omega) (by omega) (by omega)
        refine ⟨q', c1, f1', s1', P2, k2, nm2, du2, d1, ?_, (m1.tr (mG_1 hl e59.1 (fun τ => ?_))).te d3⟩
        · rw [ky_bd_s (rd_rsT (W := 59) hl hs e59.1 e59.2 rfl), if_neg (by decide), ky_bn_s, nI_1]
          exact d2
        · rw [e59.2]
          exact tkE (m2 τ)
      · rw [ky_bd_s (rd_rsF (w := 59) (W := 59) hl hs b2 (fun z z2 => e59 ⟨z, z2⟩) (by omega) rfl), if_pos rfl]
        by_cases eq : q < t
        · obtain ⟨P2, nm2, du2, d⟩ := m5 eq (fun z => e59 ⟨eq, z⟩)
          exact ⟨q, _, _, _, P2, k, nm2, du2, b2, rfl, m1.te d⟩
        · have : q = t := by omega
          subst this
          exact ⟨q, _, _, _, _, _, _, _, b2, rfl, m1.te (mE_t hl)⟩
/-- the orders of a text that is right: m more behind the one at place p, which is the model's row j -/
def rOK (t : Nat) (r : Nat → Nat) (P : Nat → Int32) : Nat → Nat → Nat → Prop
  | 0, j, p => ∃ a f s, p + 2 ≤ t ∧ oAt t r p t a f s ∧ oVal a f s ∧ oMt P j a f s
  | m + 1, j, p => ∃ q a f s, q < t ∧ r q = 59 ∧ p + 2 ≤ q ∧ oAt t r p q a f s ∧ oVal a f s ∧ oMt P j a f s ∧ rOK t r P m (j + 1) (q + 1)
theorem rOK_le : ∀ m j p, rOK t r P m j p → p + 3 * m + 2 ≤ t
  | 0, j, p, ⟨a, f, s, h, _⟩ => by omega
  | m + 1, j, p, ⟨q, a, f, s, h1, h2, h3, h4, h5, h6, h7⟩ => by
    have := rOK_le m (j + 1) (q + 1) h7
    omega
theorem ir_L (hl : hL t r) (hs : hC t r σ) : ∀ (m p k fu : Nat) (P : Nat → Int32) (nm c f s : Int32), t - p < m → p ≤ t → 3 * k ≤ p → t - p < fu → ∃ b q c1 f1 s1 q' P' k' nm' du', fX2_isRowOfOrders_L6 fu (nI k) (cT σ p c f s) = some (b, cT σ q c1 f1 s1) ∧ eA t r p P k nm 0 q' P' k' nm' du' ∧ ((b = 0 ∧ q' ≤ t ∧ (q' = t → dA P' k' nm' du' 0)) ∨ (b = 1 ∧ q' = t ∧ dA P' k' nm' du' 1 ∧ (∃ j, k' = k + j ∧ rOK t r P' j k p) ∧ ∀ i, i < 3 * k → P' i = P i)) := by
  have h60 := hl.1
  intro m
  induction m with
  | zero =>
    intro p k fu P nm c f s h1
    exact absurd h1 (Nat.not_lt_zero _)
  | succ m ih =>
    intro p k fu P nm c f s h1 h2 h3 h4
    obtain ⟨fu, rfl⟩ : ∃ q, fu = q + 1 := ⟨fu - 1, by omega⟩
    rw [fX2_isRowOfOrders_L6, if_neg (show ¬ (60 : Int32) ≤ nI k from nI_ge (a := k) (b := 60) (by omega) (by omega))]
    rcases oc (P := P) (nm := nm) (k := k) hl (by omega) h2 with ⟨q, b1, b2, cl, P', nm', du', m1, m2⟩ | ⟨q, a, f1, s1, b1, b2, cl, vl, P', nm', du', m1, m2, m3, m4, m5⟩
    · obtain ⟨c1, f1, s1, e⟩ := cl σ hs c f s
      refine ⟨0, q, c1, f1, s1, q, P', k, nm', du', ?_, m1, Or.inl ⟨rfl, b2, m2⟩⟩
      rw [ky_bd_s e, if_pos rfl]
    · obtain ⟨s2, e, _⟩ := cl σ hs c f s
      rw [ky_bd_s e, if_neg (by decide)]
      by_cases e59 : q < t ∧ r q = 59
      · obtain ⟨b, q', c1, f1', s1', q2, P2, k2, nm2, du2, d2, d3, d4⟩ := ih (q + 1) (k + 1) fu P' nm' a f1 s2 (by omega) (by omega) (by omega) (by omega)
        refine ⟨b, q', c1, f1', s1', q2, P2, k2, nm2, du2, ?_, (m1.tr (mG_1 hl e59.1 (fun τ => ?_))).te d3, ?_⟩
        · rw [ky_bd_s (rd_rsT (W := 59) hl hs e59.1 e59.2 rfl), if_neg (by decide), ky_bn_s, nI_1]
          exact d2
        · rw [e59.2]
          exact tkE (m2 τ)
        · rcases d4 with d4 | ⟨z1, z2, z3, ⟨j, z4, z5⟩, z6⟩
          · exact Or.inl d4
          · refine Or.inr ⟨z1, z2, z3, ⟨j + 1, by omega, q, a, f1, s1, e59.1, e59.2, b1, cl, vl, ?_, z5⟩, fun i hi => (z6 i (by omega)).trans (m4 i hi)⟩
            unfold oMt
            rw [z6 (3 * k) (by omega), z6 (3 * k + 1) (by omega), z6 (3 * k + 2) (by omega)]
            exact m3
      · rw [ky_bd_s (rd_rsF (w := 59) (W := 59) hl hs b2 (fun z z2 => e59 ⟨z, z2⟩) (by omega) rfl), if_pos rfl, show (cT σ q a f1 s2).1 3 2 = nI q from rfl, show (cT σ q a f1 s2).1 3 1 = nI t from hs.1]
        by_cases eq : q < t
        · obtain ⟨P2, nm2, du2, d⟩ := m5 eq (fun z => e59 ⟨eq, z⟩)
          refine ⟨0, q, a, f1, s2, q, P2, k, nm2, du2, ?_, m1.te d, Or.inl ⟨rfl, b2, fun z => absurd z (by omega)⟩⟩
          rw [if_pos (nI_lt eq (by omega))]
        · have : q = t := by omega
          subst this
          refine ⟨1, q, a, f1, s2, q, P', k, nm', du', ?_, m1.te (mE_t hl), Or.inr ⟨rfl, rfl, m2, ⟨0, rfl, a, f1, s1, b1, cl, vl, m3⟩, m4⟩⟩
          rw [if_neg (nI_nlt (Nat.le_refl _) (by omega))]
theorem pTx.get (h : pTx σ) : ∃ t r, hL t r ∧ hC t r σ ∧ hM t r σ := by
  obtain ⟨t, h1, h2, h3, h4⟩ := h
  refine ⟨t, fun i => (σ.1 6 i).toNatClampNeg, ⟨h1, fun i hi => ?_⟩, ⟨h2, fun i hi => ?_⟩, h3, fun i hi => ?_⟩
  · obtain ⟨_, x, x1, x2, x3⟩ := h4 i hi
    show 33 ≤ (σ.1 6 i).toNatClampNeg ∧ (σ.1 6 i).toNatClampNeg ≤ 126
    rw [x3, nI_clamp (by omega)]
    exact ⟨x1, x2⟩
  · obtain ⟨_, x, x1, x2, x3⟩ := h4 i hi
    show σ.1 6 i = nI (σ.1 6 i).toNatClampNeg
    rw [x3, nI_clamp (by omega)]
  · obtain ⟨e, x, x1, x2, x3⟩ := h4 i hi
    show σ.1 10 i = nI (σ.1 6 i).toNatClampNeg
    rw [e, x3, nI_clamp (by omega)]
theorem cT_id : ky_u1 σ 3 2 0 = cT σ 0 (σ.1 3 3) (σ.1 3 4) (σ.1 3 5) := by
  refine Prod.ext (funext fun a => funext fun b => ?_) rfl
  show (if a = 3 ∧ b = 2 then 0 else σ.1 a b) = (if a = 3 then _ else σ.1 a) b
  by_cases h : a = 3
  · subst h
    show (if 3 = 3 ∧ b = 2 then 0 else σ.1 3 b) = if b = 2 then nI 0 else if b = 3 then σ.1 3 3 else if b = 4 then σ.1 3 4 else if b = 5 then σ.1 3 5 else σ.1 3 b
    by_cases h2 : b = 2
    · rw [if_pos ⟨rfl, h2⟩, if_pos h2]
      rfl
    · rw [if_neg (fun q => h2 q.2), if_neg h2]
      by_cases h3 : b = 3
      · rw [if_pos h3, h3]
      · rw [if_neg h3]
        by_cases h4 : b = 4
        · rw [if_pos h4, h4]
        · rw [if_neg h4]
          by_cases h5 : b = 5
          · rw [if_pos h5, h5]
          · rw [if_neg h5]
  · rw [if_neg (fun q => h q.1), if_neg h]
theorem qS_id : ky_u1 (ky_u1 τ 7 7 0) 7 9 0 = qS τ (τ.1 11) 0 (τ.1 7 8) 0 := by
  refine Prod.ext (funext fun a => funext fun b => ?_) rfl
  show (if a = 7 ∧ b = 9 then 0 else if a = 7 ∧ b = 7 then 0 else τ.1 a b) = (if a = 11 then τ.1 11 else if a = 7 then _ else τ.1 a) b
  by_cases h : a = 7
  · subst h
    show (if 7 = 7 ∧ b = 9 then 0 else if 7 = 7 ∧ b = 7 then 0 else τ.1 7 b) = if b = 7 then nI 0 else if b = 8 then τ.1 7 8 else if b = 9 then 0 else τ.1 7 b
    by_cases h7 : b = 7
    · subst h7
      rfl
    · rw [if_neg h7]
      by_cases h8 : b = 8
      · subst h8
        rfl
      · rw [if_neg h8]
        by_cases h9 : b = 9
        · rw [if_pos ⟨rfl, h9⟩, if_pos h9]
        · rw [if_neg (fun q => h9 q.2), if_neg (fun q => h7 q.2), if_neg h9]
  · rw [if_neg (fun q => h q.1), if_neg (fun q => h q.1)]
    by_cases h2 : a = 11
    · rw [if_pos h2, h2]
    · rw [if_neg h2, if_neg h]
theorem cT_ne {a : Nat} (h : a ≠ 3) : (cT σ p c f s).1 a = σ.1 a := if_neg h
theorem qS_ne {a : Nat} (h : a ≠ 11) (h7 : a ≠ 7) : (qS τ P k nm du).1 a = τ.1 a := by
  show (if a = 11 then P else if a = 7 then _ else τ.1 a) = _
  rw [if_neg h, if_neg h7]
theorem rut (τ : ky_St) : fX4_rightUpTo τ = fX4_rightUpTo_L12 FU (nI 0) (qS τ (τ.1 11) 0 (τ.1 7 8) 0) := by
  unfold fX4_rightUpTo
  rw [ky_bn_s, ky_bn_s, qS_id]
  rfl
theorem law_firstError (hS : pSim σ) : pStepV fX3_firstError fX4_firstError σ := by
  obtain ⟨t, r, hl, hs, hm⟩ := hS.2.2.2.get
  have h60 := hl.1
  obtain ⟨q, c1, f1, s1, P', k', nm', du', d1, d2, d3⟩ := ff_L hl hs (t + 1) 0 0 FU (σ.1 11) (σ.1 7 8) (σ.1 3 3) (σ.1 3 4) (σ.1 3 5) (by omega) (by omega) (by omega) (by show t - 0 < 4000; omega)
  generalize hτ : ky_u1 (cT σ q c1 f1 s1) 7 5 0 = τ
  have o : ∀ k, k ≠ 3 → k ≠ 7 → τ.1 k = σ.1 k := fun k h3 h7 => by rw [← hτ, ky_u1_ne h7, cT_ne h3]
  have o7 : ∀ f, f ≠ 5 → τ.1 7 f = σ.1 7 f := fun f hf => by
    rw [← hτ, ky_u1_row, pk_un hf, cT_ne (by decide)]
  have hm' : hM t r τ := ⟨(o7 3 (by decide)).trans hm.1, fun i hi => by rw [o 10 (by decide) (by decide)]; exact hm.2 i hi⟩
  refine ⟨cT σ q c1 f1 s1, qS τ P' k' nm' du', nI q, ?_, ?_, ?_, ?_⟩
  · unfold fX3_firstError fX2_firstFault fX2_rewind
    rw [ky_bn_s, ky_bd_s (a := ()) rfl, cT_id, ky_bd_s (show fX2_firstFault_L6 FU 0 _ = _ from d2)]
  · unfold fX4_firstError
    rw [hτ, ky_bn_s, ky_bd_s ((rut τ).trans (by rw [o 11 (by decide) (by decide), o7 8 (by decide)]; exact d3 τ hm' FU (by show t - 0 < 4000; omega)))]
  · refine hS.fr (fun k h3 h4 h7 h11 h12 => ?_) ?_ ?_ ?_
    · rw [qS_ne h11 h7, o k h3 h7]
    · rw [qS_ne (by decide) (by decide), ← hτ, ky_u1_ne (by decide)]
      rfl
    · exact o7 1 (by decide)
    · exact o7 3 (by decide)
  · rw [qS_ne (by decide) (by decide), o 15 (by decide) (by decide)]
end WX
