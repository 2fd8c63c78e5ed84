/-! ===== pure: the law's orders, on and on ===== -/
section WK
variable {n : Nat} {σ : ky_St} {s : Nat} {Y : pY} {Z : Nat → Int32}
theorem pOw_bill {x : Nat} {b : Int32} (hR : pR n Y Z) (hx : x < 6) (τ : ky_St) : ∃ Z', fX4_bill (nI x) (3 : Int32) b (mS τ Z) = some ((), mS τ Z') ∧ pR n (pU Y 12 x (Y 12 x + b)) Z' := by
  have e : Z (22 + 4 * x) = Y 12 x := hR.2.1 12 x hx
  have r1 := hR.w (r := 12) (i := x) (p := 22 + 4 * x) (v := Y 12 x + b) hx rfl (by decide) (hR.1.w (Or.inr (Or.inl (by omega))))
  refine ⟨_, ?_, r1⟩
  rw [mB (s := x) (x := nI x) (y := 3) (w := 3) (p := 22 + 4 * x) rfl rfl (by omega) (by omega) b τ Z, e]
theorem law_pay (hS : pSim σ) (a b : Int32) : pStep (fL_pay a b) (fX4_pay a b) σ := by
  obtain ⟨hT, ⟨n, hR⟩, _, _⟩ := id hS
  have hn := hR.1.1
  rcases rng (N := 6) (by omega) a with ⟨x, hx, rfl⟩ | hx
  · by_cases h1 : 1 ≤ b ∧ b ≤ (9999 : Int32)
    · by_cases h2 : b ≤ pOw (pB σ 20) x
      · refine pStep.mut hS hR (n' := n) (F := fun Y => pU Y 12 x (Y 12 x + b)) (v := fun Y => pOw (pU Y 12 x (Y 12 x + b)) x) (fun s => ky_bd (fX4_bill (nI x) (3 : Int32) b s) fun _ s18 => ky_bd (fX4_owedBy (nI x) s18) fun v s => some (v, s)) (fun Y => pO.rfl'.u (by omega)) ?_ ?_ ?_
        · intro σ1 hT1 b1 hR1 hk
          unfold fL_pay
          rw [ky_bh_r (show fX3_pay (nI x) b σ = some (.inr _, _) from by unfold fX3_pay; rw [ky_bx_s (needSiteT hx), if_neg (nlt_le.mp h1.1), if_pos h1.2, ky_bd_s (qC_billOf hx), if_pos h2, ky_bd_s hk, ky_bd_s (cS_self (cA (k := 32) (r := 12) (N := 6) rfl rfl rfl hx (by omega) b σ1 (pB σ1 20))), ky_bd_s (qC_billOf hx), cS_pB]), ky_bn_s]
        · intro σ' τ e8 hs
          have hR' : pR n (pB σ 20) (σ'.1 8) := by rw [e8]; exact hR
          unfold fX4_pay
          rw [ky_bd_s (isSiteT hx), if_neg (by decide), ky_bd_s qM_within, bI_t h1, if_neg (by decide), ky_bd_s (qM_owedBy hR' hx), if_pos h2]
          unfold fX4_pay_L41
          rw [mOk, ky_bd_s hs]
        · intro τ Y Z hY hRY
          obtain ⟨Z', q1, q2⟩ := pOw_bill (b := b) hRY hx τ
          refine ⟨Z', ?_, q2⟩
          show ky_bd (fX4_bill (nI x) (3 : Int32) b (mS τ Z)) _ = _
          rw [ky_bd_s q1, ky_bd_s (qM_owedBy (σ := mS τ Z') q2 hx)]
      · refine pStep.err hS (c := 3) (by decide) ?_ ?_
        · unfold fL_pay
          rw [ky_bh_l (show fX3_pay (nI x) b σ = some (.inl ky_ex2, σ) from by unfold fX3_pay; rw [ky_bx_s (needSiteT hx), if_neg (nlt_le.mp h1.1), if_pos h1.2, ky_bd_s (qC_billOf hx), if_neg h2]), if_neg ex23, if_neg ex21, if_pos rfl]
        · unfold fX4_pay
          rw [ky_bd_s (isSiteT hx), if_neg (by decide), ky_bd_s qM_within, bI_t h1, if_neg (by decide), ky_bd_s (qM_owedBy hR hx), if_neg h2]
          unfold fX4_pay_L41
          rw [mErr (by decide)]
    · refine pStep.err hS (c := 2) (by decide) ?_ ?_
      · unfold fL_pay
        rw [ky_bh_l (show fX3_pay (nI x) b σ = some (.inl ky_ex1, σ) from by
          unfold fX3_pay
          rw [ky_bx_s (needSiteT hx)]
          by_cases h3 : b < (1 : Int32)
          · rw [if_pos h3]
          · rw [if_neg h3, if_neg (fun q => h1 ⟨nlt_le.mpr h3, q⟩)]), if_neg ex13, if_pos rfl]
      · unfold fX4_pay
        rw [ky_bd_s (isSiteT hx), if_neg (by decide), ky_bd_s qM_within, bI_f h1, if_pos rfl]
        unfold fX4_pay_L41
        rw [mErr (by decide)]
  · refine pStep.err hS (c := 1) (by decide) ?_ ?_
    · unfold fL_pay
      rw [ky_bh_l (show fX3_pay a b σ = some (.inl ky_ex3, σ) from by unfold fX3_pay; rw [ky_bx_x (needSiteF hx)]), if_pos rfl]
    · unfold fX4_pay
      rw [ky_bd_s (isSiteF hx), if_pos rfl]
      unfold fX4_pay_L41
      rw [mErr (by decide)]
theorem areDays (a : Int32) : fX4_areDays a σ = some (bI (1 ≤ a ∧ a ≤ (99 : Int32)), σ) := by
  unfold fX4_areDays
  rw [ky_bd_s qM_within, ky_g_s bI_01]
theorem pDay_w {d : Int32} (hR : pR n Y Z) (τ : ky_St) : pR n (pU Y 0 1 (Y 0 1 + d)) (upd Z 2 (Y 0 1 + d)) :=
  hR.w (r := 0) (i := 1) (p := 2) (show 1 < 5 by omega) rfl (by decide) (hR.1.w (Or.inr (Or.inr ⟨rfl, by decide⟩)))
theorem law_pass (hS : pSim σ) (a : Int32) : pStep (fL_pass a) (fX4_pass a) σ := by
  obtain ⟨hT, ⟨n, hR⟩, _, _⟩ := id hS
  have hn := hR.1.1
  by_cases h1 : 1 ≤ a ∧ a ≤ (99 : Int32)
  · by_cases h2 : (9999 : Int32) < pB σ 20 0 1 + a
    · refine pStep.err hS (c := 2) (by decide) ?_ ?_
      · unfold fL_pass
        rw [ky_bh_l (show fX3_pass a σ = some (.inl ky_ex2, σ) from by
          have e : fX0_canPass a σ = some (0, σ) := by unfold fX0_canPass; rw [if_pos (show (9999 : Int32) < σ.1 20 1 + a from h2)]
          unfold fX3_pass
          rw [if_neg (nlt_le.mp h1.1), if_pos h1.2, ky_bd_s e, if_pos rfl]), if_neg ex21, if_pos rfl]
      · unfold fX4_pass
        rw [ky_bd_s (areDays a), bI_t h1, if_neg (by decide), ky_bd_s (qM_canPass hR a), if_pos h2, if_pos rfl]
        unfold fX4_pass_L25
        rw [mErr (by decide)]
    · refine pStep.mut hS hR (n' := n) (F := fun Y => pU Y 0 1 (Y 0 1 + a)) (v := fun Y => Y 0 1 + a) (fun s => ky_g (¬ ((2 : Int32) < 0 ∨ 283 ≤ (2 : Int32).toNatClampNeg)) (ky_g (¬ ((2 : Int32) < 0 ∨ 283 ≤ (2 : Int32).toNatClampNeg)) (ky_bn (ky_u1 s 8 (2 : Int32).toNatClampNeg ((s.1 8 (2 : Int32).toNatClampNeg) + a)) fun s16 => ky_g (¬ ((2 : Int32) < 0 ∨ 283 ≤ (2 : Int32).toNatClampNeg)) (some ((s16.1 8 (2 : Int32).toNatClampNeg), s16))))) (fun Y => pO.rfl'.u (by omega)) ?_ ?_ ?_
      · intro σ1 hT1 b1 hR1 hk
        unfold fL_pass
        rw [ky_bh_r (show fX3_pass a σ = some (.inr (pB σ1 20 0 1 + a), cS σ1 (pU (pB σ1 20) 0 1 (pB σ1 20 0 1 + a))) from by
          have e : fX0_canPass a σ = some (1, σ) := by unfold fX0_canPass; rw [if_neg (show ¬ (9999 : Int32) < σ.1 20 1 + a from h2)]
          have e2 : ky_u1 σ1 20 1 (σ1.1 20 1 + a) = cS σ1 (pU (pB σ1 20) 0 1 (pB σ1 20 0 1 + a)) := by
            have := cS_u1 (σ := σ1) (Y := pB σ1 20) 0 1 (pB σ1 20 0 1 + a)
            rw [cS_id] at this
            exact this
          unfold fX3_pass
          rw [if_neg (nlt_le.mp h1.1), if_pos h1.2, ky_bd_s e, if_neg (by decide), ky_bd_s hk, e2, ky_bn_s, show (cS σ1 (pU (pB σ1 20) 0 1 (pB σ1 20 0 1 + a))).1 20 1 = pB σ1 20 0 1 + a from (congrFun (cS_row σ1 _ 0) 1).trans pU_eq]), ky_bn_s]
      · intro σ' τ e8 hs
        have hR' : pR n (pB σ 20) (σ'.1 8) := by rw [e8]; exact hR
        unfold fX4_pass
        rw [ky_bd_s (areDays a), bI_t h1, if_neg (by decide), ky_bd_s (qM_canPass hR' a), if_neg h2, if_neg (by decide)]
        unfold fX4_pass_L25
        rw [mOk, ky_bd_s hs]
      · intro τ Y Z hY hRY
        refine ⟨_, ?_, pDay_w (d := a) hRY τ⟩
        show ky_g _ _ = _
        rw [ky_g_s (by decide), ky_g_s (by decide), ky_bn_s, ky_g_s (by decide), qM_z2 (σ := mS τ Z) hRY, z_2, mS_u1, show (mS τ (upd Z 2 (Y 0 1 + a))).1 8 2 = Y 0 1 + a from (if_pos rfl : (if (2 : Nat) = 2 then Y 0 1 + a else Z 2) = Y 0 1 + a)]
  · refine pStep.err hS (c := 1) (by decide) ?_ ?_
    · unfold fL_pass
      rw [ky_bh_l (show fX3_pass a σ = some (.inl ky_ex1, σ) from by
        unfold fX3_pass
        by_cases h3 : a < (1 : Int32)
        · rw [if_pos h3]
        · rw [if_neg h3, if_neg (fun q => h1 ⟨nlt_le.mpr h3, q⟩)]), if_pos rfl]
    · unfold fX4_pass
      rw [ky_bd_s (areDays a), bI_f h1, if_pos rfl]
      unfold fX4_pass_L25
      rw [mErr (by decide)]
theorem law_set (hS : pSim σ) (a b : Int32) : pStep (fL_set a b) (fX4_set a b) σ := by
  obtain ⟨hT, ⟨n, hR⟩, _, _⟩ := id hS
  have hn := hR.1.1
  rcases rng (N := 2) (by omega) a with ⟨x, hx, rfl⟩ | hx
  · have hc : x = 0 ∨ x = 1 := by omega
    have vC : ∀ τ : ky_St, fX3_isSettingValue (nI x) b τ = some (bI (if x = 0 then 0 ≤ b ∧ b ≤ (90 : Int32) else 1 ≤ b ∧ b ≤ (99 : Int32)), τ) := by
      intro τ
      unfold fX3_isSettingValue
      rcases hc with rfl | rfl
      · rw [if_pos (show nI 0 = 0 from rfl)]
        simp only [if_true]
        by_cases q1 : b < 0
        · rw [if_pos q1, bI_f (fun q => nlt_le.mp q.1 q1)]
        · rw [if_neg q1]
          by_cases q2 : (90 : Int32) < b
          · rw [if_pos q2, bI_f (fun q => nlt_le.mp q.2 q2)]
          · rw [if_neg q2, bI_t ⟨nlt_le.mpr q1, nlt_le.mpr q2⟩]
      · rw [if_neg (show ¬ nI 1 = 0 from by decide)]
        simp only [show ¬ (1 : Nat) = 0 by omega, if_false]
        by_cases q1 : b < (1 : Int32)
        · rw [if_pos q1, bI_f (fun q => nlt_le.mp q.1 q1)]
        · rw [if_neg q1]
          by_cases q2 : (99 : Int32) < b
          · rw [if_pos q2, bI_f (fun q => nlt_le.mp q.2 q2)]
          · rw [if_neg q2, bI_t ⟨nlt_le.mpr q1, nlt_le.mpr q2⟩]
    have vM : ∀ τ : ky_St, fX4_set (nI x) b τ = if (if x = 0 then 0 ≤ b ∧ b ≤ (90 : Int32) else 1 ≤ b ∧ b ≤ (99 : Int32)) then fX4_set_L46 (nI x) b 0 τ else fX4_set_L46 (nI x) b 2 τ := by
      intro τ
      unfold fX4_set
      rw [ky_bd_s (isSettingT hx), if_neg (by decide)]
      rcases hc with rfl | rfl
      · rw [if_pos (show nI 0 = 0 from rfl), ky_bd_s qM_within]
        simp only [if_true]
        by_cases q : 0 ≤ b ∧ b ≤ (90 : Int32)
        · rw [bI_t q, if_neg (by decide), if_pos q]
          rfl
        · rw [bI_f q, if_pos rfl, if_neg q]
          unfold fX4_set_L26
          rw [if_neg (by decide)]
          rfl
      · rw [if_neg (show ¬ nI 1 = 0 from by decide)]
        simp only [show ¬ (1 : Nat) = 0 by omega, if_false]
        unfold fX4_set_L26
        rw [if_pos (show nI 1 = (1 : Int32) from rfl), ky_bd_s qM_within]
        by_cases q : 1 ≤ b ∧ b ≤ (99 : Int32)
        · rw [bI_t q, if_neg (by decide), if_pos q]
          rfl
        · rw [bI_f q, if_pos rfl, if_neg q]
          rfl
    by_cases hv : (if x = 0 then 0 ≤ b ∧ b ≤ (90 : Int32) else 1 ≤ b ∧ b ≤ (99 : Int32))
    · refine pStep.mut hS hR (n' := n) (F := fun Y => pU Y 1 x b) (v := fun Y => Y 1 x) (fun s => ky_g (¬ (nI x < 0 ∨ 283 ≤ (nI x).toNatClampNeg)) (ky_bn (s.1 8 (nI x).toNatClampNeg) fun v13 => ky_g (¬ (nI x < 0 ∨ 283 ≤ (nI x).toNatClampNeg)) (ky_bn (ky_u1 s 8 (nI x).toNatClampNeg b) fun s15 => some (v13, s15)))) (fun Y => pO.rfl'.u (by omega)) ?_ ?_ ?_
      · intro σ1 hT1 b1 hR1 hk
        unfold fL_set
        rw [ky_bh_r (show fX3_set (nI x) b σ = some (.inr _, _) from by unfold fX3_set; rw [ky_bx_s (needSettingT hx), ky_bd_s (vC σ), bI_t hv, if_neg (by decide), ky_bd_s hk, ky_bd_s (pa_at (k := 21) (N := 2) rfl hx (by omega) σ1), ky_bd_s (cS_self (cP (k := 21) (r := 1) (N := 2) rfl rfl rfl hx (by omega) b σ1 (pB σ1 20)))]), ky_bn_s]
        rfl
      · intro σ' τ e8 hs
        rw [vM, if_pos hv]
        unfold fX4_set_L46
        rw [mOk, ky_bd_s hs]
      · intro τ Y Z hY hRY
        have e : (mS τ Z).1 8 x = Y 1 x := hRY.2.1 1 x hx
        refine ⟨_, ?_, hRY.w (r := 1) (i := x) (p := x) (v := b) hx rfl (by decide) (hRY.1.w (Or.inl rfl))⟩
        show ky_g _ _ = _
        rw [ky_g_s (nI_in (by omega) (by omega)), ky_bn_s, ky_g_s (nI_in (by omega) (by omega)), ky_bn_s, nI_clamp (by omega), e, mS_u1]
    · refine pStep.err hS (c := 2) (by decide) ?_ ?_
      · unfold fL_set
        rw [ky_bh_l (show fX3_set (nI x) b σ = some (.inl ky_ex1, σ) from by unfold fX3_set; rw [ky_bx_s (needSettingT hx), ky_bd_s (vC σ), bI_f hv, if_pos rfl]), if_neg ex13, if_pos rfl]
      · rw [vM, if_neg hv]
        unfold fX4_set_L46
        rw [mErr (by decide)]
  · refine pStep.err hS (c := 1) (by decide) ?_ ?_
    · unfold fL_set
      rw [ky_bh_l (show fX3_set a b σ = some (.inl ky_ex3, σ) from by unfold fX3_set; rw [ky_bx_x (needSettingF hx)]), if_pos rfl]
    · unfold fX4_set
      rw [ky_bd_s (isSettingF hx), if_pos rfl]
      unfold fX4_set_L46
      rw [mErr (by decide)]
end WK
