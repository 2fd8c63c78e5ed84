/-! ===== pure: the law's loop ===== -/
section WR
variable {σ : ky_St}
theorem lg_cmp_self (x : Int64) : lg_cmp x x = 0 := by
  unfold lg_cmp
  simp
theorem case_end {σ2 : ky_St} {c w : Int32} (h5 : σ2.1 7 5 = c) (h16 : c = 0 → σ2.2 16 = w.toInt64) (rec23 : Int32 → ky_St → Option (Int32 × ky_St)) (x4 : Int32) : (ky_bd (fX4_thrown σ2) fun v15 s13 => if v15 = c then (if c = 0 then (if (lg_cmp (s13.2 16) w.toInt64) = 0 then (ky_bn (x4 + (4 : Int32)) fun v20 => rec23 v20 s13) else (some ((0 : Int32), s13))) else (ky_bn (x4 + (4 : Int32)) fun v18 => rec23 v18 s13)) else (some ((0 : Int32), s13))) = rec23 (x4 + 4) σ2 := by
  unfold fX4_thrown
  rw [ky_bd_s rfl, h5, if_pos rfl]
  by_cases h : c = 0
  · rw [if_pos h, h16 h, lg_cmp_self, if_pos rfl, ky_bn_s]
  · rw [if_neg h, ky_bn_s]
theorem case_buySets {L : Nat} (hS : pSim σ) (rec23 : Int32 → ky_St → Option (Int32 × ky_St)) (x4 : Int32) (g1 : ¬ ((x4 + (1 : Int32)) < 0 ∨ L ≤ (x4 + (1 : Int32)).toNatClampNeg)) : ∃ σ2, fL_law_L164 L rec23 x4 σ = rec23 (x4 + 4) σ2 ∧ pSim σ2 ∧ σ2.1 15 = σ.1 15 := by
  obtain ⟨σ1, σ2, c, w, a1, a2, a3, a4, a5, a6, a7⟩ := law_buySets hS (σ.1 15 (x4 + (1 : Int32)).toNatClampNeg)
  refine ⟨σ2, ?_, a6, a7⟩
  unfold fL_law_L164
  rw [ky_g_s g1, ky_bd_s a1, ky_g_s g1, a2, ky_bd_s a3, case_end a4 a5]
theorem case_buySpare {L : Nat} (hS : pSim σ) (rec23 : Int32 → ky_St → Option (Int32 × ky_St)) (x4 : Int32) (g1 : ¬ ((x4 + (1 : Int32)) < 0 ∨ L ≤ (x4 + (1 : Int32)).toNatClampNeg)) (g2 : ¬ ((x4 + (2 : Int32)) < 0 ∨ L ≤ (x4 + (2 : Int32)).toNatClampNeg)) : ∃ σ2, fL_law_L220 L rec23 x4 σ = rec23 (x4 + 4) σ2 ∧ pSim σ2 ∧ σ2.1 15 = σ.1 15 := by
  obtain ⟨σ1, σ2, c, w, a1, a2, a3, a4, a5, a6, a7⟩ := law_buySpare hS (σ.1 15 (x4 + (1 : Int32)).toNatClampNeg) (σ.1 15 (x4 + (2 : Int32)).toNatClampNeg)
  refine ⟨σ2, ?_, a6, a7⟩
  unfold fL_law_L220
  rw [ky_g_s g1, ky_g_s g2, ky_bd_s a1, ky_g_s g1, ky_g_s g2, a2, ky_bd_s a3, case_end a4 a5]
theorem case_repair {L : Nat} (hS : pSim σ) (rec23 : Int32 → ky_St → Option (Int32 × ky_St)) (x4 : Int32) (g1 : ¬ ((x4 + (1 : Int32)) < 0 ∨ L ≤ (x4 + (1 : Int32)).toNatClampNeg)) : ∃ σ2, fL_law_L288 L rec23 x4 σ = rec23 (x4 + 4) σ2 ∧ pSim σ2 ∧ σ2.1 15 = σ.1 15 := by
  obtain ⟨σ1, σ2, c, w, a1, a2, a3, a4, a5, a6, a7⟩ := law_repair hS (σ.1 15 (x4 + (1 : Int32)).toNatClampNeg)
  refine ⟨σ2, ?_, a6, a7⟩
  unfold fL_law_L288
  rw [ky_g_s g1, ky_bd_s a1, ky_g_s g1, a2, ky_bd_s a3, case_end a4 a5]
theorem case_damage {L : Nat} (hS : pSim σ) (rec23 : Int32 → ky_St → Option (Int32 × ky_St)) (x4 : Int32) (g1 : ¬ ((x4 + (1 : Int32)) < 0 ∨ L ≤ (x4 + (1 : Int32)).toNatClampNeg)) (g2 : ¬ ((x4 + (2 : Int32)) < 0 ∨ L ≤ (x4 + (2 : Int32)).toNatClampNeg)) (g3 : ¬ ((x4 + (3 : Int32)) < 0 ∨ L ≤ (x4 + (3 : Int32)).toNatClampNeg)) : ∃ σ2, fL_law_L344 L rec23 x4 σ = rec23 (x4 + 4) σ2 ∧ pSim σ2 ∧ σ2.1 15 = σ.1 15 := by
  obtain ⟨σ1, σ2, c, w, a1, a2, a3, a4, a5, a6, a7⟩ := law_damage hS (σ.1 15 (x4 + (1 : Int32)).toNatClampNeg) (σ.1 15 (x4 + (2 : Int32)).toNatClampNeg) (σ.1 15 (x4 + (3 : Int32)).toNatClampNeg)
  refine ⟨σ2, ?_, a6, a7⟩
  unfold fL_law_L344
  rw [ky_g_s g1, ky_g_s g2, ky_g_s g3, ky_bd_s a1, ky_g_s g1, ky_g_s g2, ky_g_s g3, a2, ky_bd_s a3, case_end a4 a5]
theorem case_swap {L : Nat} (hS : pSim σ) (rec23 : Int32 → ky_St → Option (Int32 × ky_St)) (x4 : Int32) (g1 : ¬ ((x4 + (1 : Int32)) < 0 ∨ L ≤ (x4 + (1 : Int32)).toNatClampNeg)) (g2 : ¬ ((x4 + (2 : Int32)) < 0 ∨ L ≤ (x4 + (2 : Int32)).toNatClampNeg)) : ∃ σ2, fL_law_L424 L rec23 x4 σ = rec23 (x4 + 4) σ2 ∧ pSim σ2 ∧ σ2.1 15 = σ.1 15 := by
  obtain ⟨σ1, σ2, c, w, a1, a2, a3, a4, a5, a6, a7⟩ := law_swap hS (σ.1 15 (x4 + (1 : Int32)).toNatClampNeg) (σ.1 15 (x4 + (2 : Int32)).toNatClampNeg)
  refine ⟨σ2, ?_, a6, a7⟩
  unfold fL_law_L424
  rw [ky_g_s g1, ky_g_s g2, ky_bd_s a1, ky_g_s g1, ky_g_s g2, a2, ky_bd_s a3, case_end a4 a5]
theorem case_hire {L : Nat} (hS : pSim σ) (rec23 : Int32 → ky_St → Option (Int32 × ky_St)) (x4 : Int32) (g1 : ¬ ((x4 + (1 : Int32)) < 0 ∨ L ≤ (x4 + (1 : Int32)).toNatClampNeg)) (g2 : ¬ ((x4 + (2 : Int32)) < 0 ∨ L ≤ (x4 + (2 : Int32)).toNatClampNeg)) : ∃ σ2, fL_law_L492 L rec23 x4 σ = rec23 (x4 + 4) σ2 ∧ pSim σ2 ∧ σ2.1 15 = σ.1 15 := by
  obtain ⟨σ1, σ2, c, w, a1, a2, a3, a4, a5, a6, a7⟩ := law_hire hS (σ.1 15 (x4 + (1 : Int32)).toNatClampNeg) (σ.1 15 (x4 + (2 : Int32)).toNatClampNeg)
  refine ⟨σ2, ?_, a6, a7⟩
  unfold fL_law_L492
  rw [ky_g_s g1, ky_g_s g2, ky_bd_s a1, ky_g_s g1, ky_g_s g2, a2, ky_bd_s a3, case_end a4 a5]
theorem case_moveOn {L : Nat} (hS : pSim σ) (rec23 : Int32 → ky_St → Option (Int32 × ky_St)) (x4 : Int32) (g1 : ¬ ((x4 + (1 : Int32)) < 0 ∨ L ≤ (x4 + (1 : Int32)).toNatClampNeg)) (g2 : ¬ ((x4 + (2 : Int32)) < 0 ∨ L ≤ (x4 + (2 : Int32)).toNatClampNeg)) : ∃ σ2, fL_law_L560 L rec23 x4 σ = rec23 (x4 + 4) σ2 ∧ pSim σ2 ∧ σ2.1 15 = σ.1 15 := by
  obtain ⟨σ1, σ2, c, w, a1, a2, a3, a4, a5, a6, a7⟩ := law_moveOn hS (σ.1 15 (x4 + (1 : Int32)).toNatClampNeg) (σ.1 15 (x4 + (2 : Int32)).toNatClampNeg)
  refine ⟨σ2, ?_, a6, a7⟩
  unfold fL_law_L560
  rw [ky_g_s g1, ky_g_s g2, ky_bd_s a1, ky_g_s g1, ky_g_s g2, a2, ky_bd_s a3, case_end a4 a5]
theorem case_bring {L : Nat} (hS : pSim σ) (rec23 : Int32 → ky_St → Option (Int32 × ky_St)) (x4 : Int32) (g1 : ¬ ((x4 + (1 : Int32)) < 0 ∨ L ≤ (x4 + (1 : Int32)).toNatClampNeg)) : ∃ σ2, fL_law_L628 L rec23 x4 σ = rec23 (x4 + 4) σ2 ∧ pSim σ2 ∧ σ2.1 15 = σ.1 15 := by
  obtain ⟨σ1, σ2, c, w, a1, a2, a3, a4, a5, a6, a7⟩ := law_bring hS (σ.1 15 (x4 + (1 : Int32)).toNatClampNeg)
  refine ⟨σ2, ?_, a6, a7⟩
  unfold fL_law_L628
  rw [ky_g_s g1, ky_bd_s a1, ky_g_s g1, a2, ky_bd_s a3, case_end a4 a5]
theorem case_bringShort {L : Nat} (hS : pSim σ) (rec23 : Int32 → ky_St → Option (Int32 × ky_St)) (x4 : Int32) (g1 : ¬ ((x4 + (1 : Int32)) < 0 ∨ L ≤ (x4 + (1 : Int32)).toNatClampNeg)) (g2 : ¬ ((x4 + (2 : Int32)) < 0 ∨ L ≤ (x4 + (2 : Int32)).toNatClampNeg)) (g3 : ¬ ((x4 + (3 : Int32)) < 0 ∨ L ≤ (x4 + (3 : Int32)).toNatClampNeg)) : ∃ σ2, fL_law_L684 L rec23 x4 σ = rec23 (x4 + 4) σ2 ∧ pSim σ2 ∧ σ2.1 15 = σ.1 15 := by
  obtain ⟨σ1, σ2, c, w, a1, a2, a3, a4, a5, a6, a7⟩ := law_bringShort hS (σ.1 15 (x4 + (1 : Int32)).toNatClampNeg) (σ.1 15 (x4 + (2 : Int32)).toNatClampNeg) (σ.1 15 (x4 + (3 : Int32)).toNatClampNeg)
  refine ⟨σ2, ?_, a6, a7⟩
  unfold fL_law_L684
  rw [ky_g_s g1, ky_g_s g2, ky_g_s g3, ky_bd_s a1, ky_g_s g1, ky_g_s g2, ky_g_s g3, a2, ky_bd_s a3, case_end a4 a5]
theorem case_pay {L : Nat} (hS : pSim σ) (rec23 : Int32 → ky_St → Option (Int32 × ky_St)) (x4 : Int32) (g1 : ¬ ((x4 + (1 : Int32)) < 0 ∨ L ≤ (x4 + (1 : Int32)).toNatClampNeg)) (g2 : ¬ ((x4 + (2 : Int32)) < 0 ∨ L ≤ (x4 + (2 : Int32)).toNatClampNeg)) : ∃ σ2, fL_law_L764 L rec23 x4 σ = rec23 (x4 + 4) σ2 ∧ pSim σ2 ∧ σ2.1 15 = σ.1 15 := by
  obtain ⟨σ1, σ2, c, w, a1, a2, a3, a4, a5, a6, a7⟩ := law_pay hS (σ.1 15 (x4 + (1 : Int32)).toNatClampNeg) (σ.1 15 (x4 + (2 : Int32)).toNatClampNeg)
  refine ⟨σ2, ?_, a6, a7⟩
  unfold fL_law_L764
  rw [ky_g_s g1, ky_g_s g2, ky_bd_s a1, ky_g_s g1, ky_g_s g2, a2, ky_bd_s a3, case_end a4 a5]
theorem case_pass {L : Nat} (hS : pSim σ) (rec23 : Int32 → ky_St → Option (Int32 × ky_St)) (x4 : Int32) (g1 : ¬ ((x4 + (1 : Int32)) < 0 ∨ L ≤ (x4 + (1 : Int32)).toNatClampNeg)) : ∃ σ2, fL_law_L832 L rec23 x4 σ = rec23 (x4 + 4) σ2 ∧ pSim σ2 ∧ σ2.1 15 = σ.1 15 := by
  obtain ⟨σ1, σ2, c, w, a1, a2, a3, a4, a5, a6, a7⟩ := law_pass hS (σ.1 15 (x4 + (1 : Int32)).toNatClampNeg)
  refine ⟨σ2, ?_, a6, a7⟩
  unfold fL_law_L832
  rw [ky_g_s g1, ky_bd_s a1, ky_g_s g1, a2, ky_bd_s a3, case_end a4 a5]
theorem case_set {L : Nat} (hS : pSim σ) (rec23 : Int32 → ky_St → Option (Int32 × ky_St)) (x4 : Int32) (g1 : ¬ ((x4 + (1 : Int32)) < 0 ∨ L ≤ (x4 + (1 : Int32)).toNatClampNeg)) (g2 : ¬ ((x4 + (2 : Int32)) < 0 ∨ L ≤ (x4 + (2 : Int32)).toNatClampNeg)) : ∃ σ2, fL_law_L888 L rec23 x4 σ = rec23 (x4 + 4) σ2 ∧ pSim σ2 ∧ σ2.1 15 = σ.1 15 := by
  obtain ⟨σ1, σ2, c, w, a1, a2, a3, a4, a5, a6, a7⟩ := law_set hS (σ.1 15 (x4 + (1 : Int32)).toNatClampNeg) (σ.1 15 (x4 + (2 : Int32)).toNatClampNeg)
  refine ⟨σ2, ?_, a6, a7⟩
  unfold fL_law_L888
  rw [ky_g_s g1, ky_g_s g2, ky_bd_s a1, ky_g_s g1, ky_g_s g2, a2, ky_bd_s a3, case_end a4 a5]
theorem case_append {L : Nat} (hS : pSim σ) (rec23 : Int32 → ky_St → Option (Int32 × ky_St)) (x4 : Int32) (g1 : ¬ ((x4 + (1 : Int32)) < 0 ∨ L ≤ (x4 + (1 : Int32)).toNatClampNeg)) : ∃ σ2, fL_law_L956 L rec23 x4 σ = rec23 (x4 + 4) σ2 ∧ pSim σ2 ∧ σ2.1 15 = σ.1 15 := by
  obtain ⟨σ1, σ2, c, w, a1, a2, a3, a4, a5, a6, a7⟩ := law_append hS (σ.1 15 (x4 + (1 : Int32)).toNatClampNeg)
  refine ⟨σ2, ?_, a6, a7⟩
  unfold fL_law_L956
  rw [ky_g_s g1, ky_bd_s a1, ky_g_s g1, a2, ky_bd_s a3, case_end a4 a5]
theorem case_undo {L : Nat} (hS : pSim σ) (rec23 : Int32 → ky_St → Option (Int32 × ky_St)) (x4 : Int32)  : ∃ σ2, fL_law_L1082 L rec23 x4 σ = rec23 (x4 + 4) σ2 ∧ pSim σ2 ∧ σ2.1 15 = σ.1 15 := by
  obtain ⟨σ1, σ2, c, w, a1, a2, a3, a4, a5, a6, a7⟩ := law_undo hS
  refine ⟨σ2, ?_, a6, a7⟩
  unfold fL_law_L1082
  rw [ky_bd_s a1, ky_bd_s a3, case_end a4 a5]
theorem case_bundle {L : Nat} (hS : pSim σ) (rec23 : Int32 → ky_St → Option (Int32 × ky_St)) (x4 : Int32) (g1 : ¬ ((x4 + (1 : Int32)) < 0 ∨ L ≤ (x4 + (1 : Int32)).toNatClampNeg)) (g2 : ¬ ((x4 + (2 : Int32)) < 0 ∨ L ≤ (x4 + (2 : Int32)).toNatClampNeg)) : ∃ σ2, fL_law_L1126 L rec23 x4 σ = rec23 (x4 + 4) σ2 ∧ pSim σ2 ∧ σ2.1 15 = σ.1 15 := by
  obtain ⟨σ1, σ2, c, w, a1, a2, a3, a4, a5, a6, a7⟩ := law_bundle hS (σ.1 15 (x4 + (1 : Int32)).toNatClampNeg) (σ.1 15 (x4 + (2 : Int32)).toNatClampNeg)
  refine ⟨σ2, ?_, a6, a7⟩
  unfold fL_law_L1126
  rw [ky_g_s g1, ky_g_s g2, ky_bd_s a1, ky_g_s g1, ky_g_s g2, a2, ky_bd_s a3, case_end a4 a5]
theorem case_site {L : Nat} (hS : pSim σ) (rec23 : Int32 → ky_St → Option (Int32 × ky_St)) (x4 : Int32) (g1 : ¬ ((x4 + (1 : Int32)) < 0 ∨ L ≤ (x4 + (1 : Int32)).toNatClampNeg)) (g2 : ¬ ((x4 + (2 : Int32)) < 0 ∨ L ≤ (x4 + (2 : Int32)).toNatClampNeg)) : ∃ σ2, fL_law_L1194 L rec23 x4 σ = rec23 (x4 + 4) σ2 ∧ pSim σ2 ∧ σ2.1 15 = σ.1 15 := by
  obtain ⟨σ1, σ2, c, w, a1, a2, a3, a4, a5, a6, a7⟩ := law_site hS (σ.1 15 (x4 + (1 : Int32)).toNatClampNeg) (σ.1 15 (x4 + (2 : Int32)).toNatClampNeg)
  refine ⟨σ2, ?_, a6, a7⟩
  unfold fL_law_L1194
  rw [ky_g_s g1, ky_g_s g2, ky_bd_s a1, ky_g_s g1, ky_g_s g2, a2, ky_bd_s a3, case_end a4 a5]
theorem case_parts {L : Nat} (hS : pSim σ) (rec23 : Int32 → ky_St → Option (Int32 × ky_St)) (x4 : Int32) (g1 : ¬ ((x4 + (1 : Int32)) < 0 ∨ L ≤ (x4 + (1 : Int32)).toNatClampNeg)) (g2 : ¬ ((x4 + (2 : Int32)) < 0 ∨ L ≤ (x4 + (2 : Int32)).toNatClampNeg)) : ∃ σ2, fL_law_L1262 L rec23 x4 σ = rec23 (x4 + 4) σ2 ∧ pSim σ2 ∧ σ2.1 15 = σ.1 15 := by
  obtain ⟨σ1, σ2, c, w, a1, a2, a3, a4, a5, a6, a7⟩ := law_parts hS (σ.1 15 (x4 + (1 : Int32)).toNatClampNeg) (σ.1 15 (x4 + (2 : Int32)).toNatClampNeg)
  refine ⟨σ2, ?_, a6, a7⟩
  unfold fL_law_L1262
  rw [ky_g_s g1, ky_g_s g2, ky_bd_s a1, ky_g_s g1, ky_g_s g2, a2, ky_bd_s a3, case_end a4 a5]
theorem case_count {L : Nat} (hS : pSim σ) (rec23 : Int32 → ky_St → Option (Int32 × ky_St)) (x4 : Int32) (g1 : ¬ ((x4 + (1 : Int32)) < 0 ∨ L ≤ (x4 + (1 : Int32)).toNatClampNeg)) : ∃ σ2, fL_law_L1330 L rec23 x4 σ = rec23 (x4 + 4) σ2 ∧ pSim σ2 ∧ σ2.1 15 = σ.1 15 := by
  obtain ⟨σ1, σ2, c, w, a1, a2, a3, a4, a5, a6, a7⟩ := law_count hS (σ.1 15 (x4 + (1 : Int32)).toNatClampNeg)
  refine ⟨σ2, ?_, a6, a7⟩
  unfold fL_law_L1330
  rw [ky_g_s g1, ky_bd_s a1, ky_g_s g1, a2, ky_bd_s a3, case_end a4 a5]
theorem case_setting {L : Nat} (hS : pSim σ) (rec23 : Int32 → ky_St → Option (Int32 × ky_St)) (x4 : Int32) (g1 : ¬ ((x4 + (1 : Int32)) < 0 ∨ L ≤ (x4 + (1 : Int32)).toNatClampNeg)) : ∃ σ2, fL_law_L1386 L rec23 x4 σ = rec23 (x4 + 4) σ2 ∧ pSim σ2 ∧ σ2.1 15 = σ.1 15 := by
  obtain ⟨σ1, σ2, c, w, a1, a2, a3, a4, a5, a6, a7⟩ := law_setting hS (σ.1 15 (x4 + (1 : Int32)).toNatClampNeg)
  refine ⟨σ2, ?_, a6, a7⟩
  unfold fL_law_L1386
  rw [ky_g_s g1, ky_bd_s a1, ky_g_s g1, a2, ky_bd_s a3, case_end a4 a5]
theorem case_billIn {L : Nat} (hS : pSim σ) (rec23 : Int32 → ky_St → Option (Int32 × ky_St)) (x4 : Int32) (g1 : ¬ ((x4 + (1 : Int32)) < 0 ∨ L ≤ (x4 + (1 : Int32)).toNatClampNeg)) (g2 : ¬ ((x4 + (2 : Int32)) < 0 ∨ L ≤ (x4 + (2 : Int32)).toNatClampNeg)) : ∃ σ2, fL_law_L1442 L rec23 x4 σ = rec23 (x4 + 4) σ2 ∧ pSim σ2 ∧ σ2.1 15 = σ.1 15 := by
  obtain ⟨σ1, σ2, c, w, a1, a2, a3, a4, a5, a6, a7⟩ := law_billIn hS (σ.1 15 (x4 + (1 : Int32)).toNatClampNeg) (σ.1 15 (x4 + (2 : Int32)).toNatClampNeg)
  refine ⟨σ2, ?_, a6, a7⟩
  unfold fL_law_L1442
  rw [ky_g_s g1, ky_g_s g2, ky_bd_s a1, ky_g_s g1, ky_g_s g2, a2, ky_bd_s a3, case_end a4 a5]
theorem case_splitOn {L : Nat} (hS : pSim σ) (rec23 : Int32 → ky_St → Option (Int32 × ky_St)) (x4 : Int32) (g1 : ¬ ((x4 + (1 : Int32)) < 0 ∨ L ≤ (x4 + (1 : Int32)).toNatClampNeg)) (g2 : ¬ ((x4 + (2 : Int32)) < 0 ∨ L ≤ (x4 + (2 : Int32)).toNatClampNeg)) (g3 : ¬ ((x4 + (3 : Int32)) < 0 ∨ L ≤ (x4 + (3 : Int32)).toNatClampNeg)) : ∃ σ2, fL_law_L1510 L rec23 x4 σ = rec23 (x4 + 4) σ2 ∧ pSim σ2 ∧ σ2.1 15 = σ.1 15 := by
  obtain ⟨σ1, σ2, c, w, a1, a2, a3, a4, a5, a6, a7⟩ := law_splitOn hS (σ.1 15 (x4 + (1 : Int32)).toNatClampNeg) (σ.1 15 (x4 + (2 : Int32)).toNatClampNeg) (σ.1 15 (x4 + (3 : Int32)).toNatClampNeg)
  refine ⟨σ2, ?_, a6, a7⟩
  unfold fL_law_L1510
  rw [ky_g_s g1, ky_g_s g2, ky_g_s g3, ky_bd_s a1, ky_g_s g1, ky_g_s g2, ky_g_s g3, a2, ky_bd_s a3, case_end a4 a5]
theorem case_oldest {L : Nat} (hS : pSim σ) (rec23 : Int32 → ky_St → Option (Int32 × ky_St)) (x4 : Int32) (g1 : ¬ ((x4 + (1 : Int32)) < 0 ∨ L ≤ (x4 + (1 : Int32)).toNatClampNeg)) : ∃ σ2, fL_law_L1590 L rec23 x4 σ = rec23 (x4 + 4) σ2 ∧ pSim σ2 ∧ σ2.1 15 = σ.1 15 := by
  obtain ⟨σ1, σ2, c, w, a1, a2, a3, a4, a5, a6, a7⟩ := law_oldest hS (σ.1 15 (x4 + (1 : Int32)).toNatClampNeg)
  refine ⟨σ2, ?_, a6, a7⟩
  unfold fL_law_L1590
  rw [ky_g_s g1, ky_bd_s a1, ky_g_s g1, a2, ky_bd_s a3, case_end a4 a5]
end WR
