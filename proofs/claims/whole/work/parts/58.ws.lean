/-! ===== pure: the law's loop, the cases that compare two values ===== -/
section WS
variable {σ : ky_St}
theorem case_clearBuffer {L : Nat} (hS : pSim σ) (rec23 : Int32 → ky_St → Option (Int32 × ky_St)) (x4 : Int32) : ∃ σ2, fL_law_L1012 L rec23 x4 σ = rec23 (x4 + 4) σ2 ∧ pSim σ2 ∧ σ2.1 15 = σ.1 15 := by
  obtain ⟨σ1, σ2, v, a1, a2, a3, a4⟩ := law_clearBuffer hS
  refine ⟨σ2, ?_, a3, a4⟩
  unfold fL_law_L1012
  rw [ky_bd_s a1, ky_bd_s a2, if_pos rfl, ky_bn_s]
theorem case_ifRepaired {L : Nat} (hS : pSim σ) (rec23 : Int32 → ky_St → Option (Int32 × ky_St)) (x4 : Int32) : ∃ σ2, fL_law_L1646 L rec23 x4 σ = rec23 (x4 + 4) σ2 ∧ pSim σ2 ∧ σ2.1 15 = σ.1 15 := by
  obtain ⟨σ1, σ2, v, a1, a2, a3, a4⟩ := law_ifRepaired hS
  refine ⟨σ2, ?_, a3, a4⟩
  unfold fL_law_L1646
  rw [ky_bd_s a1, ky_bd_s a2, if_pos rfl, ky_bn_s]
theorem case_hiredShare {L : Nat} (hS : pSim σ) (rec23 : Int32 → ky_St → Option (Int32 × ky_St)) (x4 : Int32) : ∃ σ2, fL_law_L1659 L rec23 x4 σ = rec23 (x4 + 4) σ2 ∧ pSim σ2 ∧ σ2.1 15 = σ.1 15 := by
  obtain ⟨σ1, σ2, v, a1, a2, a0, a3, a4⟩ := law_hiredShare hS
  refine ⟨σ2, ?_, a3, a4⟩
  unfold fL_law_L1659
  rw [ky_bd_s a1, ky_bd_s a2, if_pos a0, ky_bn_s]
theorem case_digest {L : Nat} (hS : pSim σ) (rec23 : Int32 → ky_St → Option (Int32 × ky_St)) (x4 : Int32) : ∃ σ2, fL_law_L1700 L rec23 x4 σ = rec23 (x4 + 4) σ2 ∧ pSim σ2 ∧ σ2.1 15 = σ.1 15 := by
  obtain ⟨σ1, σ2, v, a1, a2, a3, a4⟩ := law_digest hS
  refine ⟨σ2, ?_, a3, a4⟩
  unfold fL_law_L1700
  rw [ky_bd_s a1, ky_bd_s a2, lg_cmp_self, if_pos rfl, ky_bn_s]
end WS
