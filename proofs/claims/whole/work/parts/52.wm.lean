/-! ===== pure: the law's orders: undo, the texts, what-if ===== -/
section WM
variable {n : Nat} {σ : ky_St} {s : Nat} {Y : pY} {Z : Nat → Int32}
def pStepV (C M : ky_St → Option (Int32 × ky_St)) (σ : ky_St) : Prop := ∃ σ1 σ2 v, C σ = some (v, σ1) ∧ M σ1 = some (v, σ2) ∧ pSim σ2 ∧ σ2.1 15 = σ.1 15
theorem law_ifRepaired (hS : pSim σ) : pStepV fX3_ifRepaired fX4_ifRepaired σ := by
  obtain ⟨hT, ⟨n, hR⟩, _, _⟩ := id hS
  obtain ⟨σ1, a1, a2⟩ := qC_ifRepaired hT hR.1
  have e8 : (ky_u1 σ1 7 5 0).1 8 = σ.1 8 := by rw [ky_u1_ne (by decide), a2.1 8 (by decide)]
  obtain ⟨σ2, b1, b2⟩ := qM_repairedThen (σ := ky_u1 σ1 7 5 0) (n := n) (Y := pB σ 20) (by rw [e8]; exact hR)
  refine ⟨σ1, σ2, _, a1, ?_, ?_, ?_⟩
  · unfold fX4_ifRepaired
    rw [ky_bn_s, ky_bd_s b1]
  · refine hS.fr (fun k h3 h4 h7 h11 h12 => ?_) ?_ ?_ ?_
    · rw [b2.1 k h12, ky_u1_ne h7, a2.1 k h4]
    · rw [b2.1 3 (by decide), ky_u1_ne (by decide), a2.1 3 (by decide)]
    · rw [b2.1 7 (by decide), ky_u1_row, a2.1 7 (by decide)]
      rfl
    · rw [b2.1 7 (by decide), ky_u1_row, a2.1 7 (by decide)]
      rfl
  · rw [b2.1 15 (by decide), ky_u1_ne (by decide), a2.1 15 (by decide)]
theorem law_clearBuffer (hS : pSim σ) : pStepV fX3_clearBuffer fX4_clearBuffer σ := by
  obtain ⟨hT, ⟨n, hR⟩, hH, t, t60, t1, t2, t3⟩ := hS
  have e : (ky_u1 (ky_u1 σ 3 1 0) 7 5 0).1 7 3 = nI t := by
    rw [ky_u1_row]
    show (ky_u1 σ 3 1 0).1 7 3 = _
    rw [ky_u1_ne (by decide)]
    exact t2
  refine ⟨ky_u1 σ 3 1 0, ky_u1 (ky_u1 (ky_u1 σ 3 1 0) 7 5 0) 7 3 0, nI t, ?_, ?_, ⟨?_, ⟨n, ?_⟩, ?_, 0, by omega, ?_, ?_, fun i hi => absurd hi (Nat.not_lt_zero _)⟩, ?_⟩
  · unfold fX3_clearBuffer
    rw [ky_bn_s, t1]
    rfl
  · unfold fX4_clearBuffer
    rw [ky_bn_s, ky_bn_s, e, ky_bn_s]
  · exact hT
  · rw [ky_u1_ne (by decide), ky_u1_ne (by decide), ky_u1_ne (by decide)]
    refine hR.ir (fun r i _ _ => ?_)
    show (ky_u1 (ky_u1 (ky_u1 σ 3 1 0) 7 5 0) 7 3 0).1 (20 + r) i = _
    rw [ky_u1_ne (by omega), ky_u1_ne (by omega), ky_u1_ne (by omega)]
    rfl
  · refine hH.fr ?_ ?_ ?_ (fun k hk => ?_)
    · rw [ky_u1_ne (by decide), ky_u1_ne (by decide), ky_u1_ne (by decide)]
    · rw [ky_u1_row, ky_u1_row, ky_u1_ne (by decide)]
      rfl
    · rw [ky_u1_ne (by decide), ky_u1_ne (by decide), ky_u1_ne (by decide)]
    · rw [ky_u1_ne (by omega), ky_u1_ne (by omega), ky_u1_ne (by omega)]
  · rw [ky_u1_ne (by decide), ky_u1_ne (by decide), ky_u1_row]
    rfl
  · rw [ky_u1_row]
    rfl
  · rw [ky_u1_ne (by decide), ky_u1_ne (by decide), ky_u1_ne (by decide)]
theorem law_append (hS : pSim σ) (a : Int32) : pStep (fL_append a) (fX4_append a) σ := by
  obtain ⟨hT, ⟨n, hR⟩, hH, t, t60, t1, t2, t3⟩ := id hS
  by_cases h1 : (33 : Int32) ≤ a ∧ a ≤ (126 : Int32)
  · by_cases h2 : t = 60
    · subst h2
      refine pStep.err hS (c := 2) (by decide) ?_ ?_
      · unfold fL_append
        rw [ky_bh_l (show fX3_append a σ = some (.inl ky_ex2, σ) from by
          unfold fX3_append
          rw [if_neg (nlt_le.mp h1.1), if_pos h1.2, t1, if_neg (show ¬ nI 60 < (60 : Int32) from by decide)]), if_neg ex21, if_pos rfl]
      · unfold fX4_append
        rw [ky_bd_s qM_within, bI_t h1, if_neg (by decide), if_pos (show σ.1 7 3 = (60 : Int32) from t2)]
        unfold fX4_append_L30
        rw [mErr (by decide)]
    · have e60 : nI t < (60 : Int32) := nI_lt (b := 60) (by omega) (by omega)
      obtain ⟨c, c1, c2, rfl⟩ : ∃ c, 33 ≤ c ∧ c ≤ 126 ∧ a = nI c := by
        rcases rng2 (N := 126) (by omega) a with ⟨c, hc, rfl, _⟩ | ⟨_, q⟩
        · refine ⟨c, ?_, hc, rfl⟩
          exact (nI_leI (a := 33) (by omega) (by omega)).mp h1.1
        · exact absurd ⟨Int32.le_trans (by decide) h1.1, h1.2⟩ q
      refine ⟨ky_uJ (ky_u1 (ky_u1 σ 6 t (nI c)) 3 1 (nI (t + 1))) 16 (nI (t + 1)).toInt64, ky_u1 (ky_u1 (ky_u1 (ky_uJ (ky_u1 (ky_u1 σ 6 t (nI c)) 3 1 (nI (t + 1))) 16 (nI (t + 1)).toInt64) 7 5 0) 10 t (nI c)) 7 3 (nI (t + 1)), 0, nI (t + 1), ?_, ?_, ?_, ?_, fun _ => ?_, ⟨?_, ⟨n, ?_⟩, ?_, ?_⟩, ?_⟩
      · unfold fL_append
        rw [ky_bh_r (show fX3_append (nI c) σ = some (.inr (nI (t + 1)), ky_u1 (ky_u1 σ 6 t (nI c)) 3 1 (nI (t + 1))) from by
          unfold fX3_append
          have e : fX2_write (nI c) σ = some ((), ky_u1 (ky_u1 σ 6 t (nI c)) 3 1 (nI (t + 1))) := by
            unfold fX2_write
            rw [t1, if_neg (show ¬ (60 : Int32) ≤ nI t from nI_ge (a := t) (b := 60) (by omega) (by omega)), ky_bd_s (pa_put (k := 6) (N := 60) rfl rfl (by omega) (by omega) (nI c) σ), ky_bn_s, show (ky_u1 σ 6 t (nI c)).1 3 1 = nI t from by rw [ky_u1_ne (by decide)]; exact t1, nI_1]
          rw [if_neg (nlt_le.mp h1.1), if_pos h1.2, t1, if_pos e60, ky_bd_s e, show (ky_u1 (ky_u1 σ 6 t (nI c)) 3 1 (nI (t + 1))).1 3 1 = nI (t + 1) from by rw [ky_u1_row]; rfl]), ky_bn_s]
      · show (ky_u1 (ky_u1 σ 6 t (nI c)) 3 1 (nI (t + 1))).1 15 = _
        rw [ky_u1_ne (by decide), ky_u1_ne (by decide)]
      · have e7 : (ky_uJ (ky_u1 (ky_u1 σ 6 t (nI c)) 3 1 (nI (t + 1))) 16 (nI (t + 1)).toInt64).1 7 3 = nI t := by
          show (ky_u1 (ky_u1 σ 6 t (nI c)) 3 1 (nI (t + 1))).1 7 3 = _
          rw [ky_u1_ne (by decide), ky_u1_ne (by decide)]
          exact t2
        have e7b : (ky_u1 (ky_uJ (ky_u1 (ky_u1 σ 6 t (nI c)) 3 1 (nI (t + 1))) 16 (nI (t + 1)).toInt64) 7 5 0).1 7 3 = nI t := by
          rw [ky_u1_row]
          exact e7
        unfold fX4_append
        rw [ky_bd_s qM_within, bI_t h1, if_neg (by decide), e7, if_neg (show ¬ nI t = (60 : Int32) from pLit (b := 60) h2 (by omega) (by omega))]
        unfold fX4_append_L30
        rw [mOk, e7b, ky_g_s (nI_in (by omega) (by omega)), nI_clamp (by omega), ky_bn_s, show (ky_u1 (ky_u1 (ky_uJ (ky_u1 (ky_u1 σ 6 t (nI c)) 3 1 (nI (t + 1))) 16 (nI (t + 1)).toInt64) 7 5 0) 10 t (nI c)).1 7 3 = nI t from by rw [ky_u1_ne (by decide)]; exact e7b, nI_1, ky_bn_s]
        congr 2
      · rw [ky_u1_row]
        show (ky_u1 (ky_u1 (ky_uJ (ky_u1 (ky_u1 σ 6 t (nI c)) 3 1 (nI (t + 1))) 16 (nI (t + 1)).toInt64) 7 5 0) 10 t (nI c)).1 7 5 = 0
        rw [ky_u1_ne (by decide)]
        exact u75_v _ 0
      · exact (if_pos rfl : (if (16 : Nat) = 16 then (nI (t + 1)).toInt64 else σ.2 16) = _)
      · exact hT
      · rw [ky_u1_ne (by decide), ky_u1_ne (by decide), ky_u1_ne (by decide)]
        show pR n _ ((ky_u1 (ky_u1 σ 6 t (nI c)) 3 1 (nI (t + 1))).1 8)
        rw [ky_u1_ne (by decide), ky_u1_ne (by decide)]
        refine hR.ir (fun r i _ _ => ?_)
        show (ky_u1 (ky_u1 (ky_u1 (ky_uJ (ky_u1 (ky_u1 σ 6 t (nI c)) 3 1 (nI (t + 1))) 16 (nI (t + 1)).toInt64) 7 5 0) 10 t (nI c)) 7 3 (nI (t + 1))).1 (20 + r) i = _
        rw [ky_u1_ne (by omega), ky_u1_ne (by omega), ky_u1_ne (by omega)]
        show (ky_u1 (ky_u1 σ 6 t (nI c)) 3 1 (nI (t + 1))).1 (20 + r) i = _
        rw [ky_u1_ne (by omega), ky_u1_ne (by omega)]
        rfl
      · have o : ∀ k, k ≠ 7 → k ≠ 10 → k ≠ 3 → k ≠ 6 → (ky_u1 (ky_u1 (ky_u1 (ky_uJ (ky_u1 (ky_u1 σ 6 t (nI c)) 3 1 (nI (t + 1))) 16 (nI (t + 1)).toInt64) 7 5 0) 10 t (nI c)) 7 3 (nI (t + 1))).1 k = σ.1 k := by
          intro k k7 k10 k3 k6
          rw [ky_u1_ne k7, ky_u1_ne k10, ky_u1_ne k7]
          show (ky_u1 (ky_u1 σ 6 t (nI c)) 3 1 (nI (t + 1))).1 k = _
          rw [ky_u1_ne k3, ky_u1_ne k6]
        refine hH.fr (o 2 (by decide) (by decide) (by decide) (by decide)) ?_ (o 9 (by decide) (by decide) (by decide) (by decide)) (fun k hk => o k (by omega) (by omega) (by omega) (by omega))
        rw [ky_u1_row]
        show (ky_u1 (ky_u1 (ky_uJ (ky_u1 (ky_u1 σ 6 t (nI c)) 3 1 (nI (t + 1))) 16 (nI (t + 1)).toInt64) 7 5 0) 10 t (nI c)).1 7 1 = _
        rw [ky_u1_ne (by decide), ky_u1_row]
        show (ky_u1 (ky_u1 σ 6 t (nI c)) 3 1 (nI (t + 1))).1 7 1 = _
        rw [ky_u1_ne (by decide), ky_u1_ne (by decide)]
      · refine ⟨t + 1, by omega, ?_, ?_, fun i hi => ?_⟩
        · rw [ky_u1_ne (by decide), ky_u1_ne (by decide), ky_u1_ne (by decide)]
          show (ky_u1 (ky_u1 σ 6 t (nI c)) 3 1 (nI (t + 1))).1 3 1 = _
          rw [ky_u1_row]
          rfl
        · rw [ky_u1_row]
          rfl
        · have e10 : (ky_u1 (ky_u1 (ky_u1 (ky_uJ (ky_u1 (ky_u1 σ 6 t (nI c)) 3 1 (nI (t + 1))) 16 (nI (t + 1)).toInt64) 7 5 0) 10 t (nI c)) 7 3 (nI (t + 1))).1 10 = upd (σ.1 10) t (nI c) := by
            rw [ky_u1_ne (by decide), ky_u1_row, ky_u1_ne (by decide)]
            show upd ((ky_u1 (ky_u1 σ 6 t (nI c)) 3 1 (nI (t + 1))).1 10) t (nI c) = _
            rw [ky_u1_ne (by decide), ky_u1_ne (by decide)]
          have e6 : (ky_u1 (ky_u1 (ky_u1 (ky_uJ (ky_u1 (ky_u1 σ 6 t (nI c)) 3 1 (nI (t + 1))) 16 (nI (t + 1)).toInt64) 7 5 0) 10 t (nI c)) 7 3 (nI (t + 1))).1 6 = upd (σ.1 6) t (nI c) := by
            rw [ky_u1_ne (by decide), ky_u1_ne (by decide), ky_u1_ne (by decide)]
            show (ky_u1 (ky_u1 σ 6 t (nI c)) 3 1 (nI (t + 1))).1 6 = _
            rw [ky_u1_ne (by decide), ky_u1_row]
          rw [e10, e6]
          unfold upd
          by_cases ei : i = t
          · rw [if_pos ei, if_pos ei]
            exact ⟨rfl, c, c1, c2, rfl⟩
          · rw [if_neg ei, if_neg ei]
            exact t3 i (by omega)
      · rw [ky_u1_ne (by decide), ky_u1_ne (by decide), ky_u1_ne (by decide)]
        show (ky_u1 (ky_u1 σ 6 t (nI c)) 3 1 (nI (t + 1))).1 15 = _
        rw [ky_u1_ne (by decide), ky_u1_ne (by decide)]
  · refine pStep.err hS (c := 1) (by decide) ?_ ?_
    · unfold fL_append
      rw [ky_bh_l (show fX3_append a σ = some (.inl ky_ex1, σ) from by
        unfold fX3_append
        by_cases h3 : a < (33 : Int32)
        · rw [if_pos h3]
        · rw [if_neg h3, if_neg (fun q => h1 ⟨nlt_le.mpr h3, q⟩)]), if_pos rfl]
    · unfold fX4_append
      rw [ky_bd_s qM_within, bI_f h1, if_pos rfl]
      unfold fX4_append_L30
      rw [mErr (by decide)]
end WM
