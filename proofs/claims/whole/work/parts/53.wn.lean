/-! ===== pure: the law's orders: undo ===== -/
section WN
variable {n : Nat} {σ : ky_St} {s : Nat} {Y : pY} {Z : Nat → Int32}
theorem qM_undo_L {τ : ky_St} {h : Nat} (h5 : h ≤ 5) (e7 : τ.1 7 1 = nI h) : ∀ (m i fu : Nat) (Z : Nat → Int32), i + m = 283 → m < fu → ∃ Z', fX4_undo_L37 fu (nI i) (mS τ Z) = some (nI h, mS τ Z') ∧ ∀ p, Z' p = if i ≤ p ∧ p < 283 then τ.1 9 (283 * h + p) else Z p := by
  intro m
  induction m with
  | zero =>
    intro i fu Z h1 hf
    obtain ⟨fu, rfl⟩ : ∃ q, fu = q + 1 := ⟨fu - 1, by omega⟩
    have : i = 283 := by omega
    subst this
    refine ⟨Z, ?_, fun p => (if_neg (by omega)).symm⟩
    rw [fX4_undo_L37, if_pos (show (283 : Int32) ≤ nI 283 from nI_le (a := 283) (b := 283) (Nat.le_refl _) (by omega)), show (mS τ Z).1 7 1 = nI h from e7]
  | succ m ih =>
    intro i fu Z h1 hf
    obtain ⟨fu, rfl⟩ : ∃ q, fu = q + 1 := ⟨fu - 1, by omega⟩
    obtain ⟨Z', q1, q2⟩ := ih (i + 1) fu (upd Z i (τ.1 9 (283 * h + i))) (by omega) (by omega)
    refine ⟨Z', ?_, fun p => (q2 p).trans ?_⟩
    · rw [fX4_undo_L37, if_neg (show ¬ (283 : Int32) ≤ nI i from nI_ge (a := i) (b := 283) (by omega) (by omega)), show (mS τ Z).1 7 1 = nI h from e7, nI_283, ky_g_s (nI_in (by omega) (by omega)), ky_g_s (nI_in (by omega) (by omega)), nI_clamp (by omega), nI_clamp (by omega), show (mS τ Z).1 9 (283 * h + i) = τ.1 9 (283 * h + i) from rfl, mS_u1, ky_bn_s, ky_bn_s, nI_1]
      exact q1
    · by_cases a : i + 1 ≤ p ∧ p < 283
      · rw [if_pos a, if_pos (by omega)]
      · rw [if_neg a]
        show (if p = i then τ.1 9 (283 * h + i) else Z p) = _
        by_cases b : p = i
        · rw [if_pos b, if_pos (by omega), b]
        · rw [if_neg b, if_neg (by omega)]
theorem law_undo (hS : pSim σ) : pStep fL_undo fX4_undo σ := by
  obtain ⟨hT, ⟨n, hR⟩, ⟨h, q, h6, q6, e1, e2, e3, e4⟩, hX⟩ := id hS
  by_cases h0 : h = 0
  · subst h0
    refine pStep.err hS (c := 1) (by decide) ?_ ?_
    · unfold fL_undo
      rw [ky_bh_l (show fX3_undo σ = some (.inl ky_ex2, σ) from by
        unfold fX3_undo
        rw [e1, if_neg (show ¬ (1 : Int32) ≤ nI 0 from by decide)]), if_pos rfl]
    · unfold fX4_undo
      rw [e3, if_pos (show nI 0 ≤ 0 from by decide), ky_bn_s, u75_v, if_neg (by decide)]
  · have hq : (q + 5) % 6 < 6 := by omega
    obtain ⟨σ1, a1, a2, a3⟩ := qC_copyFrom (b := 20) (w := 33 + 13 * ((q + 5) % 6)) (Or.inl rfl) (Or.inr ⟨_, hq, rfl⟩) (by omega) (ky_u1 σ 2 2 (nI ((q + 5) % 6)))
    have o1 : ∀ k, k ≠ 2 → (k < 20 ∨ 33 ≤ k) → σ1.1 k = σ.1 k := fun k k2 hk => by rw [a2.1 k (by omega), ky_u1_ne k2]
    have s21 : σ1.1 2 1 = nI h := by
      rw [a2.1 2 (by omega), ky_u1_row]
      exact e1
    have C1 : fL_undo σ = some (0, ky_uJ (ky_u1 σ1 2 1 (nI (h - 1))) 16 (nI (h - 1)).toInt64) := by
      unfold fL_undo
      rw [ky_bh_r (show fX3_undo σ = some (.inr (nI (h - 1)), ky_u1 σ1 2 1 (nI (h - 1))) from by
        have g : fX1_giveBack σ = some ((), ky_u1 σ1 2 1 (nI (h - 1))) := by
          unfold fX1_giveBack
          rw [e1, if_pos (show (1 : Int32) ≤ nI h from nI_le (a := 1) (by omega) (by omega)), ky_g_s (by decide), e2, show nI q + (6 : Int32) - 1 = nI (q + 5) from by rw [show nI q + (6 : Int32) = nI (q + 6) from nI_add q 6]; exact nI_m _ _ (by omega), nI_rem (by omega), ky_bn_s]
          rw [show (ky_u1 σ 2 2 (nI ((q + 5) % 6))).1 2 2 = nI ((q + 5) % 6) from by rw [ky_u1_row]; rfl, ky_bd_s (qC_bookAt hq _), ky_bd_s a1, s21, nI_m h (h - 1) (by omega), ky_bn_s]
        unfold fX3_undo
        rw [e1, if_pos (show (1 : Int32) ≤ nI h from nI_le (a := 1) (by omega) (by omega)), ky_bd_s g, show (ky_u1 σ1 2 1 (nI (h - 1))).1 2 1 = nI (h - 1) from by rw [ky_u1_row]; rfl]), ky_bn_s]
    generalize hτ : ky_uJ (ky_u1 σ1 2 1 (nI (h - 1))) 16 (nI (h - 1)).toInt64 = σ2 at C1
    have o2 : ∀ k, k ≠ 2 → (k < 20 ∨ 33 ≤ k) → σ2.1 k = σ.1 k := fun k k2 hk => by
      rw [← hτ]
      show (ky_u1 σ1 2 1 (nI (h - 1))).1 k = _
      rw [ky_u1_ne k2, o1 k k2 hk]
    have o3 : σ2.1 2 1 = nI (h - 1) ∧ σ2.1 2 2 = nI ((q + 5) % 6) := by
      rw [← hτ]
      show (ky_u1 σ1 2 1 (nI (h - 1))).1 2 1 = _ ∧ (ky_u1 σ1 2 1 (nI (h - 1))).1 2 2 = _
      rw [ky_u1_row]
      refine ⟨rfl, ?_⟩
      show σ1.1 2 2 = _
      rw [a2.1 2 (by omega), ky_u1_row]
      rfl
    have o4 : ∀ r i, r < 13 → i < pLn r → σ2.1 (20 + r) i = pB σ (33 + 13 * ((q + 5) % 6)) r i := fun r i hr hi => by
      rw [← hτ]
      show (ky_u1 σ1 2 1 (nI (h - 1))).1 (20 + r) i = _
      rw [ky_u1_ne (by omega), a3 r i hr hi, ky_u1_ne (by omega)]
      rfl
    have o5 : σ2.2 16 = (nI (h - 1)).toInt64 := by
      rw [← hτ]
      exact (if_pos rfl : (if (16 : Nat) = 16 then (nI (h - 1)).toInt64 else σ1.2 16) = _)
    have e7 : σ2.1 7 1 = nI h := by rw [o2 7 (by omega) (by omega)]; exact e3
    have eT : (ky_u1 (ky_u1 σ2 7 5 0) 7 1 (nI (h - 1))).1 7 1 = nI (h - 1) := by
      rw [ky_u1_row]
      rfl
    obtain ⟨Z', b1, b2⟩ := qM_undo_L (τ := ky_u1 (ky_u1 σ2 7 5 0) 7 1 (nI (h - 1))) (h := h - 1) (by omega) eT 283 0 FU (σ.1 8) rfl (by decide)
    have e8 : (ky_u1 (ky_u1 σ2 7 5 0) 7 1 (nI (h - 1))).1 8 = σ.1 8 := by
      rw [ky_u1_ne (by decide), ky_u1_ne (by decide), o2 8 (by omega) (by omega)]
    rw [← e8, mS_id] at b1
    have t : ∀ k, k ≠ 7 → k ≠ 8 → (mS (ky_u1 (ky_u1 σ2 7 5 0) 7 1 (nI (h - 1))) Z').1 k = σ2.1 k := fun k k7 k8 => by
      rw [show (mS (ky_u1 (ky_u1 σ2 7 5 0) 7 1 (nI (h - 1))) Z').1 k = (ky_u1 (ky_u1 σ2 7 5 0) 7 1 (nI (h - 1))).1 k from if_neg k8, ky_u1_ne k7, ky_u1_ne k7]
    have t7 : ∀ f, f ≠ 1 → f ≠ 5 → (mS (ky_u1 (ky_u1 σ2 7 5 0) 7 1 (nI (h - 1))) Z').1 7 f = σ.1 7 f := fun f f1 f5 => by
      show (ky_u1 (ky_u1 σ2 7 5 0) 7 1 (nI (h - 1))).1 7 f = _
      rw [ky_u1_row]
      show (if f = 1 then _ else (ky_u1 σ2 7 5 0).1 7 f) = _
      rw [if_neg f1, ky_u1_row]
      show (if f = 5 then _ else σ2.1 7 f) = _
      rw [if_neg f5, o2 7 (by omega) (by omega)]
    obtain ⟨m, hm⟩ := e4 (h - 1) (by omega)
    rw [show (q + 6 - h + (h - 1)) % 6 = (q + 5) % 6 by omega] at hm
    have M1 : fX4_undo σ2 = some (nI (h - 1), mS (ky_u1 (ky_u1 σ2 7 5 0) 7 1 (nI (h - 1))) Z') := by
      unfold fX4_undo
      rw [e7, if_neg (fun z => h0 ((nI_z (by omega)).mp z)), ky_bn_s, u75_v, if_pos (by decide), show (ky_u1 σ2 7 5 0).1 7 1 = nI h from by rw [ky_u1_row]; exact e7, nI_m h (h - 1) (by omega), ky_bn_s]
      exact b1
    refine ⟨σ2, _, 0, nI (h - 1), C1, o2 15 (by omega) (by omega), M1, ?_, fun _ => o5, ⟨?_, ⟨m, ?_⟩, ⟨h - 1, (q + 5) % 6, by omega, hq, ?_, ?_, ?_, fun j hj => ?_⟩, ?_⟩, ?_⟩
    · show (ky_u1 (ky_u1 σ2 7 5 0) 7 1 (nI (h - 1))).1 7 5 = 0
      rw [ky_u1_row]
      exact u75_v σ2 0
    · unfold pT
      rw [t 13 (by decide) (by decide), t 14 (by decide) (by decide), o2 13 (by omega) (by omega), o2 14 (by omega) (by omega)]
      exact hT
    · refine (hm.zc (Z' := Z') (fun p hp => ?_)).ir (fun r i hr hi => ?_)
      · rw [b2 p, if_pos ⟨Nat.zero_le _, hp⟩, ky_u1_ne (by decide), ky_u1_ne (by decide), o2 9 (by omega) (by omega)]
      · show (mS _ Z').1 (20 + r) i = _
        rw [t (20 + r) (by omega) (by omega)]
        exact o4 r i hr hi
    · rw [t 2 (by decide) (by decide)]
      exact o3.1
    · rw [t 2 (by decide) (by decide)]
      exact o3.2
    · exact eT
    · obtain ⟨mj, hj2⟩ := e4 j (by omega)
      refine ⟨mj, ?_⟩
      rw [show ((q + 5) % 6 + 6 - (h - 1) + j) % 6 = (q + 6 - h + j) % 6 by omega, t 9 (by decide) (by decide), o2 9 (by omega) (by omega)]
      refine hj2.ir (fun r i _ _ => ?_)
      show (mS _ Z').1 (33 + 13 * ((q + 6 - h + j) % 6) + r) i = _
      rw [t _ (by omega) (by omega), o2 _ (by omega) (by omega)]
      rfl
    · refine hX.fr ?_ (t7 3 (by decide) (by decide)) ?_ ?_
      · rw [t 3 (by decide) (by decide), o2 3 (by omega) (by omega)]
      · rw [t 6 (by decide) (by decide), o2 6 (by omega) (by omega)]
      · rw [t 10 (by decide) (by decide), o2 10 (by omega) (by omega)]
    · rw [t 15 (by decide) (by decide), o2 15 (by omega) (by omega)]
end WN
