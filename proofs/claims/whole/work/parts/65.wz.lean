/-! ===== pure: run ===== -/
section WZ
variable {σ τ : ky_St} {n t p q j : Nat} {r : Nat → Nat} {P Z Z0 : Nat → Int32} {Y : pY}
/-- the loops of run, once the text is right -/
theorem run_L (hl : hL t r) (hT : pT σ) (hs : hC t r σ) : ∀ (m j p fu : Nat) (Y : pY) (Z0 : Nat → Int32) (c f s : Int32), rOK t r P m j p → 3 * j ≤ p → pR n Y Z0 → m + 1 < fu → ∃ d Y' q c1 f1 s1, fX3_run_L40 fu (nI j) (cT (cS σ Y) p c f s) = some (.inr (nI d), ky_u1 (cT (cS σ Y') q c1 f1 s1) 3 1 0) ∧ pO Y' Y ∧ ∀ τ Z fu2, τ.1 11 = P → τ.1 7 7 = nI (j + m) → pR n Y Z → m + 1 < fu2 → ∃ Z', fX4_run_L57 fu2 (nI j) (mS τ Z) = some (nI d, mS τ Z') ∧ pR n Y' Z' := by
  have h60 := hl.1
  have hT' : ∀ q c f s, pT (cT σ q c f s) := fun q c f s => hT
  have hs' : ∀ Y, hC t r (cS σ Y) := fun Y => hs
  intro m
  induction m with
  | zero =>
    intro j p fu Y Z0 c f s hr h3 hR0 hf
    obtain ⟨fu, rfl⟩ : ∃ q, fu = q + 1 := ⟨fu - 1, by omega⟩
    obtain ⟨a, f1, s1, b1, cl, vl, mt⟩ := hr
    obtain ⟨s2, e, es⟩ := cl (cS σ Y) (hs' Y) c f s
    obtain ⟨b, Y', hb, k1, k2, k3⟩ := carry (ρ := cT σ t a f1 s2) (hT' _ _ _ _) (by omega) hR0 rfl rfl es vl mt
    rcases hb with rfl | rfl
    · refine ⟨j, Y', t, a, f1, s2, ?_, k2, fun τ Z fu2 t1 t2 t3 t4 => ?_⟩
      · rw [fX3_run_L40, if_neg (show ¬ (60 : Int32) ≤ nI j from nI_ge (a := j) (b := 60) (by omega) (by omega)), ky_bd_s e, if_neg (by decide), cTS, ky_bd_s k1, if_pos rfl, ← cTS]
        rfl
      · obtain ⟨fu2, rfl⟩ : ∃ q, fu2 = q + 1 := ⟨fu2 - 1, by omega⟩
        obtain ⟨Z', z1, z2⟩ := k3 τ Z t1 t3
        refine ⟨Z', ?_, z2⟩
        rw [fX4_run_L57, show (mS τ Z).1 7 7 = nI (j + 0) from t2, if_neg (nI_nlt (by omega) (by omega)), ky_bd_s z1, if_pos rfl]
    · obtain ⟨fu, rfl⟩ : ∃ q, fu = q + 1 := ⟨fu - 1, by omega⟩
      refine ⟨j + 1, Y', t, -1, f1, s2, ?_, k2, fun τ Z fu2 t1 t2 t3 t4 => ?_⟩
      · rw [fX3_run_L40, if_neg (show ¬ (60 : Int32) ≤ nI j from nI_ge (a := j) (b := 60) (by omega) (by omega)), ky_bd_s e, if_neg (by decide), cTS, ky_bd_s k1, if_neg (by decide), ky_bn_s, nI_1, ← cTS, ky_bd_s (rd_rsF (w := 59) (W := 59) hl (hs' Y') (Nat.le_refl _) (fun z => absurd z (by omega)) (by omega) rfl)]
        rw [fX3_run_L40, if_neg (show ¬ (60 : Int32) ≤ nI (j + 1) from nI_ge (a := j + 1) (b := 60) (by omega) (by omega)), ky_bd_s (rd_oE (hs' Y') h60), if_pos rfl]
        rfl
      · obtain ⟨fu2, rfl⟩ : ∃ q, fu2 = q + 2 := ⟨fu2 - 2, by omega⟩
        obtain ⟨Z', z1, z2⟩ := k3 τ Z t1 t3
        refine ⟨Z', ?_, z2⟩
        rw [fX4_run_L57, show (mS τ Z).1 7 7 = nI (j + 0) from t2, if_neg (nI_nlt (by omega) (by omega)), ky_bd_s z1, if_neg (by decide), ky_bn_s, nI_1, fX4_run_L57, show (mS τ Z').1 7 7 = nI (j + 0) from t2, if_pos (nI_lt (by omega) (by omega))]
  | succ m ih =>
    intro j p fu Y Z0 c f s hr h3 hR0 hf
    obtain ⟨fu, rfl⟩ : ∃ q, fu = q + 1 := ⟨fu - 1, by omega⟩
    have hle := rOK_le _ _ _ hr
    obtain ⟨q, a, f1, s1, b1, b2, b3, cl, vl, mt, hr2⟩ := hr
    obtain ⟨s2, e, es⟩ := cl (cS σ Y) (hs' Y) c f s
    obtain ⟨b, Y', hb, k1, k2, k3⟩ := carry (ρ := cT σ q a f1 s2) (hT' _ _ _ _) (by omega) hR0 rfl rfl es vl mt
    rcases hb with rfl | rfl
    · refine ⟨j, Y', q, a, f1, s2, ?_, k2, fun τ Z fu2 t1 t2 t3 t4 => ?_⟩
      · rw [fX3_run_L40, if_neg (show ¬ (60 : Int32) ≤ nI j from nI_ge (a := j) (b := 60) (by omega) (by omega)), ky_bd_s e, if_neg (by decide), cTS, ky_bd_s k1, if_pos rfl, ← cTS]
        rfl
      · obtain ⟨fu2, rfl⟩ : ∃ q, fu2 = q + 1 := ⟨fu2 - 1, by omega⟩
        obtain ⟨Z', z1, z2⟩ := k3 τ Z t1 t3
        refine ⟨Z', ?_, z2⟩
        rw [fX4_run_L57, show (mS τ Z).1 7 7 = nI (j + (m + 1)) from t2, if_neg (nI_nlt (by omega) (by omega)), ky_bd_s z1, if_pos rfl]
    · obtain ⟨Z1, _, hR1⟩ := k3 (fun _ => P, fun _ => 0) Z0 rfl hR0
      obtain ⟨d, Y2, q2, c2, f2, s3, i1, i2, i3⟩ := ih (j + 1) (q + 1) fu Y' Z1 a f1 s2 hr2 (by omega) hR1 (by omega)
      refine ⟨d, Y2, q2, c2, f2, s3, ?_, i2.tr k2, fun τ Z fu2 t1 t2 t3 t4 => ?_⟩
      · rw [fX3_run_L40, if_neg (show ¬ (60 : Int32) ≤ nI j from nI_ge (a := j) (b := 60) (by omega) (by omega)), ky_bd_s e, if_neg (by decide), cTS, ky_bd_s k1, if_neg (by decide), ky_bn_s, nI_1, ← cTS, ky_bd_s (rd_rsT (W := 59) hl (hs' Y') b1 b2 rfl)]
        exact i1
      · obtain ⟨fu2, rfl⟩ : ∃ q, fu2 = q + 1 := ⟨fu2 - 1, by omega⟩
        obtain ⟨Z', z1, z2⟩ := k3 τ Z t1 t3
        obtain ⟨Z2, w1, w2⟩ := i3 τ Z' fu2 t1 (t2.trans (congrArg nI (by omega))) z2 (by omega)
        refine ⟨Z2, ?_, w2⟩
        rw [fX4_run_L57, show (mS τ Z).1 7 7 = nI (j + (m + 1)) from t2, if_neg (nI_nlt (by omega) (by omega)), ky_bd_s z1, if_neg (by decide), ky_bn_s, nI_1]
        exact w1
theorem run_bad (τ : ky_St) : fX4_run_L22 τ = some (0, ky_u1 τ 7 5 1) := by
  unfold fX4_run_L22 fX4_run_L23
  rw [if_pos rfl, ky_bn_s, u75_v, if_neg (by decide)]
theorem law_run (hS : pSim σ) : pStep fL_run fX4_run σ := by
  obtain ⟨hT, ⟨n, hR⟩, hH, hX⟩ := id hS
  obtain ⟨t, r, hl, hs, hm⟩ := hX.get
  have h60 := hl.1
  have hFU : t - 0 < FU := by show t - 0 < 4000; omega
  obtain ⟨b, q, c1, f1, s1, q', P', k', nm', du', d1, d2, d3⟩ := ir_L hl hs (t + 1) 0 0 FU (σ.1 11) (σ.1 7 8) (σ.1 3 3) (σ.1 3 4) (σ.1 3 5) (by omega) (by omega) (by omega) hFU
  have dR : fX2_isRowOfOrders σ = some (b, cT σ q c1 f1 s1) := by
    unfold fX2_isRowOfOrders fX2_rewind
    rw [ky_bn_s, ky_bd_s (a := ()) rfl, cT_id]
    exact d1
  rcases d3 with ⟨rfl, hq, hE⟩ | ⟨rfl, hqt, hE, ⟨m, rfl, hr⟩, _⟩
  · have hmA : hM t r (cT σ q c1 f1 s1) := ⟨hm.1, fun i hi => hm.2 i hi⟩
    have hrt : fX4_rightUpTo (cT σ q c1 f1 s1) = some (nI q', qS (cT σ q c1 f1 s1) P' k' nm' du') := (rut _).trans (d2 _ hmA FU hFU)
    have hMo : fX4_run (cT σ q c1 f1 s1) = some (0, ky_u1 (qS (cT σ q c1 f1 s1) P' k' nm' du') 7 5 1) := by
      unfold fX4_run
      rw [ky_bd_s hrt, show (qS (cT σ q c1 f1 s1) P' k' nm' du').1 7 3 = nI t from hm.1]
      by_cases e : nI q' = nI t
      · rw [if_pos e, ky_bd_s (hE ((nI_eq (by omega) (by omega)).mp e) _), if_pos rfl, run_bad]
      · rw [if_neg e, run_bad]
    have o : ∀ k, k ≠ 3 → k ≠ 7 → k ≠ 11 → (ky_u1 (qS (cT σ q c1 f1 s1) P' k' nm' du') 7 5 1).1 k = σ.1 k := fun k h3 h7 h11 => by rw [ky_u1_ne h7, qS_ne h11 h7, cT_ne h3]
    refine ⟨cT σ q c1 f1 s1, _, 1, 0, ?_, cT_ne (by decide), hMo, u75_v _ _, fun z => absurd z (by decide), ?_, o 15 (by decide) (by decide) (by decide)⟩
    · unfold fL_run
      rw [ky_bh_l (show fX3_run σ = some (.inl ky_ex1, cT σ q c1 f1 s1) from by unfold fX3_run; rw [ky_bd_s dR, if_pos rfl]), if_pos rfl]
    · refine hS.fr (fun k h3 h4 h7 h11 h12 => o k h3 h7 h11) ?_ ?_ ?_
      · rw [ky_u1_ne (by decide), qS_ne (by decide) (by decide)]
        rfl
      · rw [ky_u1_row]
        rfl
      · rw [ky_u1_row]
        rfl
  · rw [hqt] at d2
    have eA1 : ∀ k, k ≠ 3 → (cT σ q c1 f1 s1).1 k = σ.1 k := fun k h3 => cT_ne h3
    obtain ⟨σ1, a1, a2, a3, a4⟩ := qC_keep (n := n) (σ := cT σ q c1 f1 s1) (hH.fr rfl rfl rfl (fun k hk => eA1 k (by omega))) (hR.ir (fun r i _ _ => congrFun (eA1 (20 + r) (by omega)) i))
    have e1 : ∀ k, k < 33 → k ≠ 2 → k ≠ 3 → σ1.1 k = σ.1 k := fun k h h2 h3 => (a2 k h h2).trans (eA1 k h3)
    have hT1 : pT σ1 := by
      unfold pT
      rw [e1 13 (by omega) (by omega) (by omega), e1 14 (by omega) (by omega) (by omega)]
      exact hT
    have hs1 : hC t r σ1 := by
      unfold hC
      rw [a2 3 (by omega) (by omega), e1 6 (by omega) (by omega) (by omega)]
      exact hs
    have hR1 : pR n (pB σ1 20) (σ.1 8) := hR.ir (fun r i hr _ => congrFun (e1 (20 + r) (by omega) (by omega) (by omega)) i)
    have hm19 := rOK_le _ _ _ hr
    obtain ⟨d, Y', q2, c2, f2, s2, i1, i2, i3⟩ := run_L (P := P') (n := n) hl hT1 hs1 m 0 0 FU (pB σ1 20) (σ.1 8) (σ1.1 3 3) (σ1.1 3 4) (σ1.1 3 5) hr (by omega) hR1 (by show m + 1 < 4000; omega)
    rw [cS_id, ← cT_id] at i1
    have hC1 : fX3_run σ = some (.inr (nI d), ky_u1 (cT (cS σ1 Y') q2 c2 f2 s2) 3 1 0) := by
      unfold fX3_run fX2_rewind
      rw [ky_bd_s dR, if_neg (by decide), ky_bd_s a1, ky_bn_s, ky_bd_s (a := ()) rfl]
      exact i1
    generalize hf : ky_uJ (ky_u1 (cT (cS σ1 Y') q2 c2 f2 s2) 3 1 0) 16 (nI d).toInt64 = σf
    have hC2 : fL_run σ = some (0, σf) := by
      unfold fL_run
      rw [ky_bh_r hC1, ky_bn_s, hf]
    have lo : ∀ k, k < 20 → k ≠ 3 → σf.1 k = σ1.1 k := fun k hk h3 => by
      rw [← hf]
      show (ky_u1 (cT (cS σ1 Y') q2 c2 f2 s2) 3 1 0).1 k = _
      rw [ky_u1_ne h3, cT_ne h3]
      exact if_pos hk
    have mi : ∀ r, σf.1 (20 + r) = Y' r := fun r => by
      rw [← hf]
      show (ky_u1 (cT (cS σ1 Y') q2 c2 f2 s2) 3 1 0).1 (20 + r) = _
      rw [ky_u1_ne (by omega), cT_ne (by omega), cS_row]
    have hi : ∀ k, 33 ≤ k → σf.1 k = σ1.1 k := fun k hk => by
      have := mi (k - 20)
      rw [show 20 + (k - 20) = k by omega] at this
      rw [this, i2 (k - 20) (by omega)]
      show σ1.1 (20 + (k - 20)) = _
      rw [show 20 + (k - 20) = k by omega]
    have f31 : σf.1 3 1 = 0 := by
      rw [← hf]
      show (ky_u1 (cT (cS σ1 Y') q2 c2 f2 s2) 3 1 0).1 3 1 = 0
      rw [ky_u1_row]
      rfl
    have lo7 : σf.1 7 = σ.1 7 := (lo 7 (by omega) (by omega)).trans (e1 7 (by omega) (by omega) (by omega))
    have lo11 : σf.1 11 = σ.1 11 := (lo 11 (by omega) (by omega)).trans (e1 11 (by omega) (by omega) (by omega))
    have lo10 : σf.1 10 = σ.1 10 := (lo 10 (by omega) (by omega)).trans (e1 10 (by omega) (by omega) (by omega))
    have hmf : hM t r σf := by
      unfold hM
      rw [lo7, lo10]
      exact hm
    have hrt : fX4_rightUpTo σf = some (nI t, qS σf P' (0 + m) nm' du') := (rut _).trans (by rw [lo7, lo11]; exact d2 _ hmf FU hFU)
    have g7 : ∀ f, f ≠ 5 → f ≠ 7 → f ≠ 8 → f ≠ 9 → (ky_u1 (qS σf P' (0 + m) nm' du') 7 5 0).1 7 f = σf.1 7 f := fun f h5 h7 h8 h9 => by
      rw [ky_u1_row, pk_un h5]
      show (if f = 7 then _ else if f = 8 then _ else if f = 9 then _ else σf.1 7 f) = _
      rw [if_neg h7, if_neg h8, if_neg h9]
    have go : ∀ k, k ≠ 7 → k ≠ 11 → (ky_u1 (qS σf P' (0 + m) nm' du') 7 5 0).1 k = σf.1 k := fun k h7 h11 => by rw [ky_u1_ne h7, qS_ne h11 h7]
    have hk2 : pHk (ky_u1 (qS σf P' (0 + m) nm' du') 7 5 0) := by
      refine a4.fr ?_ ?_ ?_ ?_ (fun k hk => ?_)
      · rw [go 2 (by decide) (by decide), lo 2 (by omega) (by omega)]
      · rw [g7 1 (by decide) (by decide) (by decide) (by decide), lo 7 (by omega) (by omega)]
      · rw [go 8 (by decide) (by decide), lo 8 (by omega) (by omega)]
      · rw [go 9 (by decide) (by decide), lo 9 (by omega) (by omega)]
      · rw [go k (by omega) (by omega), hi k hk]
    obtain ⟨τs, v1, v2, v3, v4, v5⟩ := qM_save hk2
    generalize hτ : ky_u1 τs 7 3 0 = τ0
    have x7 : ∀ f, f ≠ 3 → τ0.1 7 f = τs.1 7 f := fun f h3 => by rw [← hτ, ky_u1_row, pk_un h3]
    have xo : ∀ k, k ≠ 7 → τ0.1 k = τs.1 k := fun k h7 => by rw [← hτ, ky_u1_ne h7]
    have y8 : τ0.1 8 = σ.1 8 := by rw [xo 8 (by decide), v3 8 (by decide) (by decide), go 8 (by decide) (by decide), lo 8 (by omega) (by omega), e1 8 (by omega) (by omega) (by omega)]
    have yk : ∀ k, k ≠ 7 → k ≠ 9 → k ≠ 11 → τ0.1 k = σf.1 k := fun k h7 h9 h11 => by rw [xo k h7, v3 k h7 h9, go k h7 h11]
    obtain ⟨Z', z1, z2⟩ := i3 τ0 (τ0.1 8) FU (by
      rw [xo 11 (by decide), v3 11 (by decide) (by decide), ky_u1_ne (by decide)]
      rfl) (by
      rw [x7 7 (by decide), v4 7 (by decide), ky_u1_row]
      rfl) (by
      rw [y8]
      exact hR1) (by show m + 1 < 4000; omega)
    rw [mS_id] at z1
    have hMo : fX4_run σf = some (nI d, mS τ0 Z') := by
      unfold fX4_run
      rw [ky_bd_s hrt, show (qS σf P' (0 + m) nm' du').1 7 3 = nI t from hmf.1, if_pos rfl, ky_bd_s (hE σf), if_neg (by decide)]
      unfold fX4_run_L23
      rw [if_neg (by decide), ky_bn_s, u75_v, if_pos (by decide), ky_bd_s v1, ky_bn_s, hτ]
      exact z1
    have mk : ∀ k, k ≠ 8 → (mS τ0 Z').1 k = τ0.1 k := fun k h8 => if_neg h8
    refine ⟨σf, mS τ0 Z', 0, nI d, hC2, ?_, hMo, ?_, fun _ => ?_, ⟨?_, ⟨n, ?_⟩, ?_, 0, by omega, ?_, ?_, fun i hi => absurd hi (Nat.not_lt_zero _)⟩, ?_⟩
    · exact (lo 15 (by omega) (by omega)).trans (e1 15 (by omega) (by omega) (by omega))
    · rw [mk 7 (by decide), x7 5 (by decide), v4 5 (by decide)]
      exact u75_v _ _
    · show τ0.2 16 = _
      rw [← hτ]
      show τs.2 16 = _
      rw [v5, ← hf]
      rfl
    · unfold pT
      rw [mk 13 (by decide), mk 14 (by decide), yk 13 (by decide) (by decide) (by decide), yk 14 (by decide) (by decide) (by decide), lo 13 (by omega) (by omega), lo 14 (by omega) (by omega)]
      exact hT1
    · rw [show (mS τ0 Z').1 8 = Z' from rfl]
      refine z2.ir (fun r i hr _ => ?_)
      show (mS τ0 Z').1 (20 + r) i = _
      rw [mk (20 + r) (by omega), yk (20 + r) (by omega) (by omega) (by omega), mi r]
    · refine v2.fr ?_ ?_ ?_ (fun k hk => ?_)
      · rw [mk 2 (by decide), xo 2 (by decide)]
      · rw [mk 7 (by decide), x7 1 (by decide)]
      · rw [mk 9 (by decide), xo 9 (by decide)]
      · rw [mk k (by omega), xo k (by omega)]
    · rw [mk 3 (by decide), yk 3 (by decide) (by decide) (by decide)]
      exact f31
    · rw [mk 7 (by decide), ← hτ, ky_u1_row]
      rfl
    · rw [mk 15 (by decide), yk 15 (by decide) (by decide) (by decide)]
      exact (lo 15 (by omega) (by omega)).trans (e1 15 (by omega) (by omega) (by omega))
theorem case_firstError {L : Nat} (hS : pSim σ) (rec23 : Int32 → ky_St → Option (Int32 × ky_St)) (x4 : Int32) : ∃ σ2, fL_law_L1025 L rec23 x4 σ = rec23 (x4 + 4) σ2 ∧ pSim σ2 ∧ σ2.1 15 = σ.1 15 := by
  obtain ⟨σ1, σ2, v, a1, a2, a3, a4⟩ := law_firstError hS
  refine ⟨σ2, ?_, a3, a4⟩
  unfold fL_law_L1025
  rw [ky_bd_s a1, ky_bd_s a2, if_pos rfl, ky_bn_s]
theorem case_run {L : Nat} (hS : pSim σ) (rec23 : Int32 → ky_St → Option (Int32 × ky_St)) (x4 : Int32) : ∃ σ2, fL_law_L1038 L rec23 x4 σ = rec23 (x4 + 4) σ2 ∧ pSim σ2 ∧ σ2.1 15 = σ.1 15 := by
  obtain ⟨σ1, σ2, c, w, a1, a2, a3, a4, a5, a6, a7⟩ := law_run hS
  refine ⟨σ2, ?_, a6, a7⟩
  unfold fL_law_L1038
  rw [ky_bd_s a1, ky_bd_s a3, case_end a4 a5]
end WZ
