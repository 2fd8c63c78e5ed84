/-! ===== pure: the law's orders ===== -/
section WI
variable {n : Nat} {σ : ky_St} {s : Nat} {Y : pY} {Z : Nat → Int32}
theorem law_parts (hS : pSim σ) (a b : Int32) : pStep (fL_parts a b) (fX4_parts a b) σ := by
  obtain ⟨hT, ⟨n, hR⟩, _, _⟩ := id hS
  have hn := hR.1.1
  rcases rng (N := 4) (by omega) a with ⟨x, hx, rfl⟩ | hx
  · rcases rng2 (N := 4) (by omega) b with ⟨y, hy, rfl, c1, c2⟩ | ⟨hy, hy2⟩
    · refine pStep.ask hS (v := pPv (pB σ 20) n x y) ?_ ?_
      · unfold fL_parts
        rw [ky_bh_r (show fX3_parts (nI x) (nI y) σ = some (.inr _, σ) from by unfold fX3_parts; rw [ky_bx_s (needKindT hx), if_neg c1, if_pos (show nI y ≤ (4 : Int32) from c2), ky_bd_s (qC_partsValue hT hR.1 hx (by omega))])]
        rfl
      · unfold fX4_parts
        rw [ky_bd_s (isKindT hx), if_neg (by decide), ky_bd_s qM_within, bI_t (show 0 ≤ nI y ∧ nI y ≤ (4 : Int32) from ⟨nI_pos' (by omega), c2⟩), if_neg (by decide), mOk, ky_bd_s (qM_partNow (σ := ky_u1 (ky_uJ σ 16 _) 7 5 0) (hR.u 0) hx (by omega))]
    · refine pStep.err hS (c := 2) (by decide) ?_ ?_
      · unfold fL_parts
        rw [ky_bh_l (show fX3_parts (nI x) b σ = some (.inl ky_ex1, σ) from by
          unfold fX3_parts
          rw [ky_bx_s (needKindT hx)]
          by_cases h1 : b < 0
          · rw [if_pos h1]
          · rw [if_neg h1, if_neg (show ¬ b ≤ (4 : Int32) from hy.resolve_left h1)]), if_neg ex13, if_pos rfl]
      · unfold fX4_parts
        rw [ky_bd_s (isKindT hx), if_neg (by decide), ky_bd_s qM_within, bI_f (show ¬ (0 ≤ b ∧ b ≤ (4 : Int32)) from hy2), if_pos rfl, mErr (by decide)]
  · refine pStep.err hS (c := 1) (by decide) ?_ ?_
    · unfold fL_parts
      rw [ky_bh_l (show fX3_parts a b σ = some (.inl ky_ex3, σ) from by unfold fX3_parts; rw [ky_bx_x (needKindF hx)]), if_pos rfl]
    · unfold fX4_parts
      rw [ky_bd_s (isKindF hx), if_pos rfl, mErr (by decide)]
theorem law_bundle (hS : pSim σ) (a b : Int32) : pStep (fL_bundle a b) (fX4_bundle a b) σ := by
  obtain ⟨hT, ⟨n, hR⟩, _, _⟩ := id hS
  have hn := hR.1.1
  rcases rng (N := n) (by omega) a with ⟨x, hx, rfl⟩ | hx
  · have bad : ∀ b : Int32, (b < 0 ∨ ¬ b ≤ nI 13 ∨ b = 9) → ¬ (0 ≤ b ∧ b ≤ (8 : Int32)) → ¬ ((10 : Int32) ≤ b ∧ b ≤ (13 : Int32)) → pStep (fL_bundle (nI x) b) (fX4_bundle (nI x) b) σ := by
      intro b hb k1 k2
      refine pStep.err hS (c := 2) (by decide) ?_ ?_
      · unfold fL_bundle
        rw [ky_bh_l (show fX3_bundle (nI x) b σ = some (.inl ky_ex1, σ) from by
          unfold fX3_bundle
          have e : fX3_isBundleWhat b σ = some (0, σ) := by
            unfold fX3_isBundleWhat
            by_cases h1 : b < 0
            · rw [if_pos h1]
            · rw [if_neg h1]
              by_cases h2 : (13 : Int32) < b
              · rw [if_pos h2]
              · rw [if_neg h2, if_pos ((hb.resolve_left h1).resolve_left (fun q => q (nlt_le.mpr h2)))]
          rw [ky_bx_s (needSetT hn (h00 hR) hx), ky_bd_s e, if_pos rfl]), if_neg ex13, if_pos rfl]
      · unfold fX4_bundle
        rw [ky_bd_s (isSetT hR hx), if_neg (by decide), ky_bd_s qM_within, bI_f k1, if_pos rfl, ky_bd_s qM_within, bI_f k2, if_pos rfl, mErr (by decide)]
    rcases rng2 (N := 13) (by omega) b with ⟨y, hy, rfl, c1, c2⟩ | ⟨hy, hy2⟩
    · by_cases e9 : y = 9
      · subst e9
        exact bad _ (Or.inr (Or.inr rfl)) (by decide) (by decide)
      · refine pStep.ask hS (v := pBv (pB σ 20) x y) ?_ ?_
        · unfold fL_bundle
          rw [ky_bh_r (show fX3_bundle (nI x) (nI y) σ = some (.inr _, σ) from by
            unfold fX3_bundle
            have e : fX3_isBundleWhat (nI y) σ = some (1, σ) := by
              unfold fX3_isBundleWhat
              rw [if_neg c1, if_neg (nlt_le.mp (show nI y ≤ (13 : Int32) from c2)), if_neg (show ¬ nI y = (9 : Int32) from pLit (b := 9) e9 (by omega) (by omega))]
            rw [ky_bx_s (needSetT hn (h00 hR) hx), ky_bd_s e, if_neg (by decide), ky_bd_s (qC_bundleValue hT hR.1 hx (by omega) e9)])]
          rfl
        · unfold fX4_bundle
          rw [ky_bd_s (isSetT (σ := ky_uJ σ 16 _) hR hx), if_neg (by decide), ky_bd_s qM_within]
          by_cases h8 : y ≤ 8
          · rw [bI_t (show 0 ≤ nI y ∧ nI y ≤ (8 : Int32) from ⟨nI_pos' (by omega), nI_le (b := 8) h8 (by omega)⟩), if_neg (by decide), mOk, ky_bd_s (qM_bundleNow (σ := ky_u1 (ky_uJ σ 16 _) 7 5 0) (hR.u 0) hx (by omega) e9)]
          · rw [bI_f (show ¬ (0 ≤ nI y ∧ nI y ≤ (8 : Int32)) from fun q => nI_ge (a := 8) (b := y) (by omega) (by omega) q.2), if_pos rfl, ky_bd_s qM_within, bI_t (show (10 : Int32) ≤ nI y ∧ nI y ≤ (13 : Int32) from ⟨nI_le (a := 10) (by omega) (by omega), c2⟩), if_neg (by decide), mOk, ky_bd_s (qM_bundleNow (σ := ky_u1 (ky_uJ σ 16 _) 7 5 0) (hR.u 0) hx (by omega) e9)]
    · refine bad b (hy.imp id Or.inl) (fun q => hy2 ⟨q.1, Int32.le_trans q.2 (by decide)⟩) (fun q => hy2 ⟨Int32.le_trans (by decide) q.1, q.2⟩)
  · refine pStep.err hS (c := 1) (by decide) ?_ ?_
    · unfold fL_bundle
      rw [ky_bh_l (show fX3_bundle a b σ = some (.inl ky_ex3, σ) from by unfold fX3_bundle; rw [ky_bx_x (needSetF (h00 hR) hx)]), if_pos rfl]
    · unfold fX4_bundle
      rw [ky_bd_s (isSetF hR hx), if_pos rfl, mErr (by decide)]
theorem cS_self {A : Type} {F : pY} {C : ky_St → Option (A × ky_St)} {a : A} (h : C (cS σ (pB σ 20)) = some (a, cS σ F)) : C σ = some (a, cS σ F) := by
  rw [cS_id] at h
  exact h
theorem needInYardT (hn : n ≤ 24) (h0 : σ.1 20 0 = nI n) (hs : s < n) (h : pB σ 20 2 s = -1) : fX3_needInYard (nI s) σ = some (.inr (), σ) := by
  unfold fX3_needInYard
  rw [ky_bd_s (qC_isInYard hn h0 hs), bI_t h, if_neg (by decide)]
theorem needInYardF (hn : n ≤ 24) (h0 : σ.1 20 0 = nI n) (hs : s < n) (h : ¬ pB σ 20 2 s = -1) : fX3_needInYard (nI s) σ = some (.inl ky_ex2, σ) := by
  unfold fX3_needInYard
  rw [ky_bd_s (qC_isInYard hn h0 hs), bI_f h, if_pos rfl]
theorem needOnSiteT (hn : n ≤ 24) (h0 : σ.1 20 0 = nI n) (hs : s < n) (h : ¬ pB σ 20 2 s = -1) : fX3_needOnSite (nI s) σ = some (.inr (), σ) := by
  unfold fX3_needOnSite
  rw [ky_bd_s (qC_isOnSite hn h0 hs), bI_t h, if_neg (by decide)]
theorem needOnSiteF (hn : n ≤ 24) (h0 : σ.1 20 0 = nI n) (hs : s < n) (h : pB σ 20 2 s = -1) : fX3_needOnSite (nI s) σ = some (.inl ky_ex2, σ) := by
  unfold fX3_needOnSite
  rw [ky_bd_s (qC_isOnSite hn h0 hs), bI_f (fun q => q h), if_pos rfl]
theorem cBack_O (Y : pY) (s i : Nat) : pO (cBack Y s i) Y := ((pO.rfl'.u (by omega)).u (by omega)).u (by omega)
theorem cCome_O (Y : pY) (s : Nat) (x : Int32) : pO (cCome Y s x) Y := ((((((pO.rfl'.u (by omega)).u (by omega)).u (by omega)).u (by omega)).u (by omega)).u (by omega)).u (by omega)
theorem cMove_O (Y : pY) (s i : Nat) (x : Int32) : pO (cMove Y s i x) Y := (cCome_O _ s x).tr (pO.rfl'.u (by omega))
theorem cChg_O (Y : pY) (s k : Nat) (m : Int32) : pO (cChg Y s k m) Y := (pO.rfl'.u (by omega)).u (by omega)
theorem pSite (hV : pV n Y) (hs : s < n) (h : ¬ Y 2 s = -1) : ∃ i, i < 6 ∧ Y 2 s = nI i := (hV.2.2.2.1 s hs).1.resolve_left h
theorem law_bring (hS : pSim σ) (a : Int32) : pStep (fL_bring a) (fX4_bring a) σ := by
  obtain ⟨hT, ⟨n, hR⟩, _, _⟩ := id hS
  have hn := hR.1.1
  rcases rng (N := n) (by omega) a with ⟨x, hx, rfl⟩ | hx
  · by_cases hw : pB σ 20 2 x = -1
    · refine pStep.err hS (c := 2) (by decide) ?_ ?_
      · unfold fL_bring
        rw [ky_bh_l (show fX3_bring (nI x) σ = some (.inl ky_ex2, σ) from by unfold fX3_bring; rw [ky_bx_s (needSetT hn (h00 hR) hx), ky_bx_x (needOnSiteF hn (h00 hR) hx hw)]), if_neg ex23, if_pos rfl]
      · unfold fX4_bring
        rw [ky_bd_s (isSetT hR hx), if_neg (by decide), ky_bd_s (qM_isInYard hR hx), bI_t hw, if_neg (by decide), mErr (by decide)]
    · obtain ⟨i, hi, ei⟩ := pSite hR.1 hx hw
      refine pStep.mut hS hR (n' := n) (F := fun Y => cBack Y x i) (v := fun Y => pDue Y x 0) (fX4_leaves (nI x)) (fun Y => cBack_O Y x i) ?_ ?_ ?_
      · intro σ1 hT1 b1 hR1 hk
        unfold fL_bring
        rw [ky_bh_r (show fX3_bring (nI x) σ = some (.inr _, _) from by unfold fX3_bring; rw [ky_bx_s (needSetT hn (h00 hR) hx), ky_bx_s (needOnSiteT hn (h00 hR) hx hw), ky_bd_s hk, ky_bd_s (cS_self (qW_takeBack (s := x) (by omega) hi σ1 (pB σ1 20) (by rw [b1 2 (by omega)]; exact ei)))]), ky_bn_s]
      · intro σ' τ e8 hs
        have hR' : pR n (pB σ 20) (σ'.1 8) := by rw [e8]; exact hR
        unfold fX4_bring
        rw [ky_bd_s (isSetT hR' hx), if_neg (by decide), ky_bd_s (qM_isInYard hR' hx), bI_f hw, if_pos rfl, mOk, ky_bd_s hs]
        cases fX4_leaves (nI x) τ with
        | none => rfl
        | some q => rfl
      · intro τ Y Z hY hRY
        exact qX_leaves hRY hx hi (by rw [hY 2 (by omega)]; exact ei) τ
  · refine pStep.err hS (c := 1) (by decide) ?_ ?_
    · unfold fL_bring
      rw [ky_bh_l (show fX3_bring a σ = some (.inl ky_ex3, σ) from by unfold fX3_bring; rw [ky_bx_x (needSetF (h00 hR) hx)]), if_pos rfl]
    · unfold fX4_bring
      rw [ky_bd_s (isSetF hR hx), if_pos rfl, mErr (by decide)]
end WI
