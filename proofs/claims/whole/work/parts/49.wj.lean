/-! ===== pure: the law's orders, on ===== -/
section WJ
variable {n : Nat} {σ : ky_St} {s : Nat} {Y : pY} {Z : Nat → Int32}
theorem ky_bd_p {x : Option (Int32 × ky_St)} : (ky_bd x fun v s => some (v, s)) = x := by
  cases x with
  | none => rfl
  | some q => rfl
theorem law_repair (hS : pSim σ) (a : Int32) : pStep (fL_repair a) (fX4_repair a) σ := by
  obtain ⟨hT, ⟨n, hR⟩, _, _⟩ := id hS
  have hn := hR.1.1
  rcases rng (N := n) (by omega) a with ⟨x, hx, rfl⟩ | hx
  · by_cases hw : pB σ 20 2 x = -1
    · refine pStep.mut hS hR (n' := n) (F := fun Y => (cFil Y x 4).1) (v := fun Y => (cFil Y x 4).2) (fX4_repair_L46 FU (nI x) 0 0) (fun Y => ?_) ?_ ?_ ?_
      · have f : ∀ W k, pO (cFi W x k) W := fun W k => (pO.rfl'.u (by omega)).u (by omega)
        exact (((f _ 3).tr (f _ 2)).tr (f _ 1)).tr (f _ 0)
      · intro σ1 hT1 b1 hR1 hk
        unfold fL_repair
        rw [ky_bh_r (show fX3_repair (nI x) σ = some (.inr _, _) from by unfold fX3_repair; rw [ky_bx_s (needSetT hn (h00 hR) hx), ky_bx_s (needInYardT hn (h00 hR) hx hw), ky_bd_s hk, ky_bd_s (cS_self (qW_fillUp (s := x) hT1 (by omega) (pB σ1 20)))]), ky_bn_s]
      · intro σ' τ e8 hs
        have hR' : pR n (pB σ 20) (σ'.1 8) := by rw [e8]; exact hR
        unfold fX4_repair
        rw [ky_bd_s (isSetT hR' hx), if_neg (by decide), ky_bd_s (qM_isInYard hR' hx), bI_t hw, if_neg (by decide), mOk, ky_bd_s hs]
      · intro τ Y Z hY hRY
        exact qX_repair_L hx Y τ 4 0 FU Z rfl (by decide) hRY
    · refine pStep.err hS (c := 2) (by decide) ?_ ?_
      · unfold fL_repair
        rw [ky_bh_l (show fX3_repair (nI x) σ = some (.inl ky_ex2, σ) from by unfold fX3_repair; rw [ky_bx_s (needSetT hn (h00 hR) hx), ky_bx_x (needInYardF hn (h00 hR) hx hw)]), if_neg ex23, if_pos rfl]
      · unfold fX4_repair
        rw [ky_bd_s (isSetT hR hx), if_neg (by decide), ky_bd_s (qM_isInYard hR hx), bI_f hw, if_pos rfl, mErr (by decide)]
  · refine pStep.err hS (c := 1) (by decide) ?_ ?_
    · unfold fL_repair
      rw [ky_bh_l (show fX3_repair a σ = some (.inl ky_ex3, σ) from by unfold fX3_repair; rw [ky_bx_x (needSetF (h00 hR) hx)]), if_pos rfl]
    · unfold fX4_repair
      rw [ky_bd_s (isSetF hR hx), if_pos rfl, mErr (by decide)]
theorem law_swap (hS : pSim σ) (a b : Int32) : pStep (fL_swap a b) (fX4_swap a b) σ := by
  obtain ⟨hT, ⟨n, hR⟩, _, _⟩ := id hS
  have hn := hR.1.1
  rcases rng (N := n) (by omega) a with ⟨x, hx, rfl⟩ | hx
  · rcases rng (N := n) (by omega) b with ⟨y, hy, rfl⟩ | hy
    · by_cases hw : pB σ 20 2 x = -1
      · by_cases hz : pB σ 20 2 y = -1
        · refine pStep.mut hS hR (n' := n) (F := fun Y => cSwp Y x y 4) (v := fun Y => pPa (cSwp Y x y 4) x) (fX4_swap_L60 FU (nI x) (nI y) 0) (fun Y => ?_) ?_ ?_ ?_
          · have f : ∀ W k, pO (cSw W x y k) W := fun W k => (pO.rfl'.u (by omega)).u (by omega)
            exact (((f _ 3).tr (f _ 2)).tr (f _ 1)).tr (f _ 0)
          · intro σ1 hT1 b1 hR1 hk
            unfold fL_swap
            rw [ky_bh_r (show fX3_swap (nI x) (nI y) σ = some (.inr _, _) from by unfold fX3_swap; rw [ky_bx_s (needSetT hn (h00 hR) hx), ky_bx_s (needSetT hn (h00 hR) hy), ky_bx_s (needInYardT hn (h00 hR) hx hw), ky_bx_s (needInYardT hn (h00 hR) hy hz), ky_bd_s hk, ky_bd_s (cS_self (qW_exchange (s := x) (t := y) (by omega) (by omega) (pB σ1 20))), ky_bd_s (qC_partsIn (s := x) (by omega)), cS_pB]), ky_bn_s]
          · intro σ' τ e8 hs
            have hR' : pR n (pB σ 20) (σ'.1 8) := by rw [e8]; exact hR
            unfold fX4_swap
            rw [ky_bd_s (isSetT hR' hx), if_neg (by decide), ky_bd_s (isSetT hR' hy), if_neg (by decide), ky_bd_s (qM_isInYard hR' hx), bI_t hw, if_neg (by decide), ky_bd_s (qM_isInYard hR' hy), bI_t hz, if_neg (by decide), mOk, ky_bd_s hs]
          · intro τ Y Z hY hRY
            exact qX_swap_L hx hy Y τ 4 0 FU Z rfl (by decide) hRY
        · refine pStep.err hS (c := 2) (by decide) ?_ ?_
          · unfold fL_swap
            rw [ky_bh_l (show fX3_swap (nI x) (nI y) σ = some (.inl ky_ex2, σ) from by unfold fX3_swap; rw [ky_bx_s (needSetT hn (h00 hR) hx), ky_bx_s (needSetT hn (h00 hR) hy), ky_bx_s (needInYardT hn (h00 hR) hx hw), ky_bx_x (needInYardF hn (h00 hR) hy hz)]), if_neg ex23, if_pos rfl]
          · unfold fX4_swap
            rw [ky_bd_s (isSetT hR hx), if_neg (by decide), ky_bd_s (isSetT hR hy), if_neg (by decide), ky_bd_s (qM_isInYard hR hx), bI_t hw, if_neg (by decide), ky_bd_s (qM_isInYard hR hy), bI_f hz, if_pos rfl, mErr (by decide)]
      · refine pStep.err hS (c := 2) (by decide) ?_ ?_
        · unfold fL_swap
          rw [ky_bh_l (show fX3_swap (nI x) (nI y) σ = some (.inl ky_ex2, σ) from by unfold fX3_swap; rw [ky_bx_s (needSetT hn (h00 hR) hx), ky_bx_s (needSetT hn (h00 hR) hy), ky_bx_x (needInYardF hn (h00 hR) hx hw)]), if_neg ex23, if_pos rfl]
        · unfold fX4_swap
          rw [ky_bd_s (isSetT hR hx), if_neg (by decide), ky_bd_s (isSetT hR hy), if_neg (by decide), ky_bd_s (qM_isInYard hR hx), bI_f hw, if_pos rfl, mErr (by decide)]
    · refine pStep.err hS (c := 1) (by decide) ?_ ?_
      · unfold fL_swap
        rw [ky_bh_l (show fX3_swap (nI x) b σ = some (.inl ky_ex3, σ) from by unfold fX3_swap; rw [ky_bx_s (needSetT hn (h00 hR) hx), ky_bx_x (needSetF (h00 hR) hy)]), if_pos rfl]
      · unfold fX4_swap
        rw [ky_bd_s (isSetT hR hx), if_neg (by decide), ky_bd_s (isSetF hR hy), if_pos rfl, mErr (by decide)]
  · refine pStep.err hS (c := 1) (by decide) ?_ ?_
    · unfold fL_swap
      rw [ky_bh_l (show fX3_swap a b σ = some (.inl ky_ex3, σ) from by unfold fX3_swap; rw [ky_bx_x (needSetF (h00 hR) hx)]), if_pos rfl]
    · unfold fX4_swap
      rw [ky_bd_s (isSetF hR hx), if_pos rfl, mErr (by decide)]
theorem law_moveOn (hS : pSim σ) (a b : Int32) : pStep (fL_moveOn a b) (fX4_moveOn a b) σ := by
  obtain ⟨hT, ⟨n, hR⟩, _, _⟩ := id hS
  have hn := hR.1.1
  rcases rng (N := n) (by omega) a with ⟨x, hx, rfl⟩ | hx
  · rcases rng (N := 6) (by omega) b with ⟨y, hy, rfl⟩ | hy
    · by_cases hw : (if pB σ 20 2 x = -1 then (0 : Int32) else if pB σ 20 2 x = nI y then 0 else 1) = 0
      · refine pStep.err hS (c := 2) (by decide) ?_ ?_
        · unfold fL_moveOn
          rw [ky_bh_l (show fX3_moveOn (nI x) (nI y) σ = some (.inl ky_ex2, σ) from by unfold fX3_moveOn; rw [ky_bx_s (needSetT hn (h00 hR) hx), ky_bx_s (needSiteT hy), ky_bd_s (qC_canMove hn (h00 hR) hx hy), if_pos hw]), if_neg ex23, if_pos rfl]
        · unfold fX4_moveOn
          rw [ky_bd_s (isSetT hR hx), if_neg (by decide), ky_bd_s (isSiteT hy), if_neg (by decide), ky_bd_s (qM_canMove hR hx _), if_pos hw, mErr (by decide)]
      · have hw1 : ¬ pB σ 20 2 x = -1 := fun e => hw (if_pos e)
        obtain ⟨i, hi, ei⟩ := pSite hR.1 hx hw1
        refine pStep.mut hS hR (n' := n) (F := fun Y => cMove Y x i (nI y)) (v := fun Y => pDue Y x 0) (fX4_moves (nI x) (nI y)) (fun Y => cMove_O Y x i _) ?_ ?_ ?_
        · intro σ1 hT1 b1 hR1 hk
          unfold fL_moveOn
          rw [ky_bh_r (show fX3_moveOn (nI x) (nI y) σ = some (.inr _, _) from by unfold fX3_moveOn; rw [ky_bx_s (needSetT hn (h00 hR) hx), ky_bx_s (needSiteT hy), ky_bd_s (qC_canMove hn (h00 hR) hx hy), if_neg hw, ky_bd_s hk, ky_bd_s (cS_self (qW_moveTo (s := x) (by omega) hi (nI y) σ1 (pB σ1 20) (by rw [b1 2 (by omega)]; exact ei)))]), ky_bn_s]
        · intro σ' τ e8 hs
          have hR' : pR n (pB σ 20) (σ'.1 8) := by rw [e8]; exact hR
          unfold fX4_moveOn
          rw [ky_bd_s (isSetT hR' hx), if_neg (by decide), ky_bd_s (isSiteT hy), if_neg (by decide), ky_bd_s (qM_canMove hR' hx _), if_neg hw, mOk, ky_bd_s hs, ky_bd_p]
        · intro τ Y Z hY hRY
          exact qX_moves hRY hx hi (by rw [hY 2 (by omega)]; exact ei) hy τ
    · refine pStep.err hS (c := 1) (by decide) ?_ ?_
      · unfold fL_moveOn
        rw [ky_bh_l (show fX3_moveOn (nI x) b σ = some (.inl ky_ex3, σ) from by unfold fX3_moveOn; rw [ky_bx_s (needSetT hn (h00 hR) hx), ky_bx_x (needSiteF hy)]), if_pos rfl]
      · unfold fX4_moveOn
        rw [ky_bd_s (isSetT hR hx), if_neg (by decide), ky_bd_s (isSiteF hy), if_pos rfl, mErr (by decide)]
  · refine pStep.err hS (c := 1) (by decide) ?_ ?_
    · unfold fL_moveOn
      rw [ky_bh_l (show fX3_moveOn a b σ = some (.inl ky_ex3, σ) from by unfold fX3_moveOn; rw [ky_bx_x (needSetF (h00 hR) hx)]), if_pos rfl]
    · unfold fX4_moveOn
      rw [ky_bd_s (isSetF hR hx), if_pos rfl, mErr (by decide)]
theorem law_buySets (hS : pSim σ) (a : Int32) : pStep (fL_buySets a) (fX4_buySets a) σ := by
  obtain ⟨hT, ⟨n, hR⟩, _, _⟩ := id hS
  have hn := hR.1.1
  have bad : ¬ (1 ≤ a ∧ a ≤ (24 : Int32)) → pStep (fL_buySets a) (fX4_buySets a) σ := by
    intro h
    refine pStep.err hS (c := 1) (by decide) ?_ ?_
    · unfold fL_buySets
      rw [ky_bh_l (show fX3_buySets a σ = some (.inl ky_ex1, σ) from by
        unfold fX3_buySets
        by_cases h1 : a < (1 : Int32)
        · rw [if_pos h1]
        · rw [if_neg h1, if_neg (fun q => h ⟨nlt_le.mpr h1, q⟩)]), if_pos rfl]
    · unfold fX4_buySets
      rw [ky_bd_s (qM_areSets a), bI_f h, if_pos rfl, mErr (by decide)]
  rcases rng2 (N := 24) (by omega) a with ⟨x, hx, rfl, c1, c2⟩ | ⟨hx, hx2⟩
  · by_cases h0 : x = 0
    · subst h0
      exact bad (by decide)
    · have h1 : (1 : Int32) ≤ nI x := nI_le (a := 1) (by omega) (by omega)
      have e3 : ∀ τ : ky_St, τ.1 8 = σ.1 8 → (τ.1 8 (3 : Int32).toNatClampNeg) + nI x = nI (n + x) := fun τ e => by rw [e, qM_z3 hR, nI_add]
      by_cases h24 : n + x ≤ 24
      · have h24' : nI (n + x) ≤ (24 : Int32) := nI_le (b := 24) h24 (by omega)
        refine pStep.mut hS hR (n' := n + x) (F := fun Y => cNews Y n x) (v := fun _ => nI (n + x)) (fX4_buySets_L48 FU (nI x) 0) (fun Y => ?_) ?_ ?_ ?_
        · have f1 : ∀ W k, pO (cNks W n k) W := fun W k => by
            intro r hr
            exact cNks_o (by omega) (by omega) k
          have f3 : ∀ t W k, pO (cNks W t k) W := fun t W k => by
            intro r hr
            exact cNks_o (by omega) (by omega) k
          have f2 : ∀ m, pO (cNews Y n m) Y := by
            intro m
            induction m with
            | zero => exact pO.rfl'
            | succ m ih => exact (((f3 (n + m) _ 4).u (by omega))).tr ih
          exact f2 x
        · intro σ1 hT1 b1 hR1 hk
          unfold fL_buySets
          rw [ky_bh_r (show fX3_buySets (nI x) σ = some (.inr (nI (n + x)), cS σ1 (cNews (pB σ1 20) n x)) from by
            unfold fX3_buySets
            rw [if_neg (nlt_le.mp h1), if_pos (show nI x ≤ (24 : Int32) from c2), h00 hR, nI_add, if_pos h24', ky_bd_s hk, ky_bd_s (cS_self (qW_addSets hT1 h24 (pB σ1 20) (by rw [b1 0 (by omega)]; exact h00 hR)))]
            rw [show (cS σ1 (cNews (pB σ1 20) n x)).1 20 0 = nI (n + x) from (congrFun (cS_row σ1 _ 0) 0).trans (cNews_00 _ (by rw [b1 0 (by omega)]; exact h00 hR) x)]), ky_bn_s]
        · intro σ' τ e8 hs
          unfold fX4_buySets
          rw [ky_bd_s (qM_areSets _), bI_t ⟨h1, show nI x ≤ (24 : Int32) from c2⟩, if_neg (by decide), ky_g_s (by decide), e3 σ' e8, if_pos h24', mOk, ky_bd_s hs]
        · intro τ Y Z hY hRY
          exact qX_buy hRY h24 τ
      · have h24' : ¬ nI (n + x) ≤ (24 : Int32) := nI_ge (a := 24) (by omega) (by omega)
        refine pStep.err hS (c := 2) (by decide) ?_ ?_
        · unfold fL_buySets
          rw [ky_bh_l (show fX3_buySets (nI x) σ = some (.inl ky_ex2, σ) from by
            unfold fX3_buySets
            rw [if_neg (nlt_le.mp h1), if_pos (show nI x ≤ (24 : Int32) from c2), h00 hR, nI_add, if_neg h24']), if_neg ex21, if_pos rfl]
        · unfold fX4_buySets
          rw [ky_bd_s (qM_areSets _), bI_t ⟨h1, show nI x ≤ (24 : Int32) from c2⟩, if_neg (by decide), ky_g_s (by decide), e3 σ rfl, if_neg h24', mErr (by decide)]
  · exact bad (fun q => hx2 ⟨Int32.le_trans (by decide) q.1, q.2⟩)
end WJ
