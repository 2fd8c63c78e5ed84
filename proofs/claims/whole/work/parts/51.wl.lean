/-! ===== pure: the law's orders: hiring, spares, damage, short returns ===== -/
section WL
variable {n : Nat} {σ : ky_St} {s : Nat} {Y : pY} {Z : Nat → Int32}
theorem cHi_O (x : Int32) : ∀ m c i Y, pO (cHi x m c i Y) Y
  | 0, _, _, _ => pO.rfl'
  | m + 1, c, i, Y => by
    unfold cHi
    split
    · exact pO.rfl'
    · split
      · split
        · exact (cHi_O x m (c - 1) (i + 1) _).tr (cCome_O _ _ _)
        · exact cHi_O x m c (i + 1) Y
      · exact cHi_O x m c (i + 1) Y
theorem cHi_V {x : Nat} (hx : x < 6) : ∀ m c i Y, i + m = n → pV n Y → pV n (cHi (nI x) m c i Y)
  | 0, _, _, _, _, h => h
  | m + 1, c, i, Y, e, h => by
    unfold cHi
    split
    · exact h
    · split
      · split
        · exact cHi_V hx m (c - 1) (i + 1) _ (by omega) (cCome_V h (by omega) hx)
        · exact cHi_V hx m c (i + 1) Y (by omega) h
      · exact cHi_V hx m c (i + 1) Y (by omega) h
theorem law_hire (hS : pSim σ) (a b : Int32) : pStep (fL_hire a b) (fX4_hire a b) σ := by
  obtain ⟨hT, ⟨n, hR⟩, _, _⟩ := id hS
  have hn := hR.1.1
  rcases rng (N := 6) (by omega) a with ⟨x, hx, rfl⟩ | hx
  · by_cases h1 : 1 ≤ b ∧ b ≤ (24 : Int32)
    · rcases rng2 (N := 24) (by omega) b with ⟨c, hc, rfl, c1, c2⟩ | ⟨hy, hy2⟩
      · by_cases h2 : pIW (pB σ 20) n < nI c
        · refine pStep.err hS (c := 3) (by decide) ?_ ?_
          · unfold fL_hire
            rw [ky_bh_l (show fX3_hire (nI x) (nI c) σ = some (.inl ky_ex2, σ) from by unfold fX3_hire; rw [ky_bx_s (needSiteT hx), if_neg (nlt_le.mp h1.1), if_pos h1.2, ky_bd_s (qC_wholeInYard hT hR.1), if_neg (fun q => nlt_le.mp q h2)]), if_neg ex23, if_neg ex21, if_pos rfl]
          · unfold fX4_hire
            rw [ky_bd_s (isSiteT hx), if_neg (by decide), ky_bd_s (qM_areSets _), bI_t h1, if_neg (by decide), ky_bd_s (qM_canHire hR _), if_pos h2, if_pos rfl, mErr (by decide)]
        · refine pStep.mut hS hR (n' := n) (F := fun Y => cHi (nI x) n c 0 Y) (v := fun Y => pIW (cHi (nI x) n c 0 Y) n) (fX4_hires (nI x) (nI c)) (fun Y => cHi_O _ _ _ _ _) ?_ ?_ ?_
          · intro σ1 hT1 b1 hR1 hk
            have e : fX0_wholeInYard (cS σ1 (cHi (nI x) n c 0 (pB σ1 20))) = some (pIW (cHi (nI x) n c 0 (pB σ1 20)) n, cS σ1 (cHi (nI x) n c 0 (pB σ1 20))) := by
              have := qC_wholeInYard (n := n) (σ := cS σ1 (cHi (nI x) n c 0 (pB σ1 20))) hT1 (by rw [cS_pB]; exact cHi_V hx n c 0 _ (by omega) hR1.1)
              rw [cS_pB] at this
              exact this
            unfold fL_hire
            rw [ky_bh_r (show fX3_hire (nI x) (nI c) σ = some (.inr _, _) from by unfold fX3_hire; rw [ky_bx_s (needSiteT hx), if_neg (nlt_le.mp h1.1), if_pos h1.2, ky_bd_s (qC_wholeInYard hT hR.1), if_pos (nlt_le.mpr h2), ky_bd_s hk, ky_bd_s (cS_self (qW_hireOut hT1 hR1.1 hx hc)), ky_bd_s e]), ky_bn_s]
          · intro σ' τ e8 hs
            have hR' : pR n (pB σ 20) (σ'.1 8) := by rw [e8]; exact hR
            unfold fX4_hire
            rw [ky_bd_s (isSiteT hx), if_neg (by decide), ky_bd_s (qM_areSets _), bI_t h1, if_neg (by decide), ky_bd_s (qM_canHire hR' _), if_neg h2, if_neg (by decide), mOk, ky_bd_s hs, ky_bd_p]
          · intro τ Y Z hY hRY
            exact qX_hires hRY hx hc τ
      · exact absurd ⟨Int32.le_trans (by decide) h1.1, h1.2⟩ hy2
    · refine pStep.err hS (c := 2) (by decide) ?_ ?_
      · unfold fL_hire
        rw [ky_bh_l (show fX3_hire (nI x) b σ = some (.inl ky_ex1, σ) from by
          unfold fX3_hire
          rw [ky_bx_s (needSiteT hx)]
          by_cases h3 : b < (1 : Int32)
          · rw [if_pos h3]
          · rw [if_neg h3, if_neg (fun q => h1 ⟨nlt_le.mpr h3, q⟩)]), if_neg ex13, if_pos rfl]
      · unfold fX4_hire
        rw [ky_bd_s (isSiteT hx), if_neg (by decide), ky_bd_s (qM_areSets _), bI_f h1, if_pos rfl, mErr (by decide)]
  · refine pStep.err hS (c := 1) (by decide) ?_ ?_
    · unfold fL_hire
      rw [ky_bh_l (show fX3_hire a b σ = some (.inl ky_ex3, σ) from by unfold fX3_hire; rw [ky_bx_x (needSiteF hx)]), if_pos rfl]
    · unfold fX4_hire
      rw [ky_bd_s (isSiteF hx), if_pos rfl, mErr (by decide)]
theorem law_buySpare (hS : pSim σ) (a b : Int32) : pStep (fL_buySpare a b) (fX4_buySpare a b) σ := by
  obtain ⟨hT, ⟨n, hR⟩, _, _⟩ := id hS
  have hn := hR.1.1
  rcases rng (N := 4) (by omega) a with ⟨x, hx, rfl⟩ | hx
  · by_cases h1 : 1 ≤ b ∧ b ≤ (200 : Int32)
    · rcases rng2 (N := 200) (by omega) b with ⟨c, hc, rfl, c1, c2⟩ | ⟨hy, hy2⟩
      · obtain ⟨d, hd, ed⟩ := hR.1.2.2.2.2 x hx
        have e7 : ∀ τ : ky_St, τ.1 8 = σ.1 8 → τ.1 8 (7 + x) + nI c = nI (d + c) := fun τ e => by rw [e, show σ.1 8 (7 + x) = pB σ 20 7 x from hR.2.1 7 x hx, ed, nI_add]
        have e7' : ∀ τ : ky_St, τ.1 8 = σ.1 8 → τ.1 8 ((7 : Int32) + nI x).toNatClampNeg + nI c = nI (d + c) := fun τ e => by rw [(pr_7 hx).1]; exact e7 τ e
        have a7 : fX3_at 27 (nI x) σ = some (pB σ 20 7 x, σ) := pa_at (k := 27) (N := 4) rfl hx (by omega) σ
        by_cases h2 : d + c ≤ 999
        · have h2' : nI (d + c) ≤ (999 : Int32) := nI_le (b := 999) h2 (by omega)
          refine pStep.mut hS hR (n' := n) (F := fun Y => cSpa Y x (nI c)) (v := fun Y => Y 7 x + nI c) (fun s13 => ky_g (¬ (((7 : Int32) + nI x) < 0 ∨ 283 ≤ ((7 : Int32) + nI x).toNatClampNeg)) (
              ky_g (¬ (((7 : Int32) + nI x) < 0 ∨ 283 ≤ ((7 : Int32) + nI x).toNatClampNeg)) (
              ky_bn (ky_u1 s13 8 ((7 : Int32) + nI x).toNatClampNeg ((s13.1 8 ((7 : Int32) + nI x).toNatClampNeg) + nI c)) fun s18 =>
              ky_g (¬ (((15 : Int32) + nI x) < 0 ∨ 283 ≤ ((15 : Int32) + nI x).toNatClampNeg)) (
              ky_g (¬ (((15 : Int32) + nI x) < 0 ∨ 283 ≤ ((15 : Int32) + nI x).toNatClampNeg)) (
              ky_bn (ky_u1 s18 8 ((15 : Int32) + nI x).toNatClampNeg ((s18.1 8 ((15 : Int32) + nI x).toNatClampNeg) + nI c)) fun s21 =>
              ky_g (¬ ((6 : Int32) < 0 ∨ 283 ≤ (6 : Int32).toNatClampNeg)) (
              ky_bd (fX4_costOf (nI x) s21) fun v25 s23 =>
              ky_g (¬ ((6 : Int32) < 0 ∨ 283 ≤ (6 : Int32).toNatClampNeg)) (
              ky_bn (ky_u1 s23 8 (6 : Int32).toNatClampNeg ((s21.1 8 (6 : Int32).toNatClampNeg) + (nI c * v25))) fun s27 =>
              ky_g (¬ (((7 : Int32) + nI x) < 0 ∨ 283 ≤ ((7 : Int32) + nI x).toNatClampNeg)) (
              some ((s27.1 8 ((7 : Int32) + nI x).toNatClampNeg), s27))))))))) (fun Y => (pO.rfl'.u (by omega)).u (by omega)) ?_ ?_ ?_
          · intro σ1 hT1 b1 hR1 hk
            unfold fL_buySpare
            rw [ky_bh_r (show fX3_buySpare (nI x) (nI c) σ = some (.inr (pB σ1 20 7 x + nI c), cS σ1 (cSpa (pB σ1 20) x (nI c))) from by
              unfold fX3_buySpare
              rw [ky_bx_s (needKindT hx), if_neg (nlt_le.mp h1.1), if_pos h1.2, ky_bd_s a7, ed, nI_add, if_pos h2', ky_bd_s hk, ky_bd_s (cS_self (qW_addSpare hT1 hx (nI c) (pB σ1 20))), ky_bd_s (cG (k := 27) (r := 7) (N := 4) rfl rfl hx (by omega) σ1 _)]
              rw [show cSpa (pB σ1 20) x (nI c) 7 x = pB σ1 20 7 x + nI c from by unfold cSpa; rw [pU_row (by decide), pU_eq]]), ky_bn_s]
          · intro σ' τ e8 hs
            unfold fX4_buySpare
            rw [ky_bd_s (isKindT hx), if_neg (by decide), ky_bd_s qM_within, bI_t h1, if_neg (by decide), ky_g_s (pr_7 hx).2, e7' σ' e8, if_pos h2']
            unfold fX4_buySpare_L49
            rw [mOk, ky_bd_s hs]
          · intro τ Y Z hY hRY
            have r := qX_spa hRY hx (a := d) (c := c) (by rw [hY 7 (by omega)]; exact ed) h2
            refine ⟨_, ?_, r⟩
            have z7 : (mS τ Z).1 8 (7 + x) = Y 7 x := hRY.2.1 7 x hx
            have z15 : (mS τ (upd Z (7 + x) (Y 7 x + nI c))).1 8 (15 + x) = Z (15 + x) := if_neg (by omega)
            have z6' : (mS τ (upd (upd Z (7 + x) (Y 7 x + nI c)) (15 + x) (Z (15 + x) + nI c))).1 8 6 = Y 0 4 := by
              show (if 6 = 15 + x then _ else if 6 = 7 + x then _ else Z 6) = _
              rw [if_neg (by omega), if_neg (by omega)]
              exact hRY.2.1 0 4 (show 4 < 5 by omega)
            have z7' : (mS τ (upd (upd (upd Z (7 + x) (Y 7 x + nI c)) (15 + x) (Z (15 + x) + nI c)) 6 (Y 0 4 + nI c * pCo x))).1 8 (7 + x) = Y 7 x + nI c := by
              show (if 7 + x = 6 then _ else if 7 + x = 15 + x then _ else if 7 + x = 7 + x then _ else Z (7 + x)) = _
              rw [if_neg (by omega), if_neg (by omega), if_pos rfl]
            show ky_g _ _ = _
            rw [ky_g_s (pr_7 hx).2, ky_g_s (pr_7 hx).2, (pr_7 hx).1, z7, ky_bn_s, mS_u1, ky_g_s (pr_15 hx).2, ky_g_s (pr_15 hx).2, (pr_15 hx).1, z15, ky_bn_s, mS_u1, ky_g_s (by decide), ky_bd_s (qM_costOf hx), ky_g_s (by decide), z_6, z6', ky_bn_s, mS_u1, ky_g_s (pr_7' hx), z7']
        · have h2' : ¬ nI (d + c) ≤ (999 : Int32) := nI_ge (a := 999) (by omega) (by omega)
          refine pStep.err hS (c := 3) (by decide) ?_ ?_
          · unfold fL_buySpare
            rw [ky_bh_l (show fX3_buySpare (nI x) (nI c) σ = some (.inl ky_ex2, σ) from by
              unfold fX3_buySpare
              rw [ky_bx_s (needKindT hx), if_neg (nlt_le.mp h1.1), if_pos h1.2, ky_bd_s a7, ed, nI_add, if_neg h2']), if_neg ex23, if_neg ex21, if_pos rfl]
          · unfold fX4_buySpare
            rw [ky_bd_s (isKindT hx), if_neg (by decide), ky_bd_s qM_within, bI_t h1, if_neg (by decide), ky_g_s (pr_7 hx).2, e7' σ rfl, if_neg h2']
            unfold fX4_buySpare_L49
            rw [mErr (by decide)]
      · exact absurd ⟨Int32.le_trans (by decide) h1.1, h1.2⟩ hy2
    · refine pStep.err hS (c := 2) (by decide) ?_ ?_
      · unfold fL_buySpare
        rw [ky_bh_l (show fX3_buySpare (nI x) b σ = some (.inl ky_ex1, σ) from by
          unfold fX3_buySpare
          rw [ky_bx_s (needKindT hx)]
          by_cases h3 : b < (1 : Int32)
          · rw [if_pos h3]
          · rw [if_neg h3, if_neg (fun q => h1 ⟨nlt_le.mpr h3, q⟩)]), if_neg ex13, if_pos rfl]
      · unfold fX4_buySpare
        rw [ky_bd_s (isKindT hx), if_neg (by decide), ky_bd_s qM_within, bI_f h1, if_pos rfl]
        unfold fX4_buySpare_L49
        rw [mErr (by decide)]
  · refine pStep.err hS (c := 1) (by decide) ?_ ?_
    · unfold fL_buySpare
      rw [ky_bh_l (show fX3_buySpare a b σ = some (.inl ky_ex3, σ) from by unfold fX3_buySpare; rw [ky_bx_x (needKindF hx)]), if_pos rfl]
    · unfold fX4_buySpare
      rw [ky_bd_s (isKindF hx), if_pos rfl]
      unfold fX4_buySpare_L49
      rw [mErr (by decide)]
theorem needOneT {a : Int32} (h : 1 ≤ a) : fX3_needAtLeastOne a σ = some (.inr (), σ) := by
  unfold fX3_needAtLeastOne
  rw [if_pos h]
theorem needOneF {a : Int32} (h : ¬ 1 ≤ a) : fX3_needAtLeastOne a σ = some (.inl ky_ex1, σ) := by
  unfold fX3_needAtLeastOne
  rw [if_neg h]
theorem needStockT (hs : s < 24) {k : Nat} (hk : k < 4) {a : Int32} (h : a ≤ pB σ 20 6 (4 * s + k)) : fX3_needStock (nI s) (nI k) a σ = some (.inr (), σ) := by
  unfold fX3_needStock
  rw [ky_bd_s (qC_stockOf hs hk), if_pos h]
theorem needStockF (hs : s < 24) {k : Nat} (hk : k < 4) {a : Int32} (h : ¬ a ≤ pB σ 20 6 (4 * s + k)) : fX3_needStock (nI s) (nI k) a σ = some (.inl ky_ex2, σ) := by
  unfold fX3_needStock
  rw [ky_bd_s (qC_stockOf hs hk), if_neg h]
theorem stock_n (hV : pV n Y) (hs : s < n) {k : Nat} (hk : k < 4) {a : Int32} (h1 : 1 ≤ a) (h : a ≤ Y 6 (4 * s + k)) : ∃ m, m < 2 ^ 31 ∧ a = nI m := by
  obtain ⟨c, hc, e⟩ := (hV.2.2.2.1 s hs).2.1 k hk
  have hw : pWt k ≤ 4 := by unfold pWt; split; omega; split; omega; split <;> omega
  rcases rng2 (N := 4) (by omega) a with ⟨m, hm, rfl, _⟩ | ⟨_, q⟩
  · exact ⟨m, by omega, rfl⟩
  · refine absurd ⟨Int32.le_trans (by decide) h1, Int32.le_trans h ?_⟩ q
    rw [e]
    exact nI_le (by omega) (by omega)
theorem cDmg_O (Y : pY) (s k : Nat) (m : Int32) : pO (cDmg Y s k m) Y := by
  intro a ha
  have e : cDmg Y s k m a = cBo (cChg Y s k m) s (m * pCo k) a := by
    funext i
    unfold cDmg cDm
    rw [if_neg (by omega)]
  rw [e]
  unfold cBo
  split
  · rw [pU_row (by omega)]
    exact cChg_O Y s k m a ha
  · exact cChg_O Y s k m a ha
theorem law_damage (hS : pSim σ) (a b m : Int32) : pStep (fL_damage a b m) (fX4_damage a b m) σ := by
  obtain ⟨hT, ⟨n, hR⟩, _, _⟩ := id hS
  have hn := hR.1.1
  rcases rng (N := n) (by omega) a with ⟨x, hx, rfl⟩ | hx
  · rcases rng (N := 4) (by omega) b with ⟨k, hk4, rfl⟩ | hk4
    · by_cases h1 : 1 ≤ m
      · by_cases hw : pB σ 20 2 x = -1
        · by_cases hst : m ≤ pB σ 20 6 (4 * x + k)
          · refine pStep.mut hS hR (n' := n) (F := fun Y => cDmg Y x k m) (v := fun _ => m * pCo k) (fun s7 => ky_bd (fX4_costOf (nI k) s7) fun v12 s10 =>
              ky_bn (m * v12) fun v13 =>
              ky_bd (fX4_charge (nI x) (nI k) m s10) fun v16 s14 =>
              fX4_damage_L86 FU (nI x) v13 (0 : Int32) s14) (fun Y => cDmg_O Y x k m) ?_ ?_ ?_
            · intro σ1 hT1 b1 hR1 hk
              unfold fL_damage
              rw [ky_bh_r (show fX3_damage (nI x) (nI k) m σ = some (.inr _, _) from by unfold fX3_damage; rw [ky_bx_s (needSetT hn (h00 hR) hx), ky_bx_s (needKindT hk4), ky_bx_s (needOneT h1), ky_bx_s (needInYardT hn (h00 hR) hx hw), ky_bx_s (needStockT (by omega) hk4 hst), ky_bd_s hk, ky_bd_s (cS_self (qW_chargeDamage hT1 (s := x) (by omega) hk4 m (pB σ1 20)))]), ky_bn_s]
            · intro σ' τ e8 hs
              have hR' : pR n (pB σ 20) (σ'.1 8) := by rw [e8]; exact hR
              unfold fX4_damage
              rw [ky_bd_s (isSetT hR' hx), if_neg (by decide), ky_bd_s (isKindT hk4), if_neg (by decide), if_pos h1, ky_bd_s (qM_isInYard hR' hx), bI_t hw, if_neg (by decide), ky_bd_s (qM_hasSo hR' hx hk4 m), if_neg (nlt_le.mp hst), if_neg (by decide)]
              unfold fX4_damage_L52
              rw [mOk, ky_bd_s hs]
            · intro τ Y Z hY hRY
              have hst' : m ≤ Y 6 (4 * x + k) := by rw [hY 6 (by omega)]; exact hst
              obtain ⟨m', hm', rfl⟩ := stock_n hRY.1 hx hk4 h1 hst'
              obtain ⟨Z1, q1, q2⟩ := qX_charge hRY hx hk4 (cChg_V hRY.1 hx hk4 hst' hm') τ
              obtain ⟨Z2, q3, q4⟩ := qX_dm q2 hx (nI m' * pCo k) τ
              refine ⟨Z2, ?_, q4⟩
              show ky_bd (fX4_costOf (nI k) (mS τ Z)) _ = _
              rw [ky_bd_s (qM_costOf hk4), ky_bn_s, ky_bd_s q1]
              exact q3
          · refine pStep.err hS (c := 3) (by decide) ?_ ?_
            · unfold fL_damage
              rw [ky_bh_l (show fX3_damage (nI x) (nI k) m σ = some (.inl ky_ex2, σ) from by unfold fX3_damage; rw [ky_bx_s (needSetT hn (h00 hR) hx), ky_bx_s (needKindT hk4), ky_bx_s (needOneT h1), ky_bx_s (needInYardT hn (h00 hR) hx hw), ky_bx_x (needStockF (by omega) hk4 hst)]), if_neg ex23, if_neg ex21, if_pos rfl]
            · unfold fX4_damage
              rw [ky_bd_s (isSetT hR hx), if_neg (by decide), ky_bd_s (isKindT hk4), if_neg (by decide), if_pos h1, ky_bd_s (qM_isInYard hR hx), bI_t hw, if_neg (by decide), ky_bd_s (qM_hasSo hR hx hk4 m), if_pos (Int32.not_le.mp hst), if_pos rfl]
              unfold fX4_damage_L51 fX4_damage_L52
              rw [mErr (by decide)]
        · refine pStep.err hS (c := 3) (by decide) ?_ ?_
          · unfold fL_damage
            rw [ky_bh_l (show fX3_damage (nI x) (nI k) m σ = some (.inl ky_ex2, σ) from by unfold fX3_damage; rw [ky_bx_s (needSetT hn (h00 hR) hx), ky_bx_s (needKindT hk4), ky_bx_s (needOneT h1), ky_bx_x (needInYardF hn (h00 hR) hx hw)]), if_neg ex23, if_neg ex21, if_pos rfl]
          · unfold fX4_damage
            rw [ky_bd_s (isSetT hR hx), if_neg (by decide), ky_bd_s (isKindT hk4), if_neg (by decide), if_pos h1, ky_bd_s (qM_isInYard hR hx), bI_f hw, if_pos rfl]
            unfold fX4_damage_L51 fX4_damage_L52
            rw [mErr (by decide)]
      · refine pStep.err hS (c := 2) (by decide) ?_ ?_
        · unfold fL_damage
          rw [ky_bh_l (show fX3_damage (nI x) (nI k) m σ = some (.inl ky_ex1, σ) from by unfold fX3_damage; rw [ky_bx_s (needSetT hn (h00 hR) hx), ky_bx_s (needKindT hk4), ky_bx_x (needOneF h1)]), if_neg ex13, if_pos rfl]
        · unfold fX4_damage
          rw [ky_bd_s (isSetT hR hx), if_neg (by decide), ky_bd_s (isKindT hk4), if_neg (by decide), if_neg h1]
          unfold fX4_damage_L52
          rw [mErr (by decide)]
    · refine pStep.err hS (c := 1) (by decide) ?_ ?_
      · unfold fL_damage
        rw [ky_bh_l (show fX3_damage (nI x) b m σ = some (.inl ky_ex3, σ) from by unfold fX3_damage; rw [ky_bx_s (needSetT hn (h00 hR) hx), ky_bx_x (needKindF hk4)]), if_pos rfl]
      · unfold fX4_damage
        rw [ky_bd_s (isSetT hR hx), if_neg (by decide), ky_bd_s (isKindF hk4), if_pos rfl]
        unfold fX4_damage_L16 fX4_damage_L52
        rw [mErr (by decide)]
  · refine pStep.err hS (c := 1) (by decide) ?_ ?_
    · unfold fL_damage
      rw [ky_bh_l (show fX3_damage a b m σ = some (.inl ky_ex3, σ) from by unfold fX3_damage; rw [ky_bx_x (needSetF (h00 hR) hx)]), if_pos rfl]
    · unfold fX4_damage
      rw [ky_bd_s (isSetF hR hx), if_pos rfl]
      unfold fX4_damage_L16 fX4_damage_L52
      rw [mErr (by decide)]
theorem law_bringShort (hS : pSim σ) (a b m : Int32) : pStep (fL_bringShort a b m) (fX4_bringShort a b m) σ := by
  obtain ⟨hT, ⟨n, hR⟩, _, _⟩ := id hS
  have hn := hR.1.1
  rcases rng (N := n) (by omega) a with ⟨x, hx, rfl⟩ | hx
  · rcases rng (N := 4) (by omega) b with ⟨k, hk4, rfl⟩ | hk4
    · by_cases h1 : 1 ≤ m
      · by_cases hw : pB σ 20 2 x = -1
        · refine pStep.err hS (c := 3) (by decide) ?_ ?_
          · unfold fL_bringShort
            rw [ky_bh_l (show fX3_bringShort (nI x) (nI k) m σ = some (.inl ky_ex2, σ) from by unfold fX3_bringShort; rw [ky_bx_s (needSetT hn (h00 hR) hx), ky_bx_s (needKindT hk4), ky_bx_s (needOneT h1), ky_bx_x (needOnSiteF hn (h00 hR) hx hw)]), if_neg ex23, if_neg ex21, if_pos rfl]
          · unfold fX4_bringShort
            rw [ky_bd_s (isSetT hR hx), if_neg (by decide), ky_bd_s (isKindT hk4), if_neg (by decide), if_pos h1, ky_bd_s (qM_isInYard hR hx), bI_t hw, if_neg (by decide)]
            unfold fX4_bringShort_L47 fX4_bringShort_L52
            rw [mErr (by decide)]
        · obtain ⟨i, hi, ei⟩ := pSite hR.1 hx hw
          by_cases hst : m ≤ pB σ 20 6 (4 * x + k)
          · refine pStep.mut hS hR (n' := n) (F := fun Y => cShort Y x k i m) (v := fun Y => pDue Y x 0 + m * pCo k) (fun s7 => ky_bd (fX4_costOf (nI k) s7) fun v12 s10 =>
              ky_bn (m * v12) fun v13 =>
              ky_bd (fX4_of (nI x) (0 : Int32) s10) fun v16 s14 =>
              ky_bd (fX4_bill v16 (1 : Int32) v13 s14) fun v19 s17 =>
              ky_bd (fX4_charge (nI x) (nI k) m s17) fun v22 s20 =>
              ky_bd (fX4_leaves (nI x) s20) fun v25 s23 =>
              some ((v25 + v13), s23)) (fun Y => (cBack_O _ _ _).tr ((cChg_O Y x k m).u (by omega))) ?_ ?_ ?_
            · intro σ1 hT1 b1 hR1 hk
              unfold fL_bringShort
              rw [ky_bh_r (show fX3_bringShort (nI x) (nI k) m σ = some (.inr _, _) from by unfold fX3_bringShort; rw [ky_bx_s (needSetT hn (h00 hR) hx), ky_bx_s (needKindT hk4), ky_bx_s (needOneT h1), ky_bx_s (needOnSiteT hn (h00 hR) hx hw), ky_bx_s (needStockT (by omega) hk4 hst), ky_bd_s hk, ky_bd_s (cS_self (qW_takeBackShort hT1 (s := x) (by omega) hk4 hi m (pB σ1 20) (by rw [b1 2 (by omega)]; exact ei)))]), ky_bn_s]
            · intro σ' τ e8 hs
              have hR' : pR n (pB σ 20) (σ'.1 8) := by rw [e8]; exact hR
              unfold fX4_bringShort
              rw [ky_bd_s (isSetT hR' hx), if_neg (by decide), ky_bd_s (isKindT hk4), if_neg (by decide), if_pos h1, ky_bd_s (qM_isInYard hR' hx), bI_f hw, if_pos rfl, ky_bd_s (qM_hasSo hR' hx hk4 m), if_neg (nlt_le.mp hst), if_neg (by decide)]
              unfold fX4_bringShort_L52
              rw [mOk, ky_bd_s hs]
            · intro τ Y Z hY hRY
              have hst' : m ≤ Y 6 (4 * x + k) := by rw [hY 6 (by omega)]; exact hst
              have ei' : Y 2 x = nI i := by rw [hY 2 (by omega)]; exact ei
              obtain ⟨m', hm', rfl⟩ := stock_n hRY.1 hx hk4 h1 hst'
              have z10 : Z (20 + 4 * i) = Y 10 i := hRY.2.1 10 i hi
              have r1 := hRY.w (r := 10) (i := i) (p := 20 + 4 * i) (v := Y 10 i + nI m' * pCo k) hi rfl (by decide) (hRY.1.w (Or.inr (Or.inl (by omega))))
              obtain ⟨Z1, q1, q2⟩ := qX_charge r1 hx hk4 (cChg_V r1.1 hx hk4 hst' hm') τ
              obtain ⟨Z2, q3, q4⟩ := qX_leaves q2 hx hi ei' τ
              rw [← cShort_eq] at q4
              refine ⟨Z2, ?_, q4⟩
              show ky_bd (fX4_costOf (nI k) (mS τ Z)) _ = _
              rw [ky_bd_s (qM_costOf hk4), ky_bn_s, ky_bd_s (qM_w (σ := mS τ Z) hRY hx), ei', ky_bd_s (mB (s := i) (x := nI i) (y := 1) (w := 1) (p := 20 + 4 * i) rfl rfl (by omega) (by omega) _ τ Z), z10, ky_bd_s q1, ky_bd_s q3]
              rfl
          · refine pStep.err hS (c := 3) (by decide) ?_ ?_
            · unfold fL_bringShort
              rw [ky_bh_l (show fX3_bringShort (nI x) (nI k) m σ = some (.inl ky_ex2, σ) from by unfold fX3_bringShort; rw [ky_bx_s (needSetT hn (h00 hR) hx), ky_bx_s (needKindT hk4), ky_bx_s (needOneT h1), ky_bx_s (needOnSiteT hn (h00 hR) hx hw), ky_bx_x (needStockF (by omega) hk4 hst)]), if_neg ex23, if_neg ex21, if_pos rfl]
            · unfold fX4_bringShort
              rw [ky_bd_s (isSetT hR hx), if_neg (by decide), ky_bd_s (isKindT hk4), if_neg (by decide), if_pos h1, ky_bd_s (qM_isInYard hR hx), bI_f hw, if_pos rfl, ky_bd_s (qM_hasSo hR hx hk4 m), if_pos (Int32.not_le.mp hst), if_pos rfl]
              unfold fX4_bringShort_L47 fX4_bringShort_L52
              rw [mErr (by decide)]
      · refine pStep.err hS (c := 2) (by decide) ?_ ?_
        · unfold fL_bringShort
          rw [ky_bh_l (show fX3_bringShort (nI x) (nI k) m σ = some (.inl ky_ex1, σ) from by unfold fX3_bringShort; rw [ky_bx_s (needSetT hn (h00 hR) hx), ky_bx_s (needKindT hk4), ky_bx_x (needOneF h1)]), if_neg ex13, if_pos rfl]
        · unfold fX4_bringShort
          rw [ky_bd_s (isSetT hR hx), if_neg (by decide), ky_bd_s (isKindT hk4), if_neg (by decide), if_neg h1]
          unfold fX4_bringShort_L52
          rw [mErr (by decide)]
    · refine pStep.err hS (c := 1) (by decide) ?_ ?_
      · unfold fL_bringShort
        rw [ky_bh_l (show fX3_bringShort (nI x) b m σ = some (.inl ky_ex3, σ) from by unfold fX3_bringShort; rw [ky_bx_s (needSetT hn (h00 hR) hx), ky_bx_x (needKindF hk4)]), if_pos rfl]
      · unfold fX4_bringShort
        rw [ky_bd_s (isSetT hR hx), if_neg (by decide), ky_bd_s (isKindF hk4), if_pos rfl]
        unfold fX4_bringShort_L16 fX4_bringShort_L52
        rw [mErr (by decide)]
  · refine pStep.err hS (c := 1) (by decide) ?_ ?_
    · unfold fL_bringShort
      rw [ky_bh_l (show fX3_bringShort a b m σ = some (.inl ky_ex3, σ) from by unfold fX3_bringShort; rw [ky_bx_x (needSetF (h00 hR) hx)]), if_pos rfl]
    · unfold fX4_bringShort
      rw [ky_bd_s (isSetF hR hx), if_pos rfl]
      unfold fX4_bringShort_L16 fX4_bringShort_L52
      rw [mErr (by decide)]
end WL
