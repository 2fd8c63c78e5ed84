/-! ===== pure: the law's questions ===== -/
section WH
variable {n : Nat} {σ : ky_St} {s : Nat} {Y : pY} {Z : Nat → Int32}
theorem ky_bh_r {α β : Type} {x : Option ((String ⊕ α) × ky_St)} {f : α → ky_St → Option β} {g : String → ky_St → Option β} {a : α} {s : ky_St} (h : x = some (.inr a, s)) : ky_bh x f g = f a s := by rw [h]; rfl
theorem ky_bh_l {α β : Type} {x : Option ((String ⊕ α) × ky_St)} {f : α → ky_St → Option β} {g : String → ky_St → Option β} {E : String} {s : ky_St} (h : x = some (.inl E, s)) : ky_bh x f g = g E s := by rw [h]; rfl
theorem ex12 : ¬ ky_ex1 = ky_ex2 := by decide +kernel
theorem ex13 : ¬ ky_ex1 = ky_ex3 := by decide +kernel
theorem ex21 : ¬ ky_ex2 = ky_ex1 := by decide +kernel
theorem ex23 : ¬ ky_ex2 = ky_ex3 := by decide +kernel
theorem rng {N : Nat} (hN : N < 2 ^ 31) (a : Int32) : (∃ s, s < N ∧ a = nI s) ∨ (a < 0 ∨ nI N ≤ a) := by
  by_cases h : a < 0
  · exact Or.inr (Or.inl h)
  · by_cases h2 : nI N ≤ a
    · exact Or.inr (Or.inr h2)
    · refine Or.inl ⟨a.toNatClampNeg, ?_, ?_⟩
      · rw [Int32.lt_iff_toInt_lt, Int32.toInt_zero] at h
        rw [Int32.le_iff_toInt_le, nI_toInt hN] at h2
        rw [Int32.toNatClampNeg]
        omega
      · rw [Int32.lt_iff_toInt_lt, Int32.toInt_zero] at h
        rw [Int32.le_iff_toInt_le, nI_toInt hN] at h2
        apply Int32.toInt_inj.mp
        have : a.toNatClampNeg < 2 ^ 31 := by rw [Int32.toNatClampNeg]; omega
        rw [nI_toInt this, Int32.toNatClampNeg]
        omega
theorem rngF {N M : Nat} (hN : N < 2 ^ 31) (hM : N = M + 1) {a : Int32} (h : a < 0 ∨ nI N ≤ a) : ¬ (0 ≤ a ∧ a ≤ nI M) := by
  rintro ⟨h1, h2⟩
  rw [Int32.le_iff_toInt_le, nI_toInt (by omega)] at h2
  rw [Int32.le_iff_toInt_le, Int32.toInt_zero] at h1
  rcases h with h | h
  · rw [Int32.lt_iff_toInt_lt, Int32.toInt_zero] at h
    omega
  · rw [Int32.le_iff_toInt_le, nI_toInt hN] at h
    omega
theorem rngT {M : Nat} (hM : M < 2 ^ 31) (h : s ≤ M) : 0 ≤ nI s ∧ nI s ≤ nI M := ⟨nI_pos' (by omega), nI_le h hM⟩
theorem isSetT (hR : pR n Y (σ.1 8)) (hs : s < n) : fX4_isSet (nI s) σ = some (1, σ) := by
  have hn := hR.1.1
  rw [qM_isSet hR, nI_m n (n - 1) (by omega), bI_t (rngT (by omega) (by omega))]
theorem isSetF (hR : pR n Y (σ.1 8)) {a : Int32} (h : a < 0 ∨ nI n ≤ a) : fX4_isSet a σ = some (0, σ) := by
  have hn := hR.1.1
  rw [qM_isSet hR, bI_f]
  by_cases h0 : n = 0
  · subst h0
    rintro ⟨h1, h2⟩
    rw [Int32.le_iff_toInt_le, Int32.toInt_zero] at h1
    rw [Int32.le_iff_toInt_le, show (nI 0 - 1).toInt = -1 from rfl] at h2
    omega
  · rw [nI_m n (n - 1) (by omega)]
    exact rngF (by omega) (by omega) h
theorem isSiteT (hs : s < 6) : fX4_isSite (nI s) σ = some (1, σ) := by
  rw [qM_isSite, bI_t (show 0 ≤ nI s ∧ nI s ≤ (5 : Int32) from rngT (M := 5) (by omega) (by omega))]
theorem isSiteF {a : Int32} (h : a < 0 ∨ nI 6 ≤ a) : fX4_isSite a σ = some (0, σ) := by
  rw [qM_isSite, bI_f (show ¬ (0 ≤ a ∧ a ≤ (5 : Int32)) from rngF (N := 6) (M := 5) (by omega) rfl h)]
theorem isKindT (hs : s < 4) : fX4_isKind (nI s) σ = some (1, σ) := by
  rw [qM_isKind, bI_t (show 0 ≤ nI s ∧ nI s ≤ (3 : Int32) from rngT (M := 3) (by omega) (by omega))]
theorem isKindF {a : Int32} (h : a < 0 ∨ nI 4 ≤ a) : fX4_isKind a σ = some (0, σ) := by
  rw [qM_isKind, bI_f (show ¬ (0 ≤ a ∧ a ≤ (3 : Int32)) from rngF (N := 4) (M := 3) (by omega) rfl h)]
theorem isSettingT (hs : s < 2) : fX4_isSetting (nI s) σ = some (1, σ) := by
  unfold fX4_isSetting
  rw [ky_bd_s qM_within, bI_t (show 0 ≤ nI s ∧ nI s ≤ (1 : Int32) from rngT (M := 1) (by omega) (by omega)), ky_g_s (Or.inr rfl)]
theorem isSettingF {a : Int32} (h : a < 0 ∨ nI 2 ≤ a) : fX4_isSetting a σ = some (0, σ) := by
  unfold fX4_isSetting
  rw [ky_bd_s qM_within, bI_f (show ¬ (0 ≤ a ∧ a ≤ (1 : Int32)) from rngF (N := 2) (M := 1) (by omega) rfl h), ky_g_s (Or.inl rfl)]
theorem needSetT (hn : n ≤ 24) (h0 : σ.1 20 0 = nI n) (hs : s < n) : fX3_needSet (nI s) σ = some (.inr (), σ) := by
  unfold fX3_needSet
  rw [ky_bd_s (qC_isSet hn h0 hs), if_neg (by decide)]
theorem needSetF (h0 : σ.1 20 0 = nI n) {a : Int32} (h : a < 0 ∨ nI n ≤ a) : fX3_needSet a σ = some (.inl ky_ex3, σ) := by
  have e : fX0_isSet a σ = some (0, σ) := by
    unfold fX0_isSet
    by_cases h1 : a < 0
    · rw [if_pos h1]
    · rw [if_neg h1, h0, if_pos (h.resolve_left h1)]
  unfold fX3_needSet
  rw [ky_bd_s e, if_pos rfl]
theorem nRng {N : Nat} (hN : N < 2 ^ 31) {a : Int32} (h : a < 0 ∨ nI N ≤ a) (h1 : ¬ a < 0) : ¬ a < nI N := nlt_le.mp (h.resolve_left h1)
theorem needSiteT (hs : s < 6) : fX3_needSite (nI s) σ = some (.inr (), σ) := by
  unfold fX3_needSite
  rw [if_neg (nI_pos (by omega)), if_pos (show nI s < (6 : Int32) from nI_lt (b := 6) hs (by omega))]
theorem needSiteF {a : Int32} (h : a < 0 ∨ nI 6 ≤ a) : fX3_needSite a σ = some (.inl ky_ex3, σ) := by
  unfold fX3_needSite
  by_cases h1 : a < 0
  · rw [if_pos h1]
  · rw [if_neg h1, if_neg (show ¬ a < (6 : Int32) from nRng (N := 6) (by omega) h h1)]
theorem needKindT (hs : s < 4) : fX3_needKind (nI s) σ = some (.inr (), σ) := by
  unfold fX3_needKind
  rw [if_neg (nI_pos (by omega)), if_pos (show nI s < (4 : Int32) from nI_lt (b := 4) hs (by omega))]
theorem needKindF {a : Int32} (h : a < 0 ∨ nI 4 ≤ a) : fX3_needKind a σ = some (.inl ky_ex3, σ) := by
  unfold fX3_needKind
  by_cases h1 : a < 0
  · rw [if_pos h1]
  · rw [if_neg h1, if_neg (show ¬ a < (4 : Int32) from nRng (N := 4) (by omega) h h1)]
theorem needSettingT (hs : s < 2) : fX3_needSetting (nI s) σ = some (.inr (), σ) := by
  unfold fX3_needSetting
  rw [if_neg (nI_pos (by omega)), if_pos (show nI s < (2 : Int32) from nI_lt (b := 2) hs (by omega))]
theorem needSettingF {a : Int32} (h : a < 0 ∨ nI 2 ≤ a) : fX3_needSetting a σ = some (.inl ky_ex3, σ) := by
  unfold fX3_needSetting
  by_cases h1 : a < 0
  · rw [if_pos h1]
  · rw [if_neg h1, if_neg (show ¬ a < (2 : Int32) from nRng (N := 2) (by omega) h h1)]
theorem pR.u (hR : pR n Y (σ.1 8)) (c : Int32) : pR n Y ((ky_u1 σ 7 5 c).1 8) := by rw [ky_u1_ne (by decide)]; exact hR
/-- the model's end of a refusal -/
theorem mErr {c : Int32} (hc : ¬ c ≤ 0) (x : ky_St → Option (Int32 × ky_St)) : ky_bn (ky_u1 σ 7 5 c) (fun s5 => if (s5.1 7 5) ≤ 0 then x s5 else some ((0 : Int32), s5)) = some (0, ky_u1 σ 7 5 c) := by
  rw [ky_bn_s, u75_v, if_neg hc]
theorem mOk (x : ky_St → Option (Int32 × ky_St)) : ky_bn (ky_u1 σ 7 5 0) (fun s5 => if (s5.1 7 5) ≤ 0 then x s5 else some ((0 : Int32), s5)) = x (ky_u1 σ 7 5 0) := by
  rw [ky_bn_s, u75_v, if_pos (by decide)]
theorem h00 (hR : pR n (pB σ 20) (σ.1 8)) : σ.1 20 0 = nI n := hR.1.2.1
theorem law_oldest (hS : pSim σ) (a : Int32) : pStep (fL_oldest a) (fX4_oldest a) σ := by
  obtain ⟨hT, ⟨n, hR⟩, _, _⟩ := id hS
  have hn := hR.1.1
  rcases rng (N := 6) (by omega) a with ⟨x, hx, rfl⟩ | hx
  · refine pStep.ask hS (v := pOp (pBe (pB σ 20) (nI x) n)) ?_ ?_
    · unfold fL_oldest
      rw [ky_bh_r (show fX3_oldest (nI x) σ = some (.inr _, σ) from by unfold fX3_oldest; rw [ky_bx_s (needSiteT hx), ky_bd_s (qC_firstDue hn (h00 hR) hx)])]
      rfl
    · unfold fX4_oldest
      rw [ky_bd_s (isSiteT hx), if_neg (by decide), mOk, ky_bd_s (qM_oldestOn (σ := ky_u1 (ky_uJ σ 16 _) 7 5 0) (hR.u 0) _)]
  · refine pStep.err hS (c := 1) (by decide) ?_ ?_
    · unfold fL_oldest
      rw [ky_bh_l (show fX3_oldest a σ = some (.inl ky_ex3, σ) from by unfold fX3_oldest; rw [ky_bx_x (needSiteF hx)]), if_pos rfl]
    · unfold fX4_oldest
      rw [ky_bd_s (isSiteF hx), if_pos rfl, mErr (by decide)]
theorem law_setting (hS : pSim σ) (a : Int32) : pStep (fL_setting a) (fX4_setting a) σ := by
  obtain ⟨hT, ⟨n, hR⟩, _, _⟩ := id hS
  have hn := hR.1.1
  rcases rng (N := 2) (by omega) a with ⟨x, hx, rfl⟩ | hx
  · refine pStep.ask hS (v := pB σ 20 1 x) ?_ ?_
    · unfold fL_setting
      rw [ky_bh_r (show fX3_setting (nI x) σ = some (.inr _, σ) from by unfold fX3_setting; rw [ky_bx_s (needSettingT hx), ky_bd_s (pa_at (k := 21) (N := 2) rfl hx (by omega) σ)])]
      rfl
    · unfold fX4_setting
      rw [ky_bd_s (isSettingT hx), if_neg (by decide), mOk, ky_g_s (nI_in (by omega) (by omega)), nI_clamp (by omega), show (ky_u1 (ky_uJ σ 16 (pB σ 20 1 x).toInt64) 7 5 0).1 8 x = pB σ 20 1 x from by rw [ky_u1_ne (by decide)]; exact hR.2.1 1 x hx]
  · refine pStep.err hS (c := 1) (by decide) ?_ ?_
    · unfold fL_setting
      rw [ky_bh_l (show fX3_setting a σ = some (.inl ky_ex3, σ) from by unfold fX3_setting; rw [ky_bx_x (needSettingF hx)]), if_pos rfl]
    · unfold fX4_setting
      rw [ky_bd_s (isSettingF hx), if_pos rfl, mErr (by decide)]
theorem rng2 {N : Nat} (hN : N + 1 < 2 ^ 31) (a : Int32) : (∃ s, s ≤ N ∧ a = nI s ∧ ¬ a < 0 ∧ a ≤ nI N) ∨ ((a < 0 ∨ ¬ a ≤ nI N) ∧ ¬ (0 ≤ a ∧ a ≤ nI N)) := by
  rcases rng (N := N + 1) hN a with ⟨x, hx, rfl⟩ | hx
  · exact Or.inl ⟨x, by omega, rfl, nI_pos (by omega), nI_le (by omega) (by omega)⟩
  · refine Or.inr ⟨?_, rngF hN rfl hx⟩
    rcases hx with h | h
    · exact Or.inl h
    · refine Or.inr fun q => ?_
      rw [Int32.le_iff_toInt_le, nI_toInt (by omega)] at h q
      omega
theorem law_count (hS : pSim σ) (a : Int32) : pStep (fL_count a) (fX4_count a) σ := by
  obtain ⟨hT, ⟨n, hR⟩, ⟨h, q, h6, q6, g1, g2, g3, _⟩, _⟩ := id hS
  have hn := hR.1.1
  rcases rng2 (N := 9) (by omega) a with ⟨x, hx, rfl, c1, c2⟩ | ⟨hx, hx2⟩
  · refine pStep.ask hS (v := if x = 9 then σ.1 7 1 else pCv (pB σ 20) n x) ?_ ?_
    · unfold fL_count
      rw [ky_bh_r (show fX3_count (nI x) σ = some (.inr (if x = 9 then σ.1 7 1 else pCv (pB σ 20) n x), σ) from by
        unfold fX3_count
        rw [if_neg c1, if_pos (show nI x ≤ (9 : Int32) from c2)]
        have e : fX3_countValue (nI x) σ = some (if x = 9 then σ.1 7 1 else pCv (pB σ 20) n x, σ) := by
          unfold fX3_countValue
          by_cases e9 : x = 9
          · subst e9
            rw [if_pos rfl, if_pos (show nI 9 = (9 : Int32) from rfl), g1, g3]
          · rw [if_neg e9, if_neg (show ¬ nI x = (9 : Int32) from pLit (b := 9) e9 (by omega) (by omega)), ky_bd_s (qC_countValue hT hR.1 (by omega))]
        rw [ky_bd_s e])]
      rfl
    · unfold fX4_count
      rw [ky_bd_s qM_within, bI_t (show 0 ≤ nI x ∧ nI x ≤ (9 : Int32) from ⟨nI_pos' (by omega), c2⟩), if_neg (by decide), mOk, ky_bd_s (qM_counted (σ := ky_u1 (ky_uJ σ 16 _) 7 5 0) (hR.u 0) (by omega))]
      rw [show (ky_u1 (ky_uJ σ 16 (if x = 9 then σ.1 7 1 else pCv (pB σ 20) n x).toInt64) 7 5 0).1 7 1 = σ.1 7 1 from by rw [ky_u1_row]; rfl]
  · refine pStep.err hS (c := 1) (by decide) ?_ ?_
    · unfold fL_count
      rw [ky_bh_l (show fX3_count a σ = some (.inl ky_ex1, σ) from by
        unfold fX3_count
        by_cases h1 : a < 0
        · rw [if_pos h1]
        · rw [if_neg h1, if_neg (show ¬ a ≤ (9 : Int32) from hx.resolve_left h1)]), if_pos rfl]
    · unfold fX4_count
      rw [ky_bd_s qM_within, bI_f (show ¬ (0 ≤ a ∧ a ≤ (9 : Int32)) from hx2), if_pos rfl, mErr (by decide)]
theorem law_billIn (hS : pSim σ) (a b : Int32) : pStep (fL_billIn a b) (fX4_billIn a b) σ := by
  obtain ⟨hT, ⟨n, hR⟩, _, _⟩ := id hS
  have hn := hR.1.1
  rcases rng (N := n) (by omega) a with ⟨x, hx, rfl⟩ | hx
  · rcases rng2 (N := 200) (by omega) b with ⟨y, hy, rfl, c1, c2⟩ | ⟨hy, hy2⟩
    · refine pStep.ask hS (v := pDue (pB σ 20) x (nI y)) ?_ ?_
      · unfold fL_billIn
        rw [ky_bh_r (show fX3_billIn (nI x) (nI y) σ = some (.inr _, σ) from by unfold fX3_billIn; rw [ky_bx_s (needSetT hn (h00 hR) hx), if_neg c1, if_pos (show nI y ≤ (200 : Int32) from c2), ky_bd_s (qC_hireBill (by omega) _)])]
        rfl
      · unfold fX4_billIn
        rw [ky_bd_s (isSetT (σ := ky_uJ σ 16 _) hR hx), if_neg (by decide), ky_bd_s qM_within, bI_t (show 0 ≤ nI y ∧ nI y ≤ (200 : Int32) from ⟨nI_pos' (by omega), c2⟩), if_neg (by decide), mOk, ky_bd_s (qM_dueIn (σ := ky_u1 (ky_uJ σ 16 _) 7 5 0) (hR.u 0) hx _)]
    · refine pStep.err hS (c := 2) (by decide) ?_ ?_
      · unfold fL_billIn
        rw [ky_bh_l (show fX3_billIn (nI x) b σ = some (.inl ky_ex1, σ) from by
          unfold fX3_billIn
          rw [ky_bx_s (needSetT hn (h00 hR) hx)]
          by_cases h1 : b < 0
          · rw [if_pos h1]
          · rw [if_neg h1, if_neg (show ¬ b ≤ (200 : Int32) from hy.resolve_left h1)]), if_neg ex13, if_pos rfl]
      · unfold fX4_billIn
        rw [ky_bd_s (isSetT hR hx), if_neg (by decide), ky_bd_s qM_within, bI_f (show ¬ (0 ≤ b ∧ b ≤ (200 : Int32)) from hy2), if_pos rfl, mErr (by decide)]
  · refine pStep.err hS (c := 1) (by decide) ?_ ?_
    · unfold fL_billIn
      rw [ky_bh_l (show fX3_billIn a b σ = some (.inl ky_ex3, σ) from by unfold fX3_billIn; rw [ky_bx_x (needSetF (h00 hR) hx)]), if_pos rfl]
    · unfold fX4_billIn
      rw [ky_bd_s (isSetF hR hx), if_pos rfl, mErr (by decide)]
theorem law_site (hS : pSim σ) (a b : Int32) : pStep (fL_site a b) (fX4_site a b) σ := by
  obtain ⟨hT, ⟨n, hR⟩, _, _⟩ := id hS
  have hn := hR.1.1
  rcases rng (N := 6) (by omega) a with ⟨x, hx, rfl⟩ | hx
  · rcases rng2 (N := 7) (by omega) b with ⟨y, hy, rfl, c1, c2⟩ | ⟨hy, hy2⟩
    · refine pStep.ask hS (v := pSv (pB σ 20) n x y) ?_ ?_
      · unfold fL_site
        rw [ky_bh_r (show fX3_site (nI x) (nI y) σ = some (.inr _, σ) from by unfold fX3_site; rw [ky_bx_s (needSiteT hx), if_neg c1, if_pos (show nI y ≤ (7 : Int32) from c2), ky_bd_s (qC_siteValue hR.1 hx (by omega))])]
        rfl
      · unfold fX4_site
        rw [ky_bd_s (isSiteT hx), if_neg (by decide), ky_bd_s qM_within, bI_t (show 0 ≤ nI y ∧ nI y ≤ (7 : Int32) from ⟨nI_pos' (by omega), c2⟩), if_neg (by decide), mOk, ky_bd_s (qM_siteNow (σ := ky_u1 (ky_uJ σ 16 _) 7 5 0) (hR.u 0) hx (by omega))]
    · refine pStep.err hS (c := 2) (by decide) ?_ ?_
      · unfold fL_site
        rw [ky_bh_l (show fX3_site (nI x) b σ = some (.inl ky_ex1, σ) from by
          unfold fX3_site
          rw [ky_bx_s (needSiteT hx)]
          by_cases h1 : b < 0
          · rw [if_pos h1]
          · rw [if_neg h1, if_neg (show ¬ b ≤ (7 : Int32) from hy.resolve_left h1)]), if_neg ex13, if_pos rfl]
      · unfold fX4_site
        rw [ky_bd_s (isSiteT hx), if_neg (by decide), ky_bd_s qM_within, bI_f (show ¬ (0 ≤ b ∧ b ≤ (7 : Int32)) from hy2), if_pos rfl, mErr (by decide)]
  · refine pStep.err hS (c := 1) (by decide) ?_ ?_
    · unfold fL_site
      rw [ky_bh_l (show fX3_site a b σ = some (.inl ky_ex3, σ) from by unfold fX3_site; rw [ky_bx_x (needSiteF hx)]), if_pos rfl]
    · unfold fX4_site
      rw [ky_bd_s (isSiteF hx), if_pos rfl, mErr (by decide)]
theorem law_splitOn (hS : pSim σ) (a b c : Int32) : pStep (fL_splitOn a b c) (fX4_splitOn a b c) σ := by
  obtain ⟨hT, ⟨n, hR⟩, _, _⟩ := id hS
  have hn := hR.1.1
  rcases rng (N := n) (by omega) a with ⟨x, hx, rfl⟩ | hx
  · rcases rng (N := 6) (by omega) c with ⟨z, hz, rfl⟩ | hz
    · rcases rng2 (N := 9999) (by omega) b with ⟨y, hy, rfl, c1, c2⟩ | ⟨hy, hy2⟩
      · refine pStep.ask hS (v := pSh (pB σ 20) x (nI y) (nI z)) ?_ ?_
        · unfold fL_splitOn
          rw [ky_bh_r (show fX3_splitOn (nI x) (nI y) (nI z) σ = some (.inr _, σ) from by unfold fX3_splitOn; rw [ky_bx_s (needSetT hn (h00 hR) hx), ky_bx_s (needSiteT hz), if_neg c1, if_pos (show nI y ≤ (9999 : Int32) from c2), ky_bd_s (qC_shareOf (by omega) _ _)])]
          rfl
        · unfold fX4_splitOn
          rw [ky_bd_s (isSetT (σ := ky_uJ σ 16 _) hR hx), if_neg (by decide), ky_bd_s (isSiteT hz), if_neg (by decide), ky_bd_s qM_within, bI_t (show 0 ≤ nI y ∧ nI y ≤ (9999 : Int32) from ⟨nI_pos' (by omega), c2⟩), if_neg (by decide), mOk, ky_bd_s (qM_splitNow (σ := ky_u1 (ky_uJ σ 16 _) 7 5 0) (hR.u 0) hx _ hz)]
      · refine pStep.err hS (c := 2) (by decide) ?_ ?_
        · unfold fL_splitOn
          rw [ky_bh_l (show fX3_splitOn (nI x) b (nI z) σ = some (.inl ky_ex1, σ) from by
            unfold fX3_splitOn
            rw [ky_bx_s (needSetT hn (h00 hR) hx), ky_bx_s (needSiteT hz)]
            by_cases h1 : b < 0
            · rw [if_pos h1]
            · rw [if_neg h1, if_neg (show ¬ b ≤ (9999 : Int32) from hy.resolve_left h1)]), if_neg ex13, if_pos rfl]
        · unfold fX4_splitOn
          rw [ky_bd_s (isSetT hR hx), if_neg (by decide), ky_bd_s (isSiteT hz), if_neg (by decide), ky_bd_s qM_within, bI_f (show ¬ (0 ≤ b ∧ b ≤ (9999 : Int32)) from hy2), if_pos rfl, mErr (by decide)]
    · refine pStep.err hS (c := 1) (by decide) ?_ ?_
      · unfold fL_splitOn
        rw [ky_bh_l (show fX3_splitOn (nI x) b c σ = some (.inl ky_ex3, σ) from by unfold fX3_splitOn; rw [ky_bx_s (needSetT hn (h00 hR) hx), ky_bx_x (needSiteF hz)]), if_pos rfl]
      · unfold fX4_splitOn
        rw [ky_bd_s (isSetT hR hx), if_neg (by decide), ky_bd_s (isSiteF hz), if_pos rfl, mErr (by decide)]
  · refine pStep.err hS (c := 1) (by decide) ?_ ?_
    · unfold fL_splitOn
      rw [ky_bh_l (show fX3_splitOn a b c σ = some (.inl ky_ex3, σ) from by unfold fX3_splitOn; rw [ky_bx_x (needSetF (h00 hR) hx)]), if_pos rfl]
    · unfold fX4_splitOn
      rw [ky_bd_s (isSetF hR hx), if_pos rfl, mErr (by decide)]
end WH
