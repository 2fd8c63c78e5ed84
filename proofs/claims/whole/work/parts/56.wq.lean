/-! ===== pure: the model's digest ===== -/
section WQ
variable {n : Nat} {σ : ky_St} {s : Nat} {Y : pY} {Z : Nat → Int32}
theorem uJ_v (σ : ky_St) (x : Int64) : (ky_uJ σ 7 x).2 7 = x := (if_pos rfl : (if (7 : Nat) = 7 then x else σ.2 7) = x)
theorem uJ_uJ (σ : ky_St) (x y : Int64) : ky_uJ (ky_uJ σ 7 x) 7 y = ky_uJ σ 7 y := by
  refine Prod.ext rfl (funext fun k => ?_)
  show (if k = 7 then y else if k = 7 then x else σ.2 k) = if k = 7 then y else σ.2 k
  by_cases h : k = 7
  · rw [if_pos h, if_pos h]
  · rw [if_neg h, if_neg h, if_neg h]
theorem qM_mix (x : Int64) (a : Int64) (σ : ky_St) : fX4_mix a (ky_uJ σ 7 x) = some ((), ky_uJ σ 7 ((31 : Int64) * x + a)) := by
  unfold fX4_mix
  rw [uJ_v, uJ_uJ, ky_bn_s]
theorem dM_U (hR : pR n Y (σ.1 8)) (hs : s < n) (x : Int64) : ∀ (m i fu : Nat), i + m = 6 → m < fu → fX4_mixSet_L45 fu (nI s) (nI i) (ky_uJ σ 7 (pFh (gU Y s) i x)) = some ((), ky_uJ σ 7 (pFh (gU Y s) 6 x)) := by
  intro m
  induction m with
  | zero =>
    intro i fu h hf
    obtain ⟨fu, rfl⟩ : ∃ q, fu = q + 1 := ⟨fu - 1, by omega⟩
    have : i = 6 := by omega
    subst this
    rw [fX4_mixSet_L45, if_pos (show (6 : Int32) ≤ nI 6 from nI_le (a := 6) (b := 6) (Nat.le_refl _) (by omega))]
  | succ m ih =>
    intro i fu h hf
    obtain ⟨fu, rfl⟩ : ∃ q, fu = q + 1 := ⟨fu - 1, by omega⟩
    rw [fX4_mixSet_L45, if_neg (show ¬ (6 : Int32) ≤ nI i from nI_ge (a := i) (b := 6) (by omega) (by omega)), ky_bd_s (qM_splitNow (σ := ky_uJ σ 7 (pFh (gU Y s) i x)) hR hs 100 (by omega)), ky_bd_s (qM_mix _ _ σ), ky_bn_s, nI_1]
    exact ih (i + 1) fu (by omega) (by omega)
theorem dM_U0 (hR : pR n Y (σ.1 8)) (hs : s < n) (x : Int64) : fX4_mixSet_L45 FU (nI s) 0 (ky_uJ σ 7 x) = some ((), ky_uJ σ 7 (pFh (gU Y s) 6 x)) := dM_U hR hs x 6 0 FU rfl (by decide)
theorem dM_B (hR : pR n Y (σ.1 8)) (hs : s < n) (x : Int64) : ∀ (m i fu : Nat), i + m = 14 → m < fu → fX4_mixSet_L2 fu (nI s) (nI i) (ky_uJ σ 7 (pFh (gB Y s) i x)) = some ((), ky_uJ σ 7 (gSet Y s x)) := by
  intro m
  induction m with
  | zero =>
    intro i fu h hf
    obtain ⟨fu, rfl⟩ : ∃ q, fu = q + 1 := ⟨fu - 1, by omega⟩
    have : i = 14 := by omega
    subst this
    rw [fX4_mixSet_L2, if_pos (show (14 : Int32) ≤ nI 14 from nI_le (a := 14) (b := 14) (Nat.le_refl _) (by omega)), ky_bd_s (qM_dueIn (σ := ky_uJ σ 7 (pFh (gB Y s) 14 x)) hR hs 30), ky_bd_s (qM_mix _ _ σ)]
    exact dM_U0 hR hs _
  | succ m ih =>
    intro i fu h hf
    obtain ⟨fu, rfl⟩ : ∃ q, fu = q + 1 := ⟨fu - 1, by omega⟩
    have hi := ih (i + 1) fu (by omega) (by omega)
    rw [show pFh (gB Y s) (i + 1) x = gB Y s i (pFh (gB Y s) i x) from rfl] at hi
    rw [fX4_mixSet_L2, if_neg (show ¬ (14 : Int32) ≤ nI i from nI_ge (a := i) (b := 14) (by omega) (by omega))]
    by_cases e9 : i = 9
    · have eg : gB Y s i (pFh (gB Y s) i x) = pFh (gB Y s) i x := if_pos e9
      rw [eg] at hi
      rw [if_pos (show nI i = (9 : Int32) from by rw [e9]; rfl), ky_bn_s, nI_1]
      exact hi
    · have eg : gB Y s i (pFh (gB Y s) i x) = mx (pFh (gB Y s) i x) (pBv Y s i) := if_neg e9
      rw [eg] at hi
      rw [if_neg (show ¬ nI i = (9 : Int32) from pLit (b := 9) e9 (by omega) (by omega)), ky_bd_s (qM_bundleNow (σ := ky_uJ σ 7 (pFh (gB Y s) i x)) hR hs (by omega) e9), ky_bd_s (qM_mix _ _ σ), ky_bn_s, nI_1]
      exact hi
theorem dM_set (hR : pR n Y (σ.1 8)) (hs : s < n) (x : Int64) : fX4_mixSet (nI s) (ky_uJ σ 7 x) = some ((), ky_uJ σ 7 (gSet Y s x)) := dM_B hR hs x 14 0 FU rfl (by decide)
theorem dM_V (hR : pR n Y (σ.1 8)) (rec83 : Int32 → ky_St → Option (Int64 × ky_St)) {k : Nat} (hk : k < 6) (x : Int64) : ∀ (m i fu : Nat), i + m = 8 → m < fu → fX4_digest_L91 rec83 fu (nI k) (nI i) (ky_uJ σ 7 (pFh (gV Y n k) i x)) = rec83 (nI (k + 1)) (ky_uJ σ 7 (gSite Y n k x)) := by
  intro m
  induction m with
  | zero =>
    intro i fu h hf
    obtain ⟨fu, rfl⟩ : ∃ q, fu = q + 1 := ⟨fu - 1, by omega⟩
    have : i = 8 := by omega
    subst this
    rw [fX4_digest_L91, if_pos (show (8 : Int32) ≤ nI 8 from nI_le (a := 8) (b := 8) (Nat.le_refl _) (by omega)), ky_bd_s (qM_oldestOn (σ := ky_uJ σ 7 (pFh (gV Y n k) 8 x)) hR _), ky_bd_s (qM_mix _ _ σ), ky_bn_s, nI_1]
    rfl
  | succ m ih =>
    intro i fu h hf
    obtain ⟨fu, rfl⟩ : ∃ q, fu = q + 1 := ⟨fu - 1, by omega⟩
    rw [fX4_digest_L91, if_neg (show ¬ (8 : Int32) ≤ nI i from nI_ge (a := i) (b := 8) (by omega) (by omega)), ky_bd_s (qM_siteNow (σ := ky_uJ σ 7 (pFh (gV Y n k) i x)) hR hk (by omega)), ky_bd_s (qM_mix _ _ σ), ky_bn_s, nI_1]
    exact ih (i + 1) fu (by omega) (by omega)
theorem dM_V0 (hR : pR n Y (σ.1 8)) (rec83 : Int32 → ky_St → Option (Int64 × ky_St)) {k : Nat} (hk : k < 6) (x : Int64) : fX4_digest_L91 rec83 FU (nI k) 0 (ky_uJ σ 7 x) = rec83 (nI (k + 1)) (ky_uJ σ 7 (gSite Y n k x)) := dM_V hR rec83 hk x 8 0 FU rfl (by decide)
theorem dM_sites (hR : pR n Y (σ.1 8)) (x : Int64) : ∀ (m i fu : Nat), i + m = 6 → m < fu → fX4_digest_L83 fu (nI i) (ky_uJ σ 7 (pFh (gSite Y n) i x)) = fX4_digest_L132 FU 0 (ky_uJ σ 7 (pFh (gSite Y n) 6 x)) := by
  intro m
  induction m with
  | zero =>
    intro i fu h hf
    obtain ⟨fu, rfl⟩ : ∃ q, fu = q + 1 := ⟨fu - 1, by omega⟩
    have : i = 6 := by omega
    subst this
    rw [fX4_digest_L83, if_pos (show (6 : Int32) ≤ nI 6 from nI_le (a := 6) (b := 6) (Nat.le_refl _) (by omega))]
  | succ m ih =>
    intro i fu h hf
    obtain ⟨fu, rfl⟩ : ∃ q, fu = q + 1 := ⟨fu - 1, by omega⟩
    rw [fX4_digest_L83, if_neg (show ¬ (6 : Int32) ≤ nI i from nI_ge (a := i) (b := 6) (by omega) (by omega)), dM_V0 hR _ (by omega)]
    exact ih (i + 1) fu (by omega) (by omega)
theorem dM_sites0 (hR : pR n Y (σ.1 8)) (x : Int64) : fX4_digest_L83 FU 0 (ky_uJ σ 7 x) = fX4_digest_L132 FU 0 (ky_uJ σ 7 (pFh (gSite Y n) 6 x)) := dM_sites hR x 6 0 FU rfl (by decide)
theorem dM_sets (hR : pR n Y (σ.1 8)) (x : Int64) : ∀ (m i fu : Nat), i + m = n → m < fu → fX4_digest_L60 fu (nI i) (ky_uJ σ 7 (pFh (gSet Y) i x)) = fX4_digest_L83 FU 0 (ky_uJ σ 7 (pFh (gSet Y) n x)) := by
  have hn := hR.1.1
  intro m
  induction m with
  | zero =>
    intro i fu h hf
    obtain ⟨fu, rfl⟩ : ∃ q, fu = q + 1 := ⟨fu - 1, by omega⟩
    have : i = n := by omega
    subst this
    rw [fX4_digest_L60, ky_g_s (by decide), qM_z3 (σ := ky_uJ σ 7 _) hR, if_pos (nI_le (Nat.le_refl _) (by omega))]
  | succ m ih =>
    intro i fu h hf
    obtain ⟨fu, rfl⟩ : ∃ q, fu = q + 1 := ⟨fu - 1, by omega⟩
    rw [fX4_digest_L60, ky_g_s (by decide), qM_z3 (σ := ky_uJ σ 7 _) hR, if_neg (nI_ge (by omega) (by omega)), ky_bd_s (dM_set hR (by omega) _), ky_bn_s, nI_1]
    exact ih (i + 1) fu (by omega) (by omega)
theorem dM_sets0 (hR : pR n Y (σ.1 8)) (x : Int64) : fX4_digest_L60 FU 0 (ky_uJ σ 7 x) = fX4_digest_L83 FU 0 (ky_uJ σ 7 (pFh (gSet Y) n x)) := dM_sets hR x n 0 FU (by omega) (by have := hR.1.1; show n < 4000; omega)
theorem dM_counts (hR : pR n Y (σ.1 8)) {h : Nat} (eh : σ.1 7 1 = nI h) (x : Int64) : ∀ (m i fu : Nat), i + m = 10 → m < fu → fX4_digest_L14 fu (nI i) (ky_uJ σ 7 (pFh (gC Y n h) i x)) = fX4_digest_L60 FU 0 (ky_uJ σ 7 (pFh (gT Y) 2 (pFh (gC Y n h) 10 x))) := by
  intro m
  induction m with
  | zero =>
    intro i fu h hf
    obtain ⟨fu, rfl⟩ : ∃ q, fu = q + 1 := ⟨fu - 1, by omega⟩
    have : i = 10 := by omega
    subst this
    rw [fX4_digest_L14, if_pos (show (10 : Int32) ≤ nI 10 from nI_le (a := 10) (b := 10) (Nat.le_refl _) (by omega)), ky_g_s (by decide), qM_z0 (σ := ky_uJ σ 7 _) hR, ky_bd_s (qM_mix _ _ σ), ky_g_s (by decide), qM_z1 (σ := ky_uJ σ 7 _) hR, ky_bd_s (qM_mix _ _ σ)]
    rfl
  | succ m ih =>
    intro i fu h hf
    obtain ⟨fu, rfl⟩ : ∃ q, fu = q + 1 := ⟨fu - 1, by omega⟩
    rw [fX4_digest_L14, if_neg (show ¬ (10 : Int32) ≤ nI i from nI_ge (a := i) (b := 10) (by omega) (by omega)), ky_bd_s (qM_counted (σ := ky_uJ σ 7 _) hR (by omega)), show (ky_uJ σ 7 (pFh (gC Y n h) i x)).1 7 1 = σ.1 7 1 from rfl, eh, ky_bd_s (qM_mix _ _ σ), ky_bn_s, nI_1]
    exact ih (i + 1) fu (by omega) (by omega)
theorem dM_counts0 (hR : pR n Y (σ.1 8)) {h : Nat} (eh : σ.1 7 1 = nI h) (x : Int64) : fX4_digest_L14 FU 0 (ky_uJ σ 7 x) = fX4_digest_L60 FU 0 (ky_uJ σ 7 (pFh (gT Y) 2 (pFh (gC Y n h) 10 x))) := dM_counts hR eh x 10 0 FU rfl (by decide)
end WQ
