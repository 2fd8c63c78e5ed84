/-! ===== pure: the model's digest ===== -/
section WQ
variable {n : Nat} {σ : ky_St} {s : Nat} {Y : pY} {Z : Nat → Int32}
theorem uJ_v (σ : ky_St) (x : Int64) : (ky_uJ σ 7 x).2 7 = x := (if_pos rfl : (if (7 : Nat) = 7 then x else σ.2 7) = x)
theorem uJ_uJ (σ : ky_St) (x y : Int64) : ky_uJ (ky_uJ σ 7 x) 7 y = ky_uJ σ 7 y := by
  refine Prod.ext rfl (funext fun k => ?_)
  show (if k = 7 then y else if k = 7 then x else σ.2 k) = if k = 7 then y else σ.2 k
  by_cases h : k = 7
  · rw [if_pos h, if_pos h]
  · rw [if_neg h, if_neg h, if_neg h]
theorem qM_mix (x : Int64) (a : Int64) (σ : ky_St) : fX4_mix a (ky_uJ σ 7 x) = some ((), ky_uJ σ 7 ((31 : Int64) * x + a)) := by
  unfold fX4_mix
  rw [uJ_v, uJ_uJ, ky_bn_s]
theorem dM_U (hR : pR n Y (σ.1 8)) (hs : s < n) (x : Int64) : ∀ (m i fu : Nat), i + m = 6 → m < fu → fX4_mixSet_L45 fu (nI s) (nI i) (ky_uJ σ 7 (pFh (gU Y s) i x)) = some ((), ky_uJ σ 7 (pFh (gU Y s) 6 x)) := by
  intro m
  induction m with
  | zero =>
    intro i fu h hf
    obtain ⟨fu, rfl⟩ : ∃ q, fu = q + 1 := ⟨fu - 1, by omega⟩
    have : i = 6 := by omega
    subst this
    rw [fX4_mixSet_L45, if_pos (show (6 : Int32) ≤ nI 6 from nI_le (a := 6) (b := 6) (Nat.le_refl _) (by omega))]
  | succ m ih =>
    intro i fu h hf
    obtain ⟨fu, rfl⟩ : ∃ q, fu = q + 1 := ⟨fu - 1, by omega⟩
    rw [fX4_mixSet_L45, if_neg (show ¬ (6 : Int32) ≤ nI i from nI_ge (a := i) (b := 6) (by omega) (by omega)), ky_bd_s (qM_splitNow (σ := ky_uJ σ 7 (pFh (gU Y s) i x)) hR hs 100 (by omega)), ky_bd_s (qM_mix _ _ σ), ky_bn_s, nI_1]
    exact ih (i + 1) fu (by omega) (by omega)
theorem dM_U0 (hR : pR n Y (σ.1 8)) (hs : s < n) (x : Int64) : fX4_mixSet_L45 FU (nI s) 0 (ky_uJ σ 7 x) = some ((), ky_uJ σ 7 (pFh (gU Y s) 6 x)) := dM_U hR hs x 6 0 FU rfl (by decide)
theorem dM_B (hR : pR n Y (σ.1 8)) (hs : s < n) (x : Int64) : ∀ (m i fu : Nat), i + m = 14 → m < fu → fX4_mixSet_L2 fu (nI s) (nI i) (ky_uJ σ 7 (pFh (gB Y s) i x)) = some ((), ky_uJ σ 7 (gSet Y s x)) := by
  intro m
  induction m with
  | zero =>
    intro i fu h hf
    obtain ⟨fu, rfl⟩ : ∃ q, fu = q + 1 := ⟨fu - 1, by omega⟩
    have : i = 14 := by omega
    subst this
    rw [fX4_mixSet_L2, if_pos (show (14 : Int32) ≤ nI 14 from nI_le (a := 14) (b := 14) (Nat.le_refl _) (by omega)), ky_bd_s (qM_dueIn (σ := ky_uJ σ 7 (pFh (gB Y s) 14 x)) hR hs 30), ky_bd_s (qM_mix _ _ σ)]
    exact dM_U0 hR hs _
  | succ m ih =>
    intro i fu h hf
    obtain ⟨fu, rfl⟩ : ∃ q, fu = q + 1 := ⟨fu - 1, by omega⟩
    have hi := ih (i + 1) fu (by omega) (by omega)
    rw [show pFh (gB Y s) (i + 1) x = gB Y s i (pFh (gB Y s) i x) from rfl] at hi
    rw [fX4_mixSet_L2, if_neg (show ¬ (14 : Int32) ≤ nI i from nI_ge (a := i) (b := 14) (by omega) (by omega))]
    by_cases e9 : i = 9
    · have eg : gB Y s i (pFh (gB Y s) i x) = pFh (gB Y s) i x := if_pos e9
      rw [eg] at hi
      rw [if_pos (show nI i = (9 : Int32) from by rw [e9]; rfl), ky_bn_s, nI_1]
      exact hi
    · have eg : gB Y s i (pFh (gB Y s) i x) = mx (pFh (gB Y s) i x) (pBv Y s i) := if_neg e9
      rw [eg] at hi
      rw [if_neg (show ¬ nI i = (9 : Int32) from pLit (b := 9) e9 (by omega) (by omega)), ky_bd_s (qM_bundleNow (σ := ky_uJ σ 7 (pFh (gB Y s) i x)) hR hs (by omega) e9), ky_bd_s (qM_mix _ _ σ), ky_bn_s, nI_1]
      exact hi
theorem dM_set (hR : pR n Y (σ.1 8)) (hs : s < n) (x : Int64) : fX4_mixSet (nI s) (ky_uJ σ 7 x) = some ((), ky_uJ σ 7 (gSet Y s x)) := dM_B hR hs x 14 0 FU rfl (by decide)
theorem dM_V (hR : pR n Y (σ.1 8)) (rec83 : Int32 → ky_St → Option (Int64 × ky_St)) {k : Nat} (hk : k < 6) (x : Int64) : ∀ (m i fu : Nat), i + m = 8 → m < fu → fX4_digest_L91 rec83 fu (nI k) (nI i) (ky_uJ σ 7 (pFh (gV Y n k) i x)) = rec83 (nI (k + 1)) (ky_uJ σ 7 (gSite Y n k x)) := by
  intro m
  induction m with
  | zero =>
    intro i fu h hf
    obtain ⟨fu, rfl⟩ : ∃ q, fu = q + 1 := ⟨fu - 1, by omega⟩
    have : i = 8 := by omega
    subst this
    rw [fX4_digest_L91, if_pos (show (8 : Int32) ≤ nI 8 from nI_le (a := 8) (b := 8) (Nat.le_refl _) (by omega)), ky_bd_s (qM_oldestOn (σ := ky_uJ σ 7 (pFh (gV Y n k) 8 x)) hR _), ky_bd_s (qM_mix _ _ σ), ky_bn_s, nI_1]
    rfl
  | succ m ih =>
    intro i fu h hf
    obtain ⟨fu, rfl⟩ : ∃ q, fu = q + 1 := ⟨fu - 1, by omega⟩
    rw [fX4_digest_L91, if_neg (show ¬ (8 : Int32) ≤ nI i from nI_ge (a := i) (b := 8) (by omega) (by omega)), ky_bd_s (qM_siteNow (σ := ky_uJ σ 7 (pFh (gV Y n k) i x)) hR hk (by omega)), ky_bd_s (qM_mix _ _ σ), ky_bn_s, nI_1]
    exact ih (i + 1) fu (by omega) (by omega)
theorem dM_V0 (hR : pR n Y (σ.1 8)) (rec83 : Int32 → ky_St → Option (Int64 × ky_St)) {k : Nat} (hk : k < 6) (x : Int64) : fX4_digest_L91 rec83 FU (nI k) 0 (ky_uJ σ 7 x) = rec83 (nI (k + 1)) (ky_uJ σ 7 (gSite Y n k x)) := dM_V hR rec83 hk x 8 0 FU rfl (by decide)
theorem dM_sites (hR : pR n Y (σ.1 8)) (x : Int64) : ∀ (m i fu : Nat), i + m = 6 → m < fu → fX4_digest_L83 fu (nI i) (ky_uJ σ 7 (pFh (gSite Y n) i x)) = fX4_digest_L132 FU 0 (ky_uJ σ 7 (pFh (gSite Y n) 6 x)) := by
  intro m
  induction m with
  | zero =>
    intro i fu h hf
    obtain ⟨fu, rfl⟩ : ∃ q, fu = q + 1 := ⟨fu - 1, by omega⟩
    have : i = 6 := by omega
    subst this
    rw [fX4_digest_L83, if_pos (show (6 : Int32) ≤ nI 6 from nI_le (a := 6) (b := 6) (Nat.le_refl _) (by omega))]
  | succ m ih =>
    intro i fu h hf
    obtain ⟨fu, rfl⟩ : ∃ q, fu = q + 1 := ⟨fu - 1, by omega⟩
    rw [fX4_digest_L83, if_neg (show ¬ (6 : Int32) ≤ nI i from nI_ge (a := i) (b := 6) (by omega) (by omega)), dM_V0 hR _ (by omega)]
    exact ih (i + 1) fu (by omega) (by omega)
theorem dM_sites0 (hR : pR n Y (σ.1 8)) (x : Int64) : fX4_digest_L83 FU 0 (ky_uJ σ 7 x) = fX4_digest_L132 FU 0 (ky_uJ σ 7 (pFh (gSite Y n) 6 x)) := dM_sites hR x 6 0 FU rfl (by decide)
theorem dM_sets (hR : pR n Y (σ.1 8)) (x : Int64) : ∀ (m i fu : Nat), i + m = n → m < fu → fX4_digest_L60 fu (nI i) (ky_uJ σ 7 (pFh (gSet Y) i x)) = fX4_digest_L83 FU 0 (ky_uJ σ 7 (pFh (gSet Y) n x)) := by
  have hn := hR.1.1
  intro m
  induction m with
  | zero =>
    intro i fu h hf
    obtain ⟨fu, rfl⟩ : ∃ q, fu = q + 1 := ⟨fu - 1, by omega⟩
    have : i = n := by omega
    subst this
    rw [fX4_digest_L60, ky_g_s (by decide), qM_z3 (σ := ky_uJ σ 7 _) hR, if_pos (nI_le (Nat.le_refl _) (by omega))]
  | succ m ih =>
    intro i fu h hf
    obtain ⟨fu, rfl⟩ : ∃ q, fu = q + 1 := ⟨fu - 1, by omega⟩
    rw [fX4_digest_L60, ky_g_s (by decide), qM_z3 (σ := ky_uJ σ 7 _) hR, if_neg (nI_ge (by omega) (by omega)), ky_bd_s (dM_set hR (by omega) _), ky_bn_s, nI_1]
    exact ih (i + 1) fu (by omega) (by omega)
theorem dM_sets0 (hR : pR n Y (σ.1 8)) (x : Int64) : fX4_digest_L60 FU 0 (ky_uJ σ 7 x) = fX4_digest_L83 FU 0 (ky_uJ σ 7 (pFh (gSet Y) n x)) := dM_sets hR x n 0 FU (by omega) (by have := hR.1.1; show n < 4000; omega)
theorem dM_counts (hR : pR n Y (σ.1 8)) {h : Nat} (eh : σ.1 7 1 = nI h) (x : Int64) : ∀ (m i fu : Nat), i + m = 10 → m < fu → fX4_digest_L14 fu (nI i) (ky_uJ σ 7 (pFh (gC Y n h) i x)) = fX4_digest_L60 FU 0 (ky_uJ σ 7 (pFh (gT Y) 2 (pFh (gC Y n h) 10 x))) := by
  intro m
  induction m with
  | zero =>
    intro i fu h1 hf
    obtain ⟨fu, rfl⟩ : ∃ q, fu = q + 1 := ⟨fu - 1, by omega⟩
    have : i = 10 := by omega
    subst this
    rw [fX4_digest_L14, if_pos (show (10 : Int32) ≤ nI 10 from nI_le (a := 10) (b := 10) (Nat.le_refl _) (by omega)), ky_g_s (by decide), qM_z0 (σ := ky_uJ σ 7 _) hR, ky_bd_s (qM_mix _ _ σ), ky_g_s (by decide), qM_z1 (σ := ky_uJ σ 7 _) hR, ky_bd_s (qM_mix _ _ σ)]
    rfl
  | succ m ih =>
    intro i fu h1 hf
    obtain ⟨fu, rfl⟩ : ∃ q, fu = q + 1 := ⟨fu - 1, by omega⟩
    rw [fX4_digest_L14, if_neg (show ¬ (10 : Int32) ≤ nI i from nI_ge (a := i) (b := 10) (by omega) (by omega)), ky_bd_s (qM_counted (σ := ky_uJ σ 7 _) hR (by omega)), show (ky_uJ σ 7 (pFh (gC Y n h) i x)).1 7 1 = σ.1 7 1 from rfl, eh, ky_bd_s (qM_mix _ _ σ), ky_bn_s, nI_1]
    exact ih (i + 1) fu (by omega) (by omega)
theorem dM_counts0 (hR : pR n Y (σ.1 8)) {h : Nat} (eh : σ.1 7 1 = nI h) (x : Int64) : fX4_digest_L14 FU 0 (ky_uJ σ 7 x) = fX4_digest_L60 FU 0 (ky_uJ σ 7 (pFh (gT Y) 2 (pFh (gC Y n h) 10 x))) := dM_counts hR eh x 10 0 FU rfl (by decide)
theorem nI_div5 {a : Nat} (h : a < 2 ^ 31) : nI a / (5 : Int32) = nI (a / 5) := by
  apply Int32.toInt_inj.mp
  rw [Int32.toInt_div, nI_toInt h, nI_toInt (by omega), show (5 : Int32).toInt = 5 from rfl]
  rw [Int.bmod_eq_of_le]
  · rw [Int.tdiv_eq_ediv_of_nonneg (by omega)]
    omega
  · rw [Int.tdiv_eq_ediv_of_nonneg (by omega)]
    omega
  · rw [Int.tdiv_eq_ediv_of_nonneg (by omega)]
    omega
theorem nI_rem5 {a : Nat} (h : a < 2 ^ 31) : nI a - nI (a / 5) * (5 : Int32) = nI (a % 5) := by
  rw [show (5 : Int32) = nI 5 from rfl, pk_mul]
  have : nI a = nI (a % 5) + nI (a / 5 * 5) := by
    rw [nI_add]
    congr 1
    omega
  rw [this]
  grind
theorem dM_text {t : Nat} (ht : t ≤ 60) (e : σ.1 7 3 = nI t) (x : Int64) : ∀ (m i fu : Nat), i + m = t → m < fu → fX4_digest_L190 fu (nI i) (ky_uJ σ 7 (pFh (gL (σ.1 10)) i x)) = some (pFh (gL (σ.1 10)) t x, ky_uJ σ 7 (pFh (gL (σ.1 10)) t x)) := by
  intro m
  induction m with
  | zero =>
    intro i fu h hf
    obtain ⟨fu, rfl⟩ : ∃ q, fu = q + 1 := ⟨fu - 1, by omega⟩
    have : i = t := by omega
    subst this
    rw [fX4_digest_L190, show (ky_uJ σ 7 (pFh (gL (σ.1 10)) i x)).1 7 3 = nI i from e, if_pos (nI_le (Nat.le_refl _) (by omega)), uJ_v]
  | succ m ih =>
    intro i fu h hf
    obtain ⟨fu, rfl⟩ : ∃ q, fu = q + 1 := ⟨fu - 1, by omega⟩
    rw [fX4_digest_L190, show (ky_uJ σ 7 (pFh (gL (σ.1 10)) i x)).1 7 3 = nI t from e, if_neg (nI_ge (by omega) (by omega)), ky_g_s (nI_in (by omega) (by omega)), nI_clamp (by omega), ky_bd_s (qM_mix _ _ σ), ky_bn_s, nI_1]
    exact ih (i + 1) fu (by omega) (by omega)
theorem dM_text0 {t : Nat} (ht : t ≤ 60) (e : σ.1 7 3 = nI t) (x : Int64) : fX4_digest_L190 FU 0 (ky_uJ σ 7 x) = some (pFh (gL (σ.1 10)) t x, ky_uJ σ 7 (pFh (gL (σ.1 10)) t x)) := dM_text ht e x t 0 FU (by omega) (by show t < 4000; omega)
theorem pFh_cg {g g' : Nat → Int64 → Int64} (x : Int64) (t : Nat) (h : ∀ i, i < t → g i = g' i) : pFh g t x = pFh g' t x := by
  induction t with
  | zero => rfl
  | succ t ih => rw [pFh, pFh, ih (fun i hi => h i (Nat.lt_succ_of_lt hi)), h t (Nat.lt_succ_self t)]
theorem pEnd_cg {R R' : Nat → Int32} {t : Nat} (h : ∀ i, i < t → R i = R' i) (x : Int64) : pEnd Y n t R x = pEnd Y n t R' x := pFh_cg _ t (fun i hi => by unfold gL; rw [h i hi])
theorem dM_kinds (hR : pR n Y (σ.1 8)) {t : Nat} (ht : t ≤ 60) (et : σ.1 7 3 = nI t) (x : Int64) : ∀ (m i fu : Nat), i + m = 20 → m < fu → ∃ σ' y, fX4_digest_L132 fu (nI i) (ky_uJ σ 7 (pFh (gP Y n) i x)) = some (pEnd Y n t (σ.1 10) (pFh (gP Y n) 20 x), ky_uJ σ' 7 y) ∧ pF (fun k => k = 12) (ky_uJ σ 7 0) (ky_uJ σ' 7 0) := by
  intro m
  induction m with
  | zero =>
    intro i fu h hf
    obtain ⟨fu, rfl⟩ : ∃ q, fu = q + 1 := ⟨fu - 1, by omega⟩
    have : i = 20 := by omega
    subst this
    obtain ⟨σ1, a1, a2⟩ := qM_repairedThen (σ := ky_uJ σ 7 (pFh (gP Y n) 20 x)) (n := n) (Y := Y) hR
    have w : σ1 = ky_uJ σ1 7 (pFh (gP Y n) 20 x) := by
      refine Prod.ext rfl ?_
      rw [show (ky_uJ σ1 7 (pFh (gP Y n) 20 x)).2 = fun k => if k = 7 then pFh (gP Y n) 20 x else σ1.2 k from rfl, a2.2]
      funext k
      show (if k = 7 then _ else σ.2 k) = if k = 7 then _ else (if k = 7 then _ else σ.2 k)
      by_cases e : k = 7
      · rw [if_pos e, if_pos e]
      · rw [if_neg e, if_neg e]
    have hR1 : pR n Y (σ1.1 8) := by rw [a2.1 8 (by decide)]; exact hR
    have et1 : σ1.1 7 3 = nI t := by rw [a2.1 7 (by decide)]; exact et
    have e10 : σ1.1 10 = σ.1 10 := a2.1 10 (by decide)
    refine ⟨σ1, pEnd Y n t (σ.1 10) (pFh (gP Y n) 20 x), ?_, ⟨fun k hk => a2.1 k hk, ?_⟩⟩
    · rw [w] at a1
      rw [fX4_digest_L132, if_pos (show (20 : Int32) ≤ nI 20 from nI_le (a := 20) (b := 20) (Nat.le_refl _) (by omega)), ky_bd_s a1, ky_bd_s (qM_mix _ _ σ1), ky_bd_s (qM_share (σ := ky_uJ σ1 7 _) hR1), ky_bd_s (qM_bits hR.1.1), ky_bd_s (qM_mix _ _ σ1), show (ky_uJ σ1 7 ((31 : Int64) * ((31 : Int64) * pFh (gP Y n) 20 x + (pRS Y n).2.toInt64) + (pShr Y n).toInt64)).1 7 3 = nI t from et1, ky_bd_s (qM_mix _ _ σ1), dM_text0 ht et1, e10]
      rfl
    · funext k
      show (if k = 7 then (0 : Int64) else σ1.2 k) = if k = 7 then 0 else σ.2 k
      rw [a2.2]
      show (if k = 7 then (0 : Int64) else if k = 7 then _ else σ.2 k) = if k = 7 then 0 else σ.2 k
      by_cases e : k = 7
      · rw [if_pos e, if_pos e]
      · rw [if_neg e, if_neg e, if_neg e]
  | succ m ih =>
    intro i fu h hf
    obtain ⟨fu, rfl⟩ : ∃ q, fu = q + 1 := ⟨fu - 1, by omega⟩
    obtain ⟨σ', y, q1, q2⟩ := ih (i + 1) fu (by omega) (by omega)
    refine ⟨σ', y, ?_, q2⟩
    rw [fX4_digest_L132, if_neg (show ¬ (20 : Int32) ≤ nI i from nI_ge (a := i) (b := 20) (by omega) (by omega)), ky_g_s (by decide), ky_g_s (by decide), nI_div5 (by omega), nI_rem5 (by omega), ky_bd_s (qM_partNow (σ := ky_uJ σ 7 _) hR (k := i / 5) (by omega) (w := i % 5) (by omega)), ky_bd_s (qM_mix _ _ σ), ky_bn_s, nI_1]
    exact q1
theorem dM_kinds0 (hR : pR n Y (σ.1 8)) {t : Nat} (ht : t ≤ 60) (et : σ.1 7 3 = nI t) (x : Int64) : ∃ σ' y, fX4_digest_L132 FU 0 (ky_uJ σ 7 x) = some (pEnd Y n t (σ.1 10) (pFh (gP Y n) 20 x), ky_uJ σ' 7 y) ∧ pF (fun k => k = 12) (ky_uJ σ 7 0) (ky_uJ σ' 7 0) := dM_kinds hR ht et x 20 0 FU rfl (by decide)
theorem qM_digest (hR : pR n Y (σ.1 8)) {h t : Nat} (eh : σ.1 7 1 = nI h) (ht : t ≤ 60) (et : σ.1 7 3 = nI t) : ∃ σ' y, fX4_digest σ = some (pDig Y n h t (σ.1 10), ky_uJ σ' 7 y) ∧ pF (fun k => k = 12) (ky_uJ (ky_u1 σ 7 5 0) 7 0) (ky_uJ σ' 7 0) := by
  have r8 : pR n Y ((ky_u1 σ 7 5 0).1 8) := hR.u 0
  have r1 : (ky_u1 σ 7 5 0).1 7 1 = nI h := by rw [ky_u1_row]; exact eh
  have r3 : (ky_u1 σ 7 5 0).1 7 3 = nI t := by rw [ky_u1_row]; exact et
  have r10 : (ky_u1 σ 7 5 0).1 10 = σ.1 10 := ky_u1_ne (by decide)
  obtain ⟨σ', y, q1, q2⟩ := dM_kinds0 (σ := ky_u1 σ 7 5 0) r8 ht r3 (pFh (gSite Y n) 6 (pFh (gSet Y) n (pFh (gT Y) 2 (pFh (gC Y n h) 10 2549))))
  rw [r10] at q1
  refine ⟨σ', y, ?_, q2⟩
  unfold fX4_digest pDig
  rw [ky_bn_s, ky_bn_s, dM_counts0 r8 r1, dM_sets0 r8, dM_sites0 r8]
  exact q1
theorem law_digest (hS : pSim σ) : ∃ σ1 σ2 v, fX3_digest σ = some (v, σ1) ∧ fX4_digest σ1 = some (v, σ2) ∧ pSim σ2 ∧ σ2.1 15 = σ.1 15 := by
  obtain ⟨hT, ⟨n, hR⟩, ⟨h, q, h6, q6, e1, e2, e3, e4⟩, t, t60, t1, t2, t3⟩ := id hS
  obtain ⟨σ1, a1, a2⟩ := qC_digest hT hR.1 e1 t60 t1
  obtain ⟨σ2, y, b1, b2⟩ := qM_digest (σ := σ1) (n := n) (Y := pB σ 20) (h := h) (t := t) (by rw [a2.1 8 (by decide)]; exact hR) (by rw [a2.1 7 (by decide)]; exact e3) t60 (by rw [a2.1 7 (by decide)]; exact t2)
  have eD : pDig (pB σ 20) n h t (σ1.1 10) = pDig (pB σ 20) n h t (σ.1 6) := by
    unfold pDig
    refine pEnd_cg (fun i hi => ?_) _
    rw [a2.1 10 (by decide)]
    exact (t3 i hi).1
  rw [eD] at b1
  have o : ∀ k, k ≠ 12 → σ2.1 k = (ky_u1 σ1 7 5 0).1 k := fun k hk => b2.1 k hk
  refine ⟨σ1, _, _, a1, b1, hS.fr (fun k h3 h4 h7 h11 h12 => ?_) ?_ ?_ ?_, ?_⟩
  · show σ2.1 k = _
    rw [o k h12, ky_u1_ne h7, a2.1 k h4]
  · show σ2.1 3 1 = _
    rw [o 3 (by decide), ky_u1_ne (by decide), a2.1 3 (by decide)]
  · show σ2.1 7 1 = _
    rw [o 7 (by decide), ky_u1_row, a2.1 7 (by decide)]
    rfl
  · show σ2.1 7 3 = _
    rw [o 7 (by decide), ky_u1_row, a2.1 7 (by decide)]
    rfl
  · show σ2.1 15 = _
    rw [o 15 (by decide), ky_u1_ne (by decide), a2.1 15 (by decide)]
end WQ
