/-! ===== pure: the digest ===== -/
section WP
variable {n : Nat} {σ : ky_St} {s : Nat} {Y : pY} {Z : Nat → Int32}
def pFh (g : Nat → Int64 → Int64) : Nat → Int64 → Int64
  | 0, x => x
  | m + 1, x => g m (pFh g m x)
def mx (x : Int64) (v : Int32) : Int64 := (31 : Int64) * x + v.toInt64
def gC (Y : pY) (n h : Nat) (i : Nat) (x : Int64) : Int64 := mx x (if i = 9 then nI h else pCv Y n i)
def gT (Y : pY) (i : Nat) (x : Int64) : Int64 := mx x (Y 1 i)
def gB (Y : pY) (s i : Nat) (x : Int64) : Int64 := if i = 9 then x else mx x (pBv Y s i)
def gU (Y : pY) (s i : Nat) (x : Int64) : Int64 := mx x (pSh Y s 100 (nI i))
def gSet (Y : pY) (s : Nat) (x : Int64) : Int64 := pFh (gU Y s) 6 (mx (pFh (gB Y s) 14 x) (pDue Y s 30))
def gV (Y : pY) (n i w : Nat) (x : Int64) : Int64 := mx x (pSv Y n i w)
def gSite (Y : pY) (n i : Nat) (x : Int64) : Int64 := mx (pFh (gV Y n i) 8 x) (pOp (pBe Y (nI i) n))
def gP (Y : pY) (n i : Nat) (x : Int64) : Int64 := mx x (pPv Y n (i / 5) (i % 5))
def gL (R : Nat → Int32) (i : Nat) (x : Int64) : Int64 := mx x (R i)
theorem qC_mix (x : Int64) (v : Int32) (σ : ky_St) : fX3_mix x v.toInt64 σ = some (mx x v, σ) := rfl
/-! the class -/
theorem dC_U (hs : s < 24) (x : Int64) : ∀ (m i fu : Nat), i + m = 6 → m < fu → fX3_mixSet_L66 fu (nI s) (pFh (gU (pB σ 20) s) i x) (nI i) σ = some (pFh (gU (pB σ 20) s) 6 x, σ) := by
  intro m
  induction m with
  | zero =>
    intro i fu h hf
    obtain ⟨fu, rfl⟩ : ∃ q, fu = q + 1 := ⟨fu - 1, by omega⟩
    have : i = 6 := by omega
    subst this
    rw [fX3_mixSet_L66, if_pos (show (6 : Int32) ≤ nI 6 from nI_le (a := 6) (b := 6) (Nat.le_refl _) (by omega))]
  | succ m ih =>
    intro i fu h hf
    obtain ⟨fu, rfl⟩ : ∃ q, fu = q + 1 := ⟨fu - 1, by omega⟩
    rw [fX3_mixSet_L66, if_neg (show ¬ (6 : Int32) ≤ nI i from nI_ge (a := i) (b := 6) (by omega) (by omega)), ky_bd_s (qC_shareOf hs _ _), ky_bd_s (qC_mix _ _ _), ky_bn_s, nI_1]
    exact ih (i + 1) fu (by omega) (by omega)
theorem dC_B (hT : pT σ) (hV : pV n (pB σ 20)) (hs : s < n) (x : Int64) : ∀ (m i fu : Nat), i + m = 14 → m < fu → fX3_mixSet_L6 fu (nI s) (pFh (gB (pB σ 20) s) i x) (nI i) σ = some (gSet (pB σ 20) s x, σ) := by
  have hn := hV.1
  intro m
  induction m with
  | zero =>
    intro i fu h hf
    obtain ⟨fu, rfl⟩ : ∃ q, fu = q + 1 := ⟨fu - 1, by omega⟩
    have : i = 14 := by omega
    subst this
    rw [fX3_mixSet_L6, if_pos (show (13 : Int32) < nI 14 from by decide), ky_bd_s (qC_hireBill (by omega) _), ky_bd_s (qC_mix _ _ _)]
    exact dC_U (by omega) _ 6 0 FU rfl (by decide)
  | succ m ih =>
    intro i fu h hf
    obtain ⟨fu, rfl⟩ : ∃ q, fu = q + 1 := ⟨fu - 1, by omega⟩
    have hi := ih (i + 1) fu (by omega) (by omega)
    rw [show pFh (gB (pB σ 20) s) (i + 1) x = gB (pB σ 20) s i (pFh (gB (pB σ 20) s) i x) from rfl] at hi
    have c13 : ¬ (13 : Int32) < nI i := nlt_le.mp (show nI i ≤ (13 : Int32) from nI_le (b := 13) (by omega) (by omega))
    rw [fX3_mixSet_L6, if_neg c13]
    unfold gB at hi
    by_cases e9 : i = 9
    · rw [if_pos e9] at hi
      have e : fX3_isBundleWhat (nI i) σ = some (0, σ) := by rw [e9]; rfl
      rw [ky_bd_s e, if_pos rfl, ky_bn_s, nI_1]
      exact hi
    · rw [if_neg e9] at hi
      have e : fX3_isBundleWhat (nI i) σ = some (1, σ) := by
        unfold fX3_isBundleWhat
        rw [if_neg (nI_pos (by omega)), if_neg c13, if_neg (show ¬ nI i = (9 : Int32) from pLit (b := 9) e9 (by omega) (by omega))]
      rw [ky_bd_s e, if_neg (by decide), ky_bd_s (qC_bundleValue hT hV hs (by omega) e9), ky_bd_s (qC_mix _ _ _), ky_bn_s, nI_1]
      exact hi
theorem dC_set (hT : pT σ) (hV : pV n (pB σ 20)) (hs : s < n) (x : Int64) : fX3_mixSet x (nI s) σ = some (gSet (pB σ 20) s x, σ) := dC_B hT hV hs x 14 0 FU rfl (by decide)
theorem dC_V (hV : pV n (pB σ 20)) {k : Nat} (hk : k < 6) (x : Int64) : ∀ (m i fu : Nat), i + m = 8 → m < fu → fX3_mixSite_L6 fu (nI k) (pFh (gV (pB σ 20) n k) i x) (nI i) σ = some (gSite (pB σ 20) n k x, σ) := by
  have hn := hV.1
  intro m
  induction m with
  | zero =>
    intro i fu h hf
    obtain ⟨fu, rfl⟩ : ∃ q, fu = q + 1 := ⟨fu - 1, by omega⟩
    have : i = 8 := by omega
    subst this
    rw [fX3_mixSite_L6, if_pos (show (7 : Int32) < nI 8 from by decide), ky_bd_s (qC_firstDue hn hV.2.1 hk), ky_bd_s (qC_mix _ _ _)]
    rfl
  | succ m ih =>
    intro i fu h hf
    obtain ⟨fu, rfl⟩ : ∃ q, fu = q + 1 := ⟨fu - 1, by omega⟩
    have c7 : ¬ (7 : Int32) < nI i := nlt_le.mp (show nI i ≤ (7 : Int32) from nI_le (b := 7) (by omega) (by omega))
    rw [fX3_mixSite_L6, if_neg c7, ky_bd_s (qC_siteValue hV hk (by omega)), ky_bd_s (qC_mix _ _ _), ky_bn_s, nI_1]
    exact ih (i + 1) fu (by omega) (by omega)
theorem dC_site (hV : pV n (pB σ 20)) {k : Nat} (hk : k < 6) (x : Int64) : fX3_mixSite x (nI k) σ = some (gSite (pB σ 20) n k x, σ) := dC_V hV hk x 8 0 FU rfl (by decide)
theorem dC_text {t : Nat} (ht : t ≤ 60) (e : σ.1 3 1 = nI t) (x : Int64) : ∀ (m i fu : Nat), i + m = t → m < fu → fX3_mixText_L16 fu (pFh (gL (σ.1 6)) i x) (nI i) σ = some (pFh (gL (σ.1 6)) t x, σ) := by
  intro m
  induction m with
  | zero =>
    intro i fu h hf
    obtain ⟨fu, rfl⟩ : ∃ q, fu = q + 1 := ⟨fu - 1, by omega⟩
    have : i = t := by omega
    subst this
    rw [fX3_mixText_L16, e, if_pos (nI_le (Nat.le_refl _) (by omega))]
  | succ m ih =>
    intro i fu h hf
    obtain ⟨fu, rfl⟩ : ∃ q, fu = q + 1 := ⟨fu - 1, by omega⟩
    rw [fX3_mixText_L16, e, if_neg (nI_ge (by omega) (by omega)), ky_bd_s (pa_at (k := 6) (N := 60) rfl (by omega) (by omega) σ), ky_bd_s (qC_mix _ _ _), ky_bn_s, nI_1]
    exact ih (i + 1) fu (by omega) (by omega)
theorem dC_k (hT : pT σ) (hV : pV n (pB σ 20)) (rec108 : Int64 → Int32 → ky_St → Option (Int64 × ky_St)) {k : Nat} (hk : k < 4) (x : Int64) : ∀ (m i fu : Nat), i + m = 5 → m < fu → fX3_digest_L116 rec108 fu (pFh (gP (pB σ 20) n) (5 * k + i) x) (nI k) (nI i) σ = rec108 (pFh (gP (pB σ 20) n) (5 * (k + 1)) x) (nI (k + 1)) σ := by
  intro m
  induction m with
  | zero =>
    intro i fu h hf
    obtain ⟨fu, rfl⟩ : ∃ q, fu = q + 1 := ⟨fu - 1, by omega⟩
    have : i = 5 := by omega
    subst this
    rw [fX3_digest_L116, if_pos (show (4 : Int32) < nI 5 from by decide), ky_bn_s, nI_1]
    rfl
  | succ m ih =>
    intro i fu h hf
    obtain ⟨fu, rfl⟩ : ∃ q, fu = q + 1 := ⟨fu - 1, by omega⟩
    have hi := ih (i + 1) fu (by omega) (by omega)
    rw [show pFh (gP (pB σ 20) n) (5 * k + (i + 1)) x = mx (pFh (gP (pB σ 20) n) (5 * k + i) x) (pPv (pB σ 20) n ((5 * k + i) / 5) ((5 * k + i) % 5)) from rfl, show (5 * k + i) / 5 = k by omega, show (5 * k + i) % 5 = i by omega] at hi
    rw [fX3_digest_L116, if_neg (nlt_le.mp (show nI i ≤ (4 : Int32) from nI_le (b := 4) (by omega) (by omega))), ky_bd_s (qC_partsValue hT hV hk (by omega)), ky_bd_s (qC_mix _ _ _), ky_bn_s, nI_1]
    exact hi
def pEnd (Y : pY) (n t : Nat) (R : Nat → Int32) (x : Int64) : Int64 := pFh (gL R) t (mx ((31 : Int64) * (mx x (pRS Y n).2) + (pShr Y n).toInt64) (nI t))
theorem dC_kinds (hT : pT σ) (hV : pV n (pB σ 20)) {t : Nat} (ht : t ≤ 60) (et : σ.1 3 1 = nI t) (x : Int64) : ∀ (m i fu : Nat), i + m = 4 → m < fu → ∃ σ', fX3_digest_L108 fu (pFh (gP (pB σ 20) n) (5 * i) x) (nI i) σ = some (pEnd (pB σ 20) n t (σ.1 6) (pFh (gP (pB σ 20) n) 20 x), σ') ∧ pF (fun k => k = 4) σ σ' := by
  intro m
  induction m with
  | zero =>
    intro i fu h hf
    obtain ⟨fu, rfl⟩ : ∃ q, fu = q + 1 := ⟨fu - 1, by omega⟩
    have : i = 4 := by omega
    subst this
    obtain ⟨σ1, a1, a2⟩ := qC_ifRepaired hT hV
    have hb : ∀ a, a < 13 → pB σ1 20 a = pB σ 20 a := pB_pF a2 (fun k hk => by subst hk; omega)
    have hV1 : pV n (pB σ1 20) := hV.ir (fun r i hr _ => congrFun (hb r hr) i)
    have es : pShr (pB σ1 20) n = pShr (pB σ 20) n := by unfold pShr pIn; rw [hb 2 (by omega)]
    have e31 : σ1.1 3 1 = nI t := by rw [a2.1 3 (by decide)]; exact et
    have e6 : σ1.1 6 = σ.1 6 := a2.1 6 (by decide)
    have q1 := qC_hiredShare hV1
    rw [es] at q1
    have q2 := dC_text ht e31 (mx ((31 : Int64) * (mx (pFh (gP (pB σ 20) n) 20 x) (pRS (pB σ 20) n).2) + (pShr (pB σ 20) n).toInt64) (nI t)) t 0 FU (by omega) (by show t < 4000; omega)
    rw [e6] at q2
    refine ⟨σ1, ?_, a2⟩
    have mixT : fX3_mixText ((31 : Int64) * (mx (pFh (gP (pB σ 20) n) 20 x) (pRS (pB σ 20) n).2) + (pShr (pB σ 20) n).toInt64) σ1 = some (pEnd (pB σ 20) n t (σ.1 6) (pFh (gP (pB σ 20) n) 20 x), σ1) := by
      unfold fX3_mixText
      rw [e31, ky_bd_s (qC_mix _ _ _)]
      exact q2
    rw [fX3_digest_L108, if_pos (show (4 : Int32) ≤ nI 4 from nI_le (a := 4) (b := 4) (Nat.le_refl _) (by omega)), ky_bd_s a1, ky_bd_s (qC_mix _ _ _), ky_bd_s q1, ky_bd_s (qC_bits hV.1), ky_bd_s (show fX3_mix _ (pShr (pB σ 20) n).toInt64 σ1 = some (_, σ1) from rfl), ky_bd_s mixT]
  | succ m ih =>
    intro i fu h hf
    obtain ⟨fu, rfl⟩ : ∃ q, fu = q + 1 := ⟨fu - 1, by omega⟩
    obtain ⟨σ', q1, q2⟩ := ih (i + 1) fu (by omega) (by omega)
    refine ⟨σ', ?_, q2⟩
    rw [fX3_digest_L108, if_neg (show ¬ (4 : Int32) ≤ nI i from nI_ge (a := i) (b := 4) (by omega) (by omega))]
    have := dC_k hT hV (fX3_digest_L108 fu) (k := i) (by omega) x 5 0 FU rfl (by decide)
    exact this.trans q1
theorem dC_sites (hV : pV n (pB σ 20)) (x : Int64) : ∀ (m i fu : Nat), i + m = 6 → m < fu → fX3_digest_L87 fu (pFh (gSite (pB σ 20) n) i x) (nI i) σ = fX3_digest_L108 FU (pFh (gSite (pB σ 20) n) 6 x) 0 σ := by
  intro m
  induction m with
  | zero =>
    intro i fu h hf
    obtain ⟨fu, rfl⟩ : ∃ q, fu = q + 1 := ⟨fu - 1, by omega⟩
    have : i = 6 := by omega
    subst this
    rw [fX3_digest_L87, if_pos (show (6 : Int32) ≤ nI 6 from nI_le (a := 6) (b := 6) (Nat.le_refl _) (by omega))]
  | succ m ih =>
    intro i fu h hf
    obtain ⟨fu, rfl⟩ : ∃ q, fu = q + 1 := ⟨fu - 1, by omega⟩
    rw [fX3_digest_L87, if_neg (show ¬ (6 : Int32) ≤ nI i from nI_ge (a := i) (b := 6) (by omega) (by omega)), ky_bd_s (dC_site hV (by omega) _), ky_bn_s, nI_1]
    exact ih (i + 1) fu (by omega) (by omega)
theorem dC_sets (hT : pT σ) (hV : pV n (pB σ 20)) (x : Int64) : ∀ (m i fu : Nat), i + m = n → m < fu → fX3_digest_L61 fu (pFh (gSet (pB σ 20)) i x) (nI i) σ = fX3_digest_L87 FU (pFh (gSet (pB σ 20)) n x) 0 σ := by
  have hn := hV.1
  have h0 : σ.1 20 0 = nI n := hV.2.1
  intro m
  induction m with
  | zero =>
    intro i fu h hf
    obtain ⟨fu, rfl⟩ : ∃ q, fu = q + 1 := ⟨fu - 1, by omega⟩
    have : i = n := by omega
    subst this
    rw [fX3_digest_L61, h0, if_pos (nI_le (Nat.le_refl _) (by omega))]
  | succ m ih =>
    intro i fu h hf
    obtain ⟨fu, rfl⟩ : ∃ q, fu = q + 1 := ⟨fu - 1, by omega⟩
    rw [fX3_digest_L61, h0, if_neg (nI_ge (by omega) (by omega)), ky_bd_s (dC_set hT hV (by omega) _), ky_bn_s, nI_1]
    exact ih (i + 1) fu (by omega) (by omega)
theorem dC_settings (x : Int64) : ∀ (m i fu : Nat), i + m = 2 → m < fu → fX3_digest_L31 fu (pFh (gT (pB σ 20)) i x) (nI i) σ = fX3_digest_L61 FU (pFh (gT (pB σ 20)) 2 x) 0 σ := by
  intro m
  induction m with
  | zero =>
    intro i fu h hf
    obtain ⟨fu, rfl⟩ : ∃ q, fu = q + 1 := ⟨fu - 1, by omega⟩
    have : i = 2 := by omega
    subst this
    rw [fX3_digest_L31, if_pos (show (2 : Int32) ≤ nI 2 from nI_le (a := 2) (b := 2) (Nat.le_refl _) (by omega))]
  | succ m ih =>
    intro i fu h hf
    obtain ⟨fu, rfl⟩ : ∃ q, fu = q + 1 := ⟨fu - 1, by omega⟩
    rw [fX3_digest_L31, if_neg (show ¬ (2 : Int32) ≤ nI i from nI_ge (a := i) (b := 2) (by omega) (by omega)), ky_bd_s (pa_at (k := 21) (N := 2) rfl (by omega) (by omega) σ), ky_bd_s (qC_mix _ _ _), ky_bn_s, nI_1]
    exact ih (i + 1) fu (by omega) (by omega)
theorem qC_cv (hT : pT σ) (hV : pV n (pB σ 20)) {h : Nat} (eh : σ.1 2 1 = nI h) {i : Nat} (hi : i < 10) : fX3_countValue (nI i) σ = some (if i = 9 then nI h else pCv (pB σ 20) n i, σ) := by
  unfold fX3_countValue
  by_cases e9 : i = 9
  · subst e9
    rw [if_pos rfl, if_pos (show nI 9 = (9 : Int32) from rfl), eh]
  · rw [if_neg e9, if_neg (show ¬ nI i = (9 : Int32) from pLit (b := 9) e9 (by omega) (by omega)), ky_bd_s (qC_countValue hT hV (by omega))]
theorem dC_counts (hT : pT σ) (hV : pV n (pB σ 20)) {h : Nat} (eh : σ.1 2 1 = nI h) (x : Int64) : ∀ (m i fu : Nat), i + m = 10 → m < fu → fX3_digest_L6 fu (pFh (gC (pB σ 20) n h) i x) (nI i) σ = fX3_digest_L31 FU (pFh (gC (pB σ 20) n h) 10 x) 0 σ := by
  intro m
  induction m with
  | zero =>
    intro i fu h hf
    obtain ⟨fu, rfl⟩ : ∃ q, fu = q + 1 := ⟨fu - 1, by omega⟩
    have : i = 10 := by omega
    subst this
    rw [fX3_digest_L6, if_pos (show (9 : Int32) < nI 10 from by decide)]
  | succ m ih =>
    intro i fu h hf
    obtain ⟨fu, rfl⟩ : ∃ q, fu = q + 1 := ⟨fu - 1, by omega⟩
    rw [fX3_digest_L6, if_neg (nlt_le.mp (show nI i ≤ (9 : Int32) from nI_le (b := 9) (by omega) (by omega))), ky_bd_s (qC_cv hT hV eh (by omega)), ky_bd_s (qC_mix _ _ _), ky_bn_s, nI_1]
    exact ih (i + 1) fu (by omega) (by omega)
def pDig (Y : pY) (n h t : Nat) (R : Nat → Int32) : Int64 := pEnd Y n t R (pFh (gP Y n) 20 (pFh (gSite Y n) 6 (pFh (gSet Y) n (pFh (gT Y) 2 (pFh (gC Y n h) 10 2549)))))
theorem dC_kinds0 (hT : pT σ) (hV : pV n (pB σ 20)) {t : Nat} (ht : t ≤ 60) (et : σ.1 3 1 = nI t) (x : Int64) : ∃ σ', fX3_digest_L108 FU x 0 σ = some (pEnd (pB σ 20) n t (σ.1 6) (pFh (gP (pB σ 20) n) 20 x), σ') ∧ pF (fun k => k = 4) σ σ' := dC_kinds hT hV ht et x 4 0 FU rfl (by decide)
theorem dC_sites0 (hV : pV n (pB σ 20)) (x : Int64) : fX3_digest_L87 FU x 0 σ = fX3_digest_L108 FU (pFh (gSite (pB σ 20) n) 6 x) 0 σ := dC_sites hV x 6 0 FU rfl (by decide)
theorem dC_sets0 (hT : pT σ) (hV : pV n (pB σ 20)) (x : Int64) : fX3_digest_L61 FU x 0 σ = fX3_digest_L87 FU (pFh (gSet (pB σ 20)) n x) 0 σ := dC_sets hT hV x n 0 FU (by omega) (by have := hV.1; show n < 4000; omega)
theorem dC_settings0 (x : Int64) : fX3_digest_L31 FU x 0 σ = fX3_digest_L61 FU (pFh (gT (pB σ 20)) 2 x) 0 σ := dC_settings x 2 0 FU rfl (by decide)
theorem dC_counts0 (hT : pT σ) (hV : pV n (pB σ 20)) {h : Nat} (eh : σ.1 2 1 = nI h) (x : Int64) : fX3_digest_L6 FU x 0 σ = fX3_digest_L31 FU (pFh (gC (pB σ 20) n h) 10 x) 0 σ := dC_counts hT hV eh x 10 0 FU rfl (by decide)
theorem qC_digest (hT : pT σ) (hV : pV n (pB σ 20)) {h t : Nat} (eh : σ.1 2 1 = nI h) (ht : t ≤ 60) (et : σ.1 3 1 = nI t) : ∃ σ', fX3_digest σ = some (pDig (pB σ 20) n h t (σ.1 6), σ') ∧ pF (fun k => k = 4) σ σ' := by
  unfold fX3_digest pDig
  rw [dC_counts0 hT hV eh, dC_settings0, dC_sets0 hT hV, dC_sites0 hV]
  exact dC_kinds0 hT hV ht et _
end WP
