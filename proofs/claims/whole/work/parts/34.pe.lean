/-! ===== pure: more questions of the model ===== -/
section PE
variable {n : Nat} {σ : ky_St} {s : Nat} {Y : pY}
theorem pr_7 {k : Nat} (hk : k < 4) : ((7 : Int32) + nI k).toNatClampNeg = 7 + k ∧ ¬ (((7 : Int32) + nI k) < 0 ∨ 283 ≤ ((7 : Int32) + nI k).toNatClampNeg) := by
  rw [show (7 : Int32) + nI k = nI (7 + k) from nI_add 7 k]
  exact ⟨nI_clamp (by omega), nI_in (by omega) (by omega)⟩
theorem pr_11 {k : Nat} (hk : k < 4) : ((11 : Int32) + nI k).toNatClampNeg = 11 + k ∧ ¬ (((11 : Int32) + nI k) < 0 ∨ 283 ≤ ((11 : Int32) + nI k).toNatClampNeg) := by
  rw [show (11 : Int32) + nI k = nI (11 + k) from nI_add 11 k]
  exact ⟨nI_clamp (by omega), nI_in (by omega) (by omega)⟩
theorem pr_15 {k : Nat} (hk : k < 4) : ((15 : Int32) + nI k).toNatClampNeg = 15 + k ∧ ¬ (((15 : Int32) + nI k) < 0 ∨ 283 ≤ ((15 : Int32) + nI k).toNatClampNeg) := by
  rw [show (15 : Int32) + nI k = nI (15 + k) from nI_add 15 k]
  exact ⟨nI_clamp (by omega), nI_in (by omega) (by omega)⟩
theorem qM_hasSo (hR : pR n Y (σ.1 8)) (hs : s < n) {k : Nat} (hk : k < 4) (m : Int32) : fX4_hasSo (nI s) (nI k) m σ = some (if Y 6 (4 * s + k) < m then 0 else 1, σ) := by
  unfold fX4_hasSo
  rw [ky_bd_s (qM_k hR hs hk)]
  by_cases h : Y 6 (4 * s + k) < m
  · rw [if_pos h, if_pos h]
  · rw [if_neg h, if_neg h]
theorem qM_dueIn (hR : pR n Y (σ.1 8)) (hs : s < n) (d : Int32) : fX4_dueIn (nI s) d σ = some (pDue Y s d, σ) := by
  unfold fX4_dueIn pDue
  rw [ky_g_s (by decide), ky_bd_s (qM_c hR hs), ky_bn_s, ky_bd_s (qM_isInYard hR hs), qM_z2 hR]
  by_cases h : Y 2 s = -1
  · rw [bI_t h, if_neg (by decide), if_pos h]
  · rw [bI_f h, if_pos rfl, if_neg h, ky_g_s (by decide), qM_z0 hR, qM_z1 hR]
    by_cases h2 : Y 0 1 + d - Y 3 s < Y 1 0
    · rw [if_neg (fun q => (nlt_le.mp q) h2), if_pos h2, ky_g_s (by decide), ky_g_s (by decide)]
    · rw [if_pos (nlt_le.mpr h2), if_neg h2, ky_g_s (by decide)]
theorem qM_canHire (hR : pR n Y (σ.1 8)) (m : Int32) : fX4_canHire m σ = some (if pIW Y n < m then 0 else 1, σ) := by
  unfold fX4_canHire
  rw [ky_bd_s (qM_inYard1 hR)]
  by_cases h : pIW Y n < m
  · rw [if_pos h, if_pos h]
  · rw [if_neg h, if_neg h]
theorem qM_canMove (hR : pR n Y (σ.1 8)) (hs : s < n) (x : Int32) : fX4_canMove (nI s) x σ = some (if Y 2 s = -1 then 0 else if Y 2 s = x then 0 else 1, σ) := by
  unfold fX4_canMove
  rw [ky_bd_s (qM_isInYard hR hs)]
  by_cases h : Y 2 s = -1
  · rw [bI_t h, if_neg (by decide), if_pos h]
  · rw [bI_f h, if_pos rfl, if_neg h, ky_bd_s (qM_w hR hs)]
    by_cases h2 : Y 2 s = x
    · rw [if_pos h2, if_pos h2]
    · rw [if_neg h2, if_neg h2]
theorem qM_canPass (hR : pR n Y (σ.1 8)) (d : Int32) : fX4_canPass d σ = some (if 9999 < Y 0 1 + d then 0 else 1, σ) := by
  unfold fX4_canPass
  rw [ky_g_s (by decide), qM_z2 hR]
  by_cases h : 9999 < Y 0 1 + d
  · rw [if_pos h, if_pos h]
  · rw [if_neg h, if_neg h]
theorem qM_s0 (hR : pR n Y (σ.1 8)) {x : Nat} (hx : x < 6) : fX4_ofSite (nI x) (0 : Int32) σ = some (Y 9 x, σ) := by
  rw [show fX4_ofSite (nI x) (0 : Int32) σ = some (σ.1 8 (19 + 4 * x), σ) from pa_ofSite (w := 0) rfl rfl rfl (by omega) σ]
  exact congrArg (fun z => some (z, σ)) (hR.2.1 9 x hx)
theorem qM_s1 (hR : pR n Y (σ.1 8)) {x : Nat} (hx : x < 6) : fX4_ofSite (nI x) (1 : Int32) σ = some (Y 10 x, σ) := by
  rw [show fX4_ofSite (nI x) (1 : Int32) σ = some (σ.1 8 (20 + 4 * x), σ) from pa_ofSite (w := 1) rfl rfl (by omega) (by omega) σ]
  exact congrArg (fun z => some (z, σ)) (hR.2.1 10 x hx)
theorem qM_s2 (hR : pR n Y (σ.1 8)) {x : Nat} (hx : x < 6) : fX4_ofSite (nI x) (2 : Int32) σ = some (Y 11 x, σ) := by
  rw [show fX4_ofSite (nI x) (2 : Int32) σ = some (σ.1 8 (21 + 4 * x), σ) from pa_ofSite (w := 2) rfl rfl (by omega) (by omega) σ]
  exact congrArg (fun z => some (z, σ)) (hR.2.1 11 x hx)
theorem qM_s3 (hR : pR n Y (σ.1 8)) {x : Nat} (hx : x < 6) : fX4_ofSite (nI x) (3 : Int32) σ = some (Y 12 x, σ) := by
  rw [show fX4_ofSite (nI x) (3 : Int32) σ = some (σ.1 8 (22 + 4 * x), σ) from pa_ofSite (w := 3) rfl rfl (by omega) (by omega) σ]
  exact congrArg (fun z => some (z, σ)) (hR.2.1 12 x hx)
theorem qM_billedTo (hR : pR n Y (σ.1 8)) {x : Nat} (hx : x < 6) : fX4_billedTo (nI x) σ = some (pBd Y x, σ) := by
  unfold fX4_billedTo
  rw [ky_bd_s (qM_s0 hR hx), ky_bd_s (qM_s1 hR hx), ky_bd_s (qM_s2 hR hx)]
  rfl
theorem qM_owedBy (hR : pR n Y (σ.1 8)) {x : Nat} (hx : x < 6) : fX4_owedBy (nI x) σ = some (pOw Y x, σ) := by
  unfold fX4_owedBy
  rw [ky_bd_s (qM_billedTo hR hx), ky_bd_s (qM_s3 hR hx)]
  rfl
theorem qM_L68 (hR : pR n Y (σ.1 8)) {i : Nat} (hi : i < n) (rec5 : Int32 → Int32 → Int32 → Int32 → ky_St → Option (Int32 × ky_St)) (x w acc y : Int32) : fX4_sumOnSite_L68 rec5 x w acc (nI i) y σ = rec5 x w (acc + (if Y 2 i = x then y else 0)) (nI (i + 1)) σ := by
  unfold fX4_sumOnSite_L68
  rw [ky_bd_s (qM_w hR hi)]
  by_cases h : Y 2 i = x
  · rw [if_pos h, if_pos h, ky_bn_s, ky_bn_s, nI_1]
  · rw [if_neg h, if_neg h, ky_bn_s, ky_bn_s, nI_1]
/-- one of the sums over the sets on a site -/
def pOne (Y : pY) (w i : Nat) : Int32 := if w = 0 then 1 else if w = 6 then pDue Y i 0 else bI (Y 0 1 - Y 3 i < Y 1 0)
theorem qM_sum_L (hR : pR n Y (σ.1 8)) {w : Nat} (hw : w < 8) (x : Int32) : ∀ (m i fu : Nat), i + m = n → m < fu → fX4_sumOnSite_L5 fu x (nI w) (pS (fun j => if Y 2 j = x then pOne Y w j else 0) i) (nI i) σ = some (pS (fun j => if Y 2 j = x then pOne Y w j else 0) n, σ) := by
  have hn := hR.1.1
  intro m
  induction m with
  | zero =>
    intro i fu h hf
    obtain ⟨fu, rfl⟩ : ∃ q, fu = q + 1 := ⟨fu - 1, by omega⟩
    have : i = n := by omega
    subst this
    rw [fX4_sumOnSite_L5, ky_g_s (by decide), qM_z3 hR, if_pos (nI_le (Nat.le_refl _) (by omega))]
  | succ m ih =>
    intro i fu h hf
    obtain ⟨fu, rfl⟩ : ∃ q, fu = q + 1 := ⟨fu - 1, by omega⟩
    rw [fX4_sumOnSite_L5, ky_g_s (by decide), qM_z3 hR, if_neg (nI_ge (by omega) (by omega))]
    have hi := ih (i + 1) fu (by omega) (by omega)
    rw [show pS (fun j => if Y 2 j = x then pOne Y w j else 0) (i + 1) = pS (fun j => if Y 2 j = x then pOne Y w j else 0) i + (if Y 2 i = x then pOne Y w i else 0) from rfl] at hi
    have key : ∀ y, y = pOne Y w i → fX4_sumOnSite_L68 (fX4_sumOnSite_L5 fu) x (nI w) (pS (fun j => if Y 2 j = x then pOne Y w j else 0) i) (nI i) y σ = some (pS (fun j => if Y 2 j = x then pOne Y w j else 0) n, σ) := by
      intro y hy
      subst hy
      rw [qM_L68 hR (by omega)]
      exact hi
    by_cases h0 : w = 0
    · subst h0
      rw [if_pos (show nI 0 = (0 : Int32) from rfl)]
      exact key 1 rfl
    · rw [if_neg (show ¬ nI w = (0 : Int32) from fun e => h0 ((nI_eq (b := 0) (by omega) (by omega)).mp e))]
      by_cases h6 : w = 6
      · subst h6
        rw [if_pos (show nI 6 = (6 : Int32) from rfl), ky_bd_s (qM_dueIn hR (by omega) 0)]
        exact key _ rfl
      · rw [if_neg (show ¬ nI w = (6 : Int32) from fun e => h6 ((nI_eq (b := 6) (by omega) (by omega)).mp e)), ky_g_s (by decide), ky_bd_s (qM_c hR (by omega)), ky_g_s (by decide), qM_z0 hR, qM_z2 hR]
        by_cases hz : Y 0 1 - Y 3 i < Y 1 0
        · rw [if_neg (fun q => (nlt_le.mp q) hz)]
          exact key 1 (by unfold pOne; rw [if_neg h0, if_neg h6, bI_t hz])
        · rw [if_pos (nlt_le.mpr hz)]
          exact key 0 (by unfold pOne; rw [if_neg h0, if_neg h6, bI_f hz])
theorem qM_sum (hR : pR n Y (σ.1 8)) {w : Nat} (hw : w < 8) (x : Int32) : fX4_sumOnSite x (nI w) σ = some (pS (fun j => if Y 2 j = x then pOne Y w j else 0) n, σ) := by
  unfold fX4_sumOnSite
  exact qM_sum_L hR hw x n 0 FU (by omega) (by have := hR.1.1; show n < 4000; omega)
theorem qM_siteNow (hR : pR n Y (σ.1 8)) {x : Nat} (hx : x < 6) {w : Nat} (hw : w < 8) : fX4_siteNow (nI x) (nI w) σ = some (pSv Y n x w, σ) := by
  have hz : w = 0 ∨ w = 1 ∨ w = 2 ∨ w = 3 ∨ w = 4 ∨ w = 5 ∨ w = 6 ∨ w = 7 := by omega
  unfold fX4_siteNow
  rcases hz with rfl | rfl | rfl | rfl | rfl | rfl | rfl | rfl
  · rw [if_neg (by decide), if_neg (by decide), if_neg (by decide), if_neg (by decide), if_neg (by decide), ky_bd_s (qM_sum hR (by omega) _)]
    exact congrArg (fun z => some (z, σ)) (pS_congr n (fun i _ => rfl))
  · rw [if_pos (by decide), ky_bd_s (qM_owedBy hR hx)]; rfl
  · rw [if_neg (by decide), if_pos (by decide), ky_bd_s (show fX4_ofSite (nI x) (nI 2 - 2) σ = _ from qM_s0 hR hx)]; rfl
  · rw [if_neg (by decide), if_neg (by decide), if_pos (by decide), ky_bd_s (show fX4_ofSite (nI x) (nI 3 - 2) σ = _ from qM_s1 hR hx)]; rfl
  · rw [if_neg (by decide), if_neg (by decide), if_neg (by decide), if_pos (by decide), ky_bd_s (show fX4_ofSite (nI x) (nI 4 - 2) σ = _ from qM_s2 hR hx)]; rfl
  · rw [if_neg (by decide), if_neg (by decide), if_neg (by decide), if_neg (by decide), if_pos (by decide), ky_bd_s (show fX4_ofSite (nI x) (nI 5 - 2) σ = _ from qM_s3 hR hx)]; rfl
  · rw [if_neg (by decide), if_neg (by decide), if_neg (by decide), if_neg (by decide), if_neg (by decide), ky_bd_s (qM_sum hR (by omega) _)]
    rfl
  · rw [if_neg (by decide), if_neg (by decide), if_neg (by decide), if_neg (by decide), if_neg (by decide), ky_bd_s (qM_sum hR (by omega) _)]
    rfl
theorem qM_inSets_L (hR : pR n Y (σ.1 8)) {k : Nat} (hk : k < 4) : ∀ (m i fu : Nat), i + m = n → m < fu → fX4_inSets_L4 fu (nI k) (pIS Y k i) (nI i) σ = some (pIS Y k n, σ) := by
  have hn := hR.1.1
  intro m
  induction m with
  | zero =>
    intro i fu h hf
    obtain ⟨fu, rfl⟩ : ∃ q, fu = q + 1 := ⟨fu - 1, by omega⟩
    have : i = n := by omega
    subst this
    rw [fX4_inSets_L4, ky_g_s (by decide), qM_z3 hR, if_pos (nI_le (Nat.le_refl _) (by omega))]
  | succ m ih =>
    intro i fu h hf
    obtain ⟨fu, rfl⟩ : ∃ q, fu = q + 1 := ⟨fu - 1, by omega⟩
    rw [fX4_inSets_L4, ky_g_s (by decide), qM_z3 hR, if_neg (nI_ge (by omega) (by omega)), ky_bd_s (qM_k hR (by omega) hk), ky_bn_s, ky_bn_s, nI_1]
    exact ih (i + 1) fu (by omega) (by omega)
theorem qM_inSets (hR : pR n Y (σ.1 8)) {k : Nat} (hk : k < 4) : fX4_inSets (nI k) σ = some (pIS Y k n, σ) := by
  unfold fX4_inSets
  exact qM_inSets_L hR hk n 0 FU (by omega) (by have := hR.1.1; show n < 4000; omega)
theorem qM_partNow (hR : pR n Y (σ.1 8)) {k : Nat} (hk : k < 4) {w : Nat} (hw : w < 5) : fX4_partNow (nI k) (nI w) σ = some (pPv Y n k w, σ) := by
  have hz : w = 0 ∨ w = 1 ∨ w = 2 ∨ w = 3 ∨ w = 4 := by omega
  unfold fX4_partNow
  rcases hz with rfl | rfl | rfl | rfl | rfl
  · rw [if_pos (by decide), ky_bd_s (qM_inSets hR hk)]; rfl
  · rw [if_neg (by decide), if_pos (by decide), ky_g_s (pr_7 hk).2, (pr_7 hk).1]
    exact congrArg (fun z => some (z, σ)) (hR.2.1 7 k hk)
  · rw [if_neg (by decide), if_neg (by decide), if_pos (by decide), ky_g_s (pr_11 hk).2, (pr_11 hk).1]
    exact congrArg (fun z => some (z, σ)) (hR.2.1 8 k hk)
  · rw [if_neg (by decide), if_neg (by decide), if_neg (by decide), if_pos (by decide), ky_g_s (pr_15 hk).2, (pr_15 hk).1]
    exact congrArg (fun z => some (z, σ)) (hR.2.2 k hk)
  · rw [if_neg (by decide), if_neg (by decide), if_neg (by decide), if_neg (by decide), ky_bd_s (qM_wholeOf hk), ky_g_s (by decide), ky_bd_s (qM_inSets hR hk), qM_z3 hR]
    refine congrArg (fun z => some (z, σ)) ?_
    show pWi k * nI n - pIS Y k n = nI n * pWi k - pIS Y k n
    rw [Int32.mul_comm]
theorem qM_billedToAll_L (hR : pR n Y (σ.1 8)) : ∀ (m i fu : Nat), i + m = 6 → m < fu → fX4_billedToAll_L4 fu (pS (pBd Y) i) (nI i) σ = some (pS (pBd Y) 6, σ) := by
  intro m
  induction m with
  | zero =>
    intro i fu h hf
    obtain ⟨fu, rfl⟩ : ∃ q, fu = q + 1 := ⟨fu - 1, by omega⟩
    have : i = 6 := by omega
    subst this
    rw [fX4_billedToAll_L4, if_pos (show (6 : Int32) ≤ nI 6 from nI_le (a := 6) (b := 6) (Nat.le_refl _) (by omega))]
  | succ m ih =>
    intro i fu h hf
    obtain ⟨fu, rfl⟩ : ∃ q, fu = q + 1 := ⟨fu - 1, by omega⟩
    rw [fX4_billedToAll_L4, if_neg (show ¬ (6 : Int32) ≤ nI i from nI_ge (a := i) (b := 6) (by omega) (by omega)), ky_bd_s (qM_billedTo hR (by omega)), ky_bn_s, ky_bn_s, nI_1]
    exact ih (i + 1) fu (by omega) (by omega)
theorem qM_paidByAll_L (hR : pR n Y (σ.1 8)) : ∀ (m i fu : Nat), i + m = 6 → m < fu → fX4_paidByAll_L4 fu (pS (Y 12) i) (nI i) σ = some (pS (Y 12) 6, σ) := by
  intro m
  induction m with
  | zero =>
    intro i fu h hf
    obtain ⟨fu, rfl⟩ : ∃ q, fu = q + 1 := ⟨fu - 1, by omega⟩
    have : i = 6 := by omega
    subst this
    rw [fX4_paidByAll_L4, if_pos (show (6 : Int32) ≤ nI 6 from nI_le (a := 6) (b := 6) (Nat.le_refl _) (by omega))]
  | succ m ih =>
    intro i fu h hf
    obtain ⟨fu, rfl⟩ : ∃ q, fu = q + 1 := ⟨fu - 1, by omega⟩
    rw [fX4_paidByAll_L4, if_neg (show ¬ (6 : Int32) ≤ nI i from nI_ge (a := i) (b := 6) (by omega) (by omega)), ky_bd_s (qM_s3 hR (by omega)), ky_bn_s, ky_bn_s, nI_1]
    exact ih (i + 1) fu (by omega) (by omega)
theorem qM_counted (hR : pR n Y (σ.1 8)) {w : Nat} (hw : w < 10) : fX4_counted (nI w) σ = some (if w = 9 then σ.1 7 1 else pCv Y n w, σ) := by
  have hz : w = 0 ∨ w = 1 ∨ w = 2 ∨ w = 3 ∨ w = 4 ∨ w = 5 ∨ w = 6 ∨ w = 7 ∨ w = 8 ∨ w = 9 := by omega
  unfold fX4_counted
  rcases hz with rfl | rfl | rfl | rfl | rfl | rfl | rfl | rfl | rfl | rfl
  · rw [if_pos (by decide), ky_g_s (by decide), qM_z3 hR]; rfl
  · rw [if_neg (by decide), if_pos (by decide), ky_bd_s (qM_inYard0 hR)]; rfl
  · rw [if_neg (by decide), if_neg (by decide), if_pos (by decide), ky_bd_s (qM_inYard1 hR)]; rfl
  · rw [if_neg (by decide), if_neg (by decide), if_neg (by decide), if_pos (by decide), ky_g_s (by decide), qM_z2 hR]; rfl
  · rw [if_neg (by decide), if_neg (by decide), if_neg (by decide), if_neg (by decide), if_pos (by decide), ky_bd_s (show fX4_billedToAll σ = _ from qM_billedToAll_L hR 6 0 FU (by omega) (by decide))]; rfl
  · rw [if_neg (by decide), if_neg (by decide), if_neg (by decide), if_neg (by decide), if_neg (by decide), if_pos (by decide), ky_bd_s (show fX4_paidByAll σ = _ from qM_paidByAll_L hR 6 0 FU (by omega) (by decide))]; rfl
  · rw [if_neg (by decide), if_neg (by decide), if_neg (by decide), if_neg (by decide), if_neg (by decide), if_neg (by decide), if_pos (by decide), ky_g_s (by decide), show (4 : Int32) + nI 6 - 6 = 4 by decide, qM_z4 hR]; rfl
  · rw [if_neg (by decide), if_neg (by decide), if_neg (by decide), if_neg (by decide), if_neg (by decide), if_neg (by decide), if_neg (by decide), if_pos (by decide), ky_g_s (by decide), show (4 : Int32) + nI 7 - 6 = 5 by decide, qM_z5 hR]; rfl
  · rw [if_neg (by decide), if_neg (by decide), if_neg (by decide), if_neg (by decide), if_neg (by decide), if_neg (by decide), if_neg (by decide), if_neg (by decide), if_pos (by decide), ky_g_s (by decide), show (4 : Int32) + nI 8 - 6 = 6 by decide, qM_z6 hR]; rfl
  · rw [if_neg (by decide), if_neg (by decide), if_neg (by decide), if_neg (by decide), if_neg (by decide), if_neg (by decide), if_neg (by decide), if_neg (by decide), if_neg (by decide), if_pos (by decide)]; rfl
theorem qM_bundleNow (hR : pR n Y (σ.1 8)) (hs : s < n) {w : Nat} (hw : w < 14) (h9 : w ≠ 9) : fX4_bundleNow (nI s) (nI w) σ = some (pBv Y s w, σ) := by
  have hz : w = 0 ∨ w = 1 ∨ w = 2 ∨ w = 3 ∨ w = 4 ∨ w = 5 ∨ w = 6 ∨ w = 7 ∨ w = 8 ∨ w = 10 ∨ w = 11 ∨ w = 12 ∨ w = 13 := by omega
  unfold fX4_bundleNow
  rcases hz with rfl | rfl | rfl | rfl | rfl | rfl | rfl | rfl | rfl | rfl | rfl | rfl | rfl
  · rw [if_pos (by decide), ky_bd_s (show fX4_of (nI s) (nI 0) σ = _ from qM_w hR hs)]; rfl
  · rw [if_neg (by decide), if_pos (by decide), ky_bd_s (show fX4_of (nI s) (nI 1) σ = _ from qM_c hR hs)]; rfl
  · rw [if_neg (by decide), if_neg (by decide), if_pos (by decide), ky_bd_s (qM_isWhole hR hs)]
    by_cases h : pWb Y s = true
    · rw [if_pos h, if_neg (by decide)]; unfold pBv; rw [if_neg (by decide), if_neg (by decide), if_pos rfl, if_pos h]
    · rw [if_neg h, if_pos rfl]; unfold pBv; rw [if_neg (by decide), if_neg (by decide), if_pos rfl, if_neg h]
  · rw [if_neg (by decide), if_neg (by decide), if_neg (by decide), if_pos (by decide), ky_bd_s (qM_partsOf hR hs)]; rfl
  · rw [if_neg (by decide), if_neg (by decide), if_neg (by decide), if_neg (by decide), if_pos (by decide), show (6 : Int32) + nI 4 - 4 = 6 + nI 0 by decide, ky_bd_s (qM_u (u := 0) hR hs (by omega))]; rfl
  · rw [if_neg (by decide), if_neg (by decide), if_neg (by decide), if_neg (by decide), if_neg (by decide), if_pos (by decide), show (6 : Int32) + nI 5 - 4 = 6 + nI 1 by decide, ky_bd_s (qM_u (u := 1) hR hs (by omega))]; rfl
  · rw [if_neg (by decide), if_neg (by decide), if_neg (by decide), if_neg (by decide), if_neg (by decide), if_neg (by decide), if_pos (by decide), show (6 : Int32) + nI 6 - 4 = 6 + nI 2 by decide, ky_bd_s (qM_u (u := 2) hR hs (by omega))]; rfl
  · rw [if_neg (by decide), if_neg (by decide), if_neg (by decide), if_neg (by decide), if_neg (by decide), if_neg (by decide), if_neg (by decide), if_pos (by decide), ky_bd_s (qM_dueIn hR hs 0)]; rfl
  · rw [if_neg (by decide), if_neg (by decide), if_neg (by decide), if_neg (by decide), if_neg (by decide), if_neg (by decide), if_neg (by decide), if_neg (by decide), if_pos (by decide), ky_bd_s (qM_t hR hs)]; rfl
  · rw [if_neg (by decide), if_neg (by decide), if_neg (by decide), if_neg (by decide), if_neg (by decide), if_neg (by decide), if_neg (by decide), if_neg (by decide), if_neg (by decide), show (2 : Int32) + nI 10 - 10 = 2 + nI 0 by decide, ky_bd_s (qM_k (k := 0) hR hs (by omega))]; rfl
  · rw [if_neg (by decide), if_neg (by decide), if_neg (by decide), if_neg (by decide), if_neg (by decide), if_neg (by decide), if_neg (by decide), if_neg (by decide), if_neg (by decide), show (2 : Int32) + nI 11 - 10 = 2 + nI 1 by decide, ky_bd_s (qM_k (k := 1) hR hs (by omega))]; rfl
  · rw [if_neg (by decide), if_neg (by decide), if_neg (by decide), if_neg (by decide), if_neg (by decide), if_neg (by decide), if_neg (by decide), if_neg (by decide), if_neg (by decide), show (2 : Int32) + nI 12 - 10 = 2 + nI 2 by decide, ky_bd_s (qM_k (k := 2) hR hs (by omega))]; rfl
  · rw [if_neg (by decide), if_neg (by decide), if_neg (by decide), if_neg (by decide), if_neg (by decide), if_neg (by decide), if_neg (by decide), if_neg (by decide), if_neg (by decide), show (2 : Int32) + nI 13 - 10 = 2 + nI 3 by decide, ky_bd_s (qM_k (k := 3) hR hs (by omega))]; rfl
theorem qM_splitNow_L (hR : pR n Y (σ.1 8)) (hs : s < n) (c x : Int32) : ∀ (m i fu : Nat), i + m = 3 → m < fu → fX4_splitNow_L6 fu (nI s) c x (pS (fun u => if Y 5 (3 * s + u) = x then pSu Y s u c else 0) i) (nI i) σ = some (pS (fun u => if Y 5 (3 * s + u) = x then pSu Y s u c else 0) 3, σ) := by
  intro m
  induction m with
  | zero =>
    intro i fu h hf
    obtain ⟨fu, rfl⟩ : ∃ q, fu = q + 1 := ⟨fu - 1, by omega⟩
    have : i = 3 := by omega
    subst this
    rw [fX4_splitNow_L6, if_pos (show (3 : Int32) ≤ nI 3 from nI_le (a := 3) (b := 3) (Nat.le_refl _) (by omega))]
  | succ m ih =>
    intro i fu h hf
    obtain ⟨fu, rfl⟩ : ∃ q, fu = q + 1 := ⟨fu - 1, by omega⟩
    rw [fX4_splitNow_L6, if_neg (show ¬ (3 : Int32) ≤ nI i from nI_ge (a := i) (b := 3) (by omega) (by omega)), ky_bd_s (qM_u hR hs (by omega))]
    have hi := ih (i + 1) fu (by omega) (by omega)
    rw [show pS (fun u => if Y 5 (3 * s + u) = x then pSu Y s u c else 0) (i + 1) = pS (fun u => if Y 5 (3 * s + u) = x then pSu Y s u c else 0) i + (if Y 5 (3 * s + i) = x then pSu Y s i c else 0) from rfl] at hi
    by_cases hw : Y 5 (3 * s + i) = x
    · rw [if_pos hw] at hi
      rw [if_pos hw, ky_bd_s (qM_shareOf hR hs (by omega) c), ky_bn_s, ky_bn_s, nI_1]
      exact hi
    · rw [if_neg hw] at hi
      rw [if_neg hw, ky_bn_s, ky_bn_s, nI_1]
      exact hi
/-- how many users: the first ones -/
theorem pUs_k (hV : pV n Y) (hs : s < n) : (pUs Y s = 0 ∧ Y 5 (3 * s + 0) = -1 ∧ Y 5 (3 * s + 1) = -1 ∧ Y 5 (3 * s + 2) = -1) ∨ (pUs Y s = 1 ∧ ¬ Y 5 (3 * s + 0) = -1 ∧ Y 5 (3 * s + 1) = -1 ∧ Y 5 (3 * s + 2) = -1) ∨
    (pUs Y s = 2 ∧ ¬ Y 5 (3 * s + 0) = -1 ∧ ¬ Y 5 (3 * s + 1) = -1 ∧ Y 5 (3 * s + 2) = -1) ∨ (pUs Y s = 3 ∧ ¬ Y 5 (3 * s + 0) = -1 ∧ ¬ Y 5 (3 * s + 1) = -1 ∧ ¬ Y 5 (3 * s + 2) = -1) := by
  obtain ⟨-, -, -, h1, h2⟩ := hV.2.2.2.1 s hs
  unfold pUs pS pS pS pS
  by_cases a : Y 5 (3 * s + 0) = -1
  · have b := h1 a
    have c := h2 b
    exact Or.inl ⟨by simp only [a, b, c, if_true]; rfl, a, b, c⟩
  · by_cases b : Y 5 (3 * s + 1) = -1
    · have c := h2 b
      exact Or.inr (Or.inl ⟨by simp only [a, b, c, if_true, if_false]; rfl, a, b, c⟩)
    · by_cases c : Y 5 (3 * s + 2) = -1
      · exact Or.inr (Or.inr (Or.inl ⟨by simp only [a, b, c, if_true, if_false]; rfl, a, b, c⟩))
      · exact Or.inr (Or.inr (Or.inr ⟨by simp only [a, b, c, if_false]; rfl, a, b, c⟩))
theorem pSu_sum (hV : pV n Y) (hs : s < n) (c x : Int32) (hx : ¬ x = -1) : pS (fun u => if Y 5 (3 * s + u) = x then pSu Y s u c else 0) 3 = pSh Y s c x := by
  unfold pSh
  have e0 : Y 5 (3 * s) = Y 5 (3 * s + 0) := rfl
  rw [e0]
  rcases pUs_k hV hs with ⟨hu, a, b, d⟩ | ⟨hu, a, b, d⟩ | ⟨hu, a, b, d⟩ | ⟨hu, a, b, d⟩
  · rw [if_pos hu]
    unfold pS pS pS pS
    have hx2 : ¬ (-1 : Int32) = x := fun e => hx e.symm
    simp only [a, b, d, hx2, if_false]
    rfl
  · rw [if_neg (by rw [hu]; decide)]
    unfold pS pS pS pS pSu
    rw [b, d, hu, if_neg (fun e : (-1 : Int32) = x => hx e.symm), if_neg (fun e : (-1 : Int32) = x => hx e.symm), if_neg (show ¬ (1 : Int32) ≤ nI 0 by decide), if_pos (show 0 = 0 ∧ ¬ (1 : Int32) = 0 by decide)]
    by_cases p : Y 5 (3 * s + 0) = x
    · simp only [p, if_true]; grind
    · simp only [p, if_false]; grind
  · rw [if_neg (by rw [hu]; decide)]
    unfold pS pS pS pS pSu
    rw [d, hu, if_neg (fun e : (-1 : Int32) = x => hx e.symm), if_neg (show ¬ (2 : Int32) ≤ nI 0 by decide), if_neg (show ¬ (2 : Int32) ≤ nI 1 by decide), if_pos (show 0 = 0 ∧ ¬ (2 : Int32) = 0 by decide), if_neg (show ¬ (1 = 0 ∧ ¬ (2 : Int32) = 0) by decide)]
    by_cases p : Y 5 (3 * s + 0) = x <;> by_cases q : Y 5 (3 * s + 1) = x <;> simp only [p, q, if_true, if_false] <;> grind
  · rw [if_neg (by rw [hu]; decide)]
    unfold pS pS pS pS pSu
    rw [hu, if_neg (show ¬ (3 : Int32) ≤ nI 0 by decide), if_neg (show ¬ (3 : Int32) ≤ nI 1 by decide), if_neg (show ¬ (3 : Int32) ≤ nI 2 by decide), if_pos (show 0 = 0 ∧ ¬ (3 : Int32) = 0 by decide), if_neg (show ¬ (1 = 0 ∧ ¬ (3 : Int32) = 0) by decide), if_neg (show ¬ (2 = 0 ∧ ¬ (3 : Int32) = 0) by decide)]
    by_cases p : Y 5 (3 * s + 0) = x <;> by_cases q : Y 5 (3 * s + 1) = x <;> by_cases r : Y 5 (3 * s + 2) = x <;> simp only [p, q, r, if_true, if_false] <;> grind
theorem qM_splitNow (hR : pR n Y (σ.1 8)) (hs : s < n) (c : Int32) {x : Nat} (hx : x < 6) : fX4_splitNow (nI s) c (nI x) σ = some (pSh Y s c (nI x), σ) := by
  unfold fX4_splitNow
  rw [← pSu_sum hR.1 hs c (nI x) (nI_m1 (by omega))]
  exact qM_splitNow_L hR hs c (nI x) 3 0 FU (by omega) (by decide)
theorem qM_oldestOn_L (hR : pR n Y (σ.1 8)) (x : Int32) : ∀ (m i fu : Nat), i + m = n → m < fu → fX4_oldestOn_L4 fu x (pOp (pBe Y x i)) (nI i) σ = some (pOp (pBe Y x n), σ) := by
  have hn := hR.1.1
  intro m
  induction m with
  | zero =>
    intro i fu h hf
    obtain ⟨fu, rfl⟩ : ∃ q, fu = q + 1 := ⟨fu - 1, by omega⟩
    have : i = n := by omega
    subst this
    rw [fX4_oldestOn_L4, ky_g_s (by decide), qM_z3 hR, if_pos (nI_le (Nat.le_refl _) (by omega))]
  | succ m ih =>
    intro i fu h hf
    obtain ⟨fu, rfl⟩ : ∃ q, fu = q + 1 := ⟨fu - 1, by omega⟩
    rw [fX4_oldestOn_L4, ky_g_s (by decide), qM_z3 hR, if_neg (nI_ge (by omega) (by omega)), ky_bd_s (qM_w hR (by omega))]
    have hi := ih (i + 1) fu (by omega) (by omega)
    rw [pBe] at hi
    have k0 : ¬ (Y 2 i = x ∧ ¬ Y 0 1 - Y 3 i < Y 1 0) → fX4_oldestOn_L50 (fX4_oldestOn_L4 fu) x (pOp (pBe Y x i)) (nI i) σ = some (pOp (pBe Y x n), σ) := by
      intro hz
      rw [if_neg hz] at hi
      unfold fX4_oldestOn_L50 fX4_oldestOn_L51
      rw [if_pos rfl, ky_bn_s, nI_1]
      exact hi
    by_cases hw : Y 2 i = x
    · rw [if_pos hw, ky_g_s (by decide), ky_bd_s (qM_c hR (by omega)), ky_g_s (by decide), qM_z0 hR, qM_z2 hR]
      by_cases hz : Y 0 1 - Y 3 i < Y 1 0
      · rw [if_pos hz]
        exact k0 (fun q => q.2 hz)
      · rw [if_neg hz]
        rw [if_pos ⟨hw, hz⟩] at hi
        unfold fX4_oldestOn_L51
        rw [if_neg (by decide)]
        cases hq : pBe Y x i with
        | none =>
          rw [hq] at hi
          rw [if_pos (show pOp none = (-1 : Int32) from rfl), ky_bn_s, nI_1]
          exact hi
        | some b =>
          rw [hq] at hi
          have hb := pBe_lt i b hq
          rw [if_neg (show ¬ pOp (some b) = (-1 : Int32) from nI_m1 (by omega)), ky_bd_s (qM_c hR (by omega)), ky_bd_s (show fX4_of (pOp (some b)) (1 : Int32) σ = some (Y 3 b, σ) from qM_c hR (by omega))]
          simp only at hi
          by_cases hc : Y 3 i < Y 3 b
          · rw [if_pos hc] at hi
            rw [if_neg (fun q => (nlt_le.mp q) hc), ky_bn_s, nI_1]
            exact hi
          · rw [if_neg hc] at hi
            rw [if_pos (nlt_le.mpr hc), ky_bn_s, nI_1]
            exact hi
    · rw [if_neg hw]
      exact k0 (fun q => hw q.1)
theorem qM_oldestOn (hR : pR n Y (σ.1 8)) (x : Int32) : fX4_oldestOn x σ = some (pOp (pBe Y x n), σ) := by
  unfold fX4_oldestOn
  exact qM_oldestOn_L hR x n 0 FU (by omega) (by have := hR.1.1; show n < 4000; omega)
end PE
