/-! ===== pure: more questions of the class ===== -/
section PC
variable {n : Nat} {σ : ky_St} {s : Nat}
theorem qC_setsOn_L (hn : n ≤ 24) (h0 : σ.1 20 0 = nI n) {x : Nat} (hx : x < 6) : ∀ (m i fu : Nat), i + m = n → m < fu → fX0_setsOn_L4 fu (nI x) (pOn (pB σ 20) (nI x) i) (nI i) σ = some (pOn (pB σ 20) (nI x) n, σ) := by
  intro m
  induction m with
  | zero =>
    intro i fu h hf
    obtain ⟨fu, rfl⟩ : ∃ q, fu = q + 1 := ⟨fu - 1, by omega⟩
    have : i = n := by omega
    subst this
    rw [fX0_setsOn_L4, h0, if_pos (nI_le (Nat.le_refl _) (by omega))]
  | succ m ih =>
    intro i fu h hf
    obtain ⟨fu, rfl⟩ : ∃ q, fu = q + 1 := ⟨fu - 1, by omega⟩
    rw [fX0_setsOn_L4, h0, if_neg (nI_ge (by omega) (by omega)), ky_bd_s (qC_isOn hn h0 (by omega) hx)]
    have hi := ih (i + 1) fu (by omega) (by omega)
    rw [show pOn (pB σ 20) (nI x) (i + 1) = pOn (pB σ 20) (nI x) i + bI (pB σ 20 2 i = nI x) from rfl] at hi
    by_cases hw : pB σ 20 2 i = nI x
    · rw [bI_t hw] at hi ⊢
      rw [if_neg (by decide), ky_bn_s, ky_bn_s, nI_1]
      exact hi
    · rw [bI_f hw] at hi ⊢
      rw [if_pos rfl, ky_bn_s, nI_1]
      rw [Int32.add_zero] at hi
      exact hi
theorem qC_setsOn (hn : n ≤ 24) (h0 : σ.1 20 0 = nI n) {x : Nat} (hx : x < 6) : fX0_setsOn (nI x) σ = some (pOn (pB σ 20) (nI x) n, σ) := by
  unfold fX0_setsOn
  exact qC_setsOn_L hn h0 hx n 0 FU (by omega) (by show n < 4000; omega)
theorem qC_billIfAllLeft_L (hn : n ≤ 24) (h0 : σ.1 20 0 = nI n) {x : Nat} (hx : x < 6) : ∀ (m i fu : Nat), i + m = n → m < fu → fX0_billIfAllLeft_L4 fu (nI x) (pBi (pB σ 20) (nI x) i) (nI i) σ = some (pBi (pB σ 20) (nI x) n, σ) := by
  intro m
  induction m with
  | zero =>
    intro i fu h hf
    obtain ⟨fu, rfl⟩ : ∃ q, fu = q + 1 := ⟨fu - 1, by omega⟩
    have : i = n := by omega
    subst this
    rw [fX0_billIfAllLeft_L4, h0, if_pos (nI_le (Nat.le_refl _) (by omega))]
  | succ m ih =>
    intro i fu h hf
    obtain ⟨fu, rfl⟩ : ∃ q, fu = q + 1 := ⟨fu - 1, by omega⟩
    rw [fX0_billIfAllLeft_L4, h0, if_neg (nI_ge (by omega) (by omega)), ky_bd_s (qC_isOn hn h0 (by omega) hx)]
    have hi := ih (i + 1) fu (by omega) (by omega)
    rw [show pBi (pB σ 20) (nI x) (i + 1) = pBi (pB σ 20) (nI x) i + (if pB σ 20 2 i = nI x then pDue (pB σ 20) i 0 else 0) from rfl] at hi
    by_cases hw : pB σ 20 2 i = nI x
    · rw [if_pos hw] at hi
      rw [bI_t hw, if_neg (by decide), ky_bd_s (qC_hireBill (by omega) 0), ky_bn_s, ky_bn_s, nI_1]
      exact hi
    · rw [if_neg hw, Int32.add_zero] at hi
      rw [bI_f hw, if_pos rfl, ky_bn_s, nI_1]
      exact hi
theorem qC_billIfAllLeft (hn : n ≤ 24) (h0 : σ.1 20 0 = nI n) {x : Nat} (hx : x < 6) : fX0_billIfAllLeft (nI x) σ = some (pBi (pB σ 20) (nI x) n, σ) := by
  unfold fX0_billIfAllLeft
  exact qC_billIfAllLeft_L hn h0 hx n 0 FU (by omega) (by show n < 4000; omega)
theorem nlt_le {a b : Int32} : b ≤ a ↔ ¬ a < b := by rw [Int32.not_lt]
theorem qC_isWithinTerm (hs : s < 24) : fX0_isWithinTerm (nI s) σ = some (bI (pB σ 20 0 1 - pB σ 20 3 s < pB σ 20 1 0), σ) := by
  unfold fX0_isWithinTerm
  rw [ky_bd_s (pa_at (k := 23) (N := 24) rfl hs (by omega) σ), ky_bd_s (pa_atE (a := 0) (k := 21) (N := 2) (i := 0) rfl rfl (by omega) (by omega) σ)]
  by_cases h : pB σ 20 0 1 - pB σ 20 3 s < pB σ 20 1 0
  · rw [bI_t h, if_neg (show ¬ σ.1 21 0 ≤ σ.1 20 1 - σ.1 23 s from fun q => (nlt_le.mp q) h)]
  · rw [bI_f h, if_pos (show σ.1 21 0 ≤ σ.1 20 1 - σ.1 23 s from nlt_le.mpr h)]
theorem qC_setsWithinTerm_L (hn : n ≤ 24) (h0 : σ.1 20 0 = nI n) {x : Nat} (hx : x < 6) : ∀ (m i fu : Nat), i + m = n → m < fu → fX0_setsWithinTerm_L4 fu (nI x) (pTm (pB σ 20) (nI x) i) (nI i) σ = some (pTm (pB σ 20) (nI x) n, σ) := by
  intro m
  induction m with
  | zero =>
    intro i fu h hf
    obtain ⟨fu, rfl⟩ : ∃ q, fu = q + 1 := ⟨fu - 1, by omega⟩
    have : i = n := by omega
    subst this
    rw [fX0_setsWithinTerm_L4, h0, if_pos (nI_le (Nat.le_refl _) (by omega))]
  | succ m ih =>
    intro i fu h hf
    obtain ⟨fu, rfl⟩ : ∃ q, fu = q + 1 := ⟨fu - 1, by omega⟩
    rw [fX0_setsWithinTerm_L4, h0, if_neg (nI_ge (by omega) (by omega)), ky_bd_s (qC_isOn hn h0 (by omega) hx)]
    have hi := ih (i + 1) fu (by omega) (by omega)
    rw [show pTm (pB σ 20) (nI x) (i + 1) = pTm (pB σ 20) (nI x) i + (if pB σ 20 2 i = nI x then bI (pB σ 20 0 1 - pB σ 20 3 i < pB σ 20 1 0) else 0) from rfl] at hi
    by_cases hw : pB σ 20 2 i = nI x
    · rw [if_pos hw] at hi
      rw [bI_t hw, if_neg (by decide), ky_bd_s (qC_isWithinTerm (by omega))]
      by_cases hz : pB σ 20 0 1 - pB σ 20 3 i < pB σ 20 1 0
      · rw [bI_t hz] at hi ⊢
        rw [if_neg (by decide), ky_bn_s, ky_bn_s, nI_1]
        exact hi
      · rw [bI_f hz] at hi ⊢
        rw [Int32.add_zero] at hi
        rw [if_pos rfl, ky_bn_s, nI_1]
        exact hi
    · rw [if_neg hw, Int32.add_zero] at hi
      rw [bI_f hw, if_pos rfl, ky_bn_s, nI_1]
      exact hi
theorem qC_setsWithinTerm (hn : n ≤ 24) (h0 : σ.1 20 0 = nI n) {x : Nat} (hx : x < 6) : fX0_setsWithinTerm (nI x) σ = some (pTm (pB σ 20) (nI x) n, σ) := by
  unfold fX0_setsWithinTerm
  exact qC_setsWithinTerm_L hn h0 hx n 0 FU (by omega) (by show n < 4000; omega)
theorem qC_firstDue_L (hn : n ≤ 24) (h0 : σ.1 20 0 = nI n) {x : Nat} (hx : x < 6) : ∀ (m i fu : Nat), i + m = n → m < fu → fX0_firstDue_L4 fu (nI x) (pOp (pBe (pB σ 20) (nI x) i)) (nI i) σ = some (pOp (pBe (pB σ 20) (nI x) n), σ) := by
  intro m
  induction m with
  | zero =>
    intro i fu h hf
    obtain ⟨fu, rfl⟩ : ∃ q, fu = q + 1 := ⟨fu - 1, by omega⟩
    have : i = n := by omega
    subst this
    rw [fX0_firstDue_L4, h0, if_pos (nI_le (Nat.le_refl _) (by omega))]
  | succ m ih =>
    intro i fu h hf
    obtain ⟨fu, rfl⟩ : ∃ q, fu = q + 1 := ⟨fu - 1, by omega⟩
    rw [fX0_firstDue_L4, h0, if_neg (nI_ge (by omega) (by omega)), ky_bd_s (qC_isOn hn h0 (by omega) hx)]
    have hi := ih (i + 1) fu (by omega) (by omega)
    rw [pBe] at hi
    by_cases hw : pB σ 20 2 i = nI x
    · rw [bI_t hw, if_neg (by decide), ky_bd_s (qC_isWithinTerm (by omega))]
      by_cases hz : pB σ 20 0 1 - pB σ 20 3 i < pB σ 20 1 0
      · rw [if_neg (fun q => q.2 hz)] at hi
        rw [bI_t hz, if_neg (by decide), ky_bn_s, nI_1]
        exact hi
      · rw [if_pos ⟨hw, hz⟩] at hi
        rw [bI_f hz, if_pos rfl]
        cases hq : pBe (pB σ 20) (nI x) i with
        | none =>
          rw [hq] at hi
          rw [if_pos (show pOp none = (-1 : Int32) from rfl), ky_bn_s, nI_1]
          exact hi
        | some b =>
          rw [hq] at hi
          have hb := pBe_lt i b hq
          rw [if_neg (show ¬ pOp (some b) = (-1 : Int32) from nI_m1 (by omega)), ky_bd_s (pa_at (k := 23) (N := 24) rfl (by omega) (by omega) σ), ky_bd_s (show fX3_at 23 (pOp (some b)) σ = some (σ.1 23 b, σ) from pa_at (k := 23) (N := 24) rfl (by omega) (by omega) σ)]
          simp only at hi
          by_cases hc : pB σ 20 3 i < pB σ 20 3 b
          · rw [if_pos hc] at hi
            rw [if_neg (show ¬ σ.1 23 b ≤ σ.1 23 i from fun q => (nlt_le.mp q) hc), ky_bn_s, nI_1]
            exact hi
          · rw [if_neg hc] at hi
            rw [if_pos (show σ.1 23 b ≤ σ.1 23 i from nlt_le.mpr hc), ky_bn_s, nI_1]
            exact hi
    · rw [if_neg (fun q => hw q.1)] at hi
      rw [bI_f hw, if_pos rfl, ky_bn_s, nI_1]
      exact hi
theorem qC_firstDue (hn : n ≤ 24) (h0 : σ.1 20 0 = nI n) {x : Nat} (hx : x < 6) : fX0_firstDue (nI x) σ = some (pOp (pBe (pB σ 20) (nI x) n), σ) := by
  unfold fX0_firstDue
  exact qC_firstDue_L hn h0 hx n 0 FU (by omega) (by show n < 4000; omega)
theorem qC_partsInSets_L (hn : n ≤ 24) (h0 : σ.1 20 0 = nI n) {k : Nat} (hk : k < 4) : ∀ (m i fu : Nat), i + m = n → m < fu → fX0_partsInSets_L4 fu (nI k) (pIS (pB σ 20) k i) (nI i) σ = some (pIS (pB σ 20) k n, σ) := by
  intro m
  induction m with
  | zero =>
    intro i fu h hf
    obtain ⟨fu, rfl⟩ : ∃ q, fu = q + 1 := ⟨fu - 1, by omega⟩
    have : i = n := by omega
    subst this
    rw [fX0_partsInSets_L4, h0, if_pos (nI_le (Nat.le_refl _) (by omega))]
  | succ m ih =>
    intro i fu h hf
    obtain ⟨fu, rfl⟩ : ∃ q, fu = q + 1 := ⟨fu - 1, by omega⟩
    rw [fX0_partsInSets_L4, h0, if_neg (nI_ge (by omega) (by omega)), ky_bd_s (qC_stockOf (by omega) hk), ky_bn_s, ky_bn_s, nI_1]
    exact ih (i + 1) fu (by omega) (by omega)
theorem qC_partsInSets (hn : n ≤ 24) (h0 : σ.1 20 0 = nI n) {k : Nat} (hk : k < 4) : fX0_partsInSets (nI k) σ = some (pIS (pB σ 20) k n, σ) := by
  unfold fX0_partsInSets
  exact qC_partsInSets_L hn h0 hk n 0 FU (by omega) (by show n < 4000; omega)
theorem qC_billedToAll_L : ∀ (m i fu : Nat), i + m = 6 → m < fu → fX0_billedToAll_L4 fu (pS (pBd (pB σ 20)) i) (nI i) σ = some (pS (pBd (pB σ 20)) 6, σ) := by
  intro m
  induction m with
  | zero =>
    intro i fu h hf
    obtain ⟨fu, rfl⟩ : ∃ q, fu = q + 1 := ⟨fu - 1, by omega⟩
    have : i = 6 := by omega
    subst this
    rw [fX0_billedToAll_L4, if_pos (show (6 : Int32) ≤ nI 6 from nI_le (a := 6) (b := 6) (Nat.le_refl _) (by omega))]
  | succ m ih =>
    intro i fu h hf
    obtain ⟨fu, rfl⟩ : ∃ q, fu = q + 1 := ⟨fu - 1, by omega⟩
    rw [fX0_billedToAll_L4, if_neg (show ¬ (6 : Int32) ≤ nI i from nI_ge (a := i) (b := 6) (by omega) (by omega)), ky_bd_s (qC_billedSoFar (by omega)), ky_bn_s, ky_bn_s, nI_1]
    exact ih (i + 1) fu (by omega) (by omega)
theorem qC_billedToAll : fX0_billedToAll σ = some (pS (pBd (pB σ 20)) 6, σ) := by
  unfold fX0_billedToAll
  exact qC_billedToAll_L 6 0 FU (by omega) (by decide)
theorem qC_paidByAll_L : ∀ (m i fu : Nat), i + m = 6 → m < fu → fX0_paidByAll_L4 fu (pS (pB σ 20 12) i) (nI i) σ = some (pS (pB σ 20 12) 6, σ) := by
  intro m
  induction m with
  | zero =>
    intro i fu h hf
    obtain ⟨fu, rfl⟩ : ∃ q, fu = q + 1 := ⟨fu - 1, by omega⟩
    have : i = 6 := by omega
    subst this
    rw [fX0_paidByAll_L4, if_pos (show (6 : Int32) ≤ nI 6 from nI_le (a := 6) (b := 6) (Nat.le_refl _) (by omega))]
  | succ m ih =>
    intro i fu h hf
    obtain ⟨fu, rfl⟩ : ∃ q, fu = q + 1 := ⟨fu - 1, by omega⟩
    rw [fX0_paidByAll_L4, if_neg (show ¬ (6 : Int32) ≤ nI i from nI_ge (a := i) (b := 6) (by omega) (by omega)), ky_bd_s (pa_at (k := 32) (N := 6) rfl (by omega) (by omega) σ), ky_bn_s, ky_bn_s, nI_1]
    exact ih (i + 1) fu (by omega) (by omega)
theorem qC_paidByAll : fX0_paidByAll σ = some (pS (pB σ 20 12) 6, σ) := by
  unfold fX0_paidByAll
  exact qC_paidByAll_L 6 0 FU (by omega) (by decide)
/-- the properties of a set, of a site, of a kind, the numbers; by their numbers -/
def pBv (Y : pY) (s w : Nat) : Int32 := if w = 0 then Y 2 s else if w = 1 then Y 3 s else if w = 2 then (if pWb Y s = true then 1 else 0) else if w = 3 then pPa Y s else if w = 4 then Y 5 (3 * s) else if w = 5 then Y 5 (3 * s + 1) else if w = 6 then Y 5 (3 * s + 2) else if w = 7 then pDue Y s 0 else if w = 8 then Y 4 s else Y 6 (4 * s + (w - 10))
def pSv (Y : pY) (n x w : Nat) : Int32 := if w = 0 then pOn Y (nI x) n else if w = 1 then pOw Y x else if w = 2 then Y 9 x else if w = 3 then Y 10 x else if w = 4 then Y 11 x else if w = 5 then Y 12 x else if w = 6 then pBi Y (nI x) n else pTm Y (nI x) n
def pPv (Y : pY) (n k w : Nat) : Int32 := if w = 0 then pIS Y k n else if w = 1 then Y 7 k else if w = 2 then Y 8 k else if w = 3 then pIS Y k n + Y 7 k + Y 8 k else nI n * pWi k - pIS Y k n
def pCv (Y : pY) (n w : Nat) : Int32 := if w = 0 then nI n else if w = 1 then pIn Y n else if w = 2 then pIW Y n else if w = 3 then Y 0 1 else if w = 4 then pS (pBd Y) 6 else if w = 5 then pS (Y 12) 6 else if w = 6 then Y 0 2 else if w = 7 then Y 0 3 else Y 0 4
theorem pLit {a b : Nat} (h : a ≠ b) (ha : a < 2 ^ 31) (hb : b < 2 ^ 31) : ¬ nI a = nI b := fun e => h ((nI_eq ha hb).mp e)
theorem qC_bundleValue (hT : pT σ) (hV : pV n (pB σ 20)) (hs : s < n) {w : Nat} (hw : w < 14) (h9 : w ≠ 9) : fX0_bundleValue (nI s) (nI w) σ = some (pBv (pB σ 20) s w, σ) := by
  have hn := hV.1
  have hz : w = 0 ∨ w = 1 ∨ w = 2 ∨ w = 3 ∨ w = 4 ∨ w = 5 ∨ w = 6 ∨ w = 7 ∨ w = 8 ∨ w = 10 ∨ w = 11 ∨ w = 12 ∨ w = 13 := by omega
  unfold fX0_bundleValue
  rcases hz with rfl | rfl | rfl | rfl | rfl | rfl | rfl | rfl | rfl | rfl | rfl | rfl | rfl
  · rw [if_pos (by decide), ky_bd_s (qC_where (by omega))]; rfl
  · rw [if_neg (by decide), if_pos (by decide), ky_bd_s (pa_at (k := 23) (N := 24) rfl (by omega) (by omega) σ)]; rfl
  · rw [if_neg (by decide), if_neg (by decide), if_pos (by decide), ky_bd_s (qC_isWhole hT hV hs)]
    by_cases h : pWb (pB σ 20) s = true
    · rw [if_pos h, if_neg (by decide)]; unfold pBv; rw [if_neg (by decide), if_neg (by decide), if_pos rfl, if_pos h]
    · rw [if_neg h, if_pos rfl]; unfold pBv; rw [if_neg (by decide), if_neg (by decide), if_pos rfl, if_neg h]
  · rw [if_neg (by decide), if_neg (by decide), if_neg (by decide), if_pos (by decide), ky_bd_s (qC_partsIn (by omega))]; rfl
  · rw [if_neg (by decide), if_neg (by decide), if_neg (by decide), if_neg (by decide), if_pos (by decide), ky_bd_s (show fX0_userOf (nI s) (nI 4 - 4) σ = _ from qC_userOf (u := 0) (by omega) (by omega))]; rfl
  · rw [if_neg (by decide), if_neg (by decide), if_neg (by decide), if_neg (by decide), if_neg (by decide), if_pos (by decide), ky_bd_s (show fX0_userOf (nI s) (nI 5 - 4) σ = _ from qC_userOf (u := 1) (by omega) (by omega))]; rfl
  · rw [if_neg (by decide), if_neg (by decide), if_neg (by decide), if_neg (by decide), if_neg (by decide), if_neg (by decide), if_pos (by decide), ky_bd_s (show fX0_userOf (nI s) (nI 6 - 4) σ = _ from qC_userOf (u := 2) (by omega) (by omega))]; rfl
  · rw [if_neg (by decide), if_neg (by decide), if_neg (by decide), if_neg (by decide), if_neg (by decide), if_neg (by decide), if_neg (by decide), if_pos (by decide), ky_bd_s (qC_hireBill (by omega) 0)]; rfl
  · rw [if_neg (by decide), if_neg (by decide), if_neg (by decide), if_neg (by decide), if_neg (by decide), if_neg (by decide), if_neg (by decide), if_neg (by decide), if_pos (by decide), ky_bd_s (pa_at (k := 24) (N := 24) rfl (by omega) (by omega) σ)]; rfl
  · rw [if_neg (by decide), if_neg (by decide), if_neg (by decide), if_neg (by decide), if_neg (by decide), if_neg (by decide), if_neg (by decide), if_neg (by decide), if_neg (by decide), ky_bd_s (show fX0_stockOf (nI s) (nI 10 - 10) σ = _ from qC_stockOf (k := 0) (by omega) (by omega))]; rfl
  · rw [if_neg (by decide), if_neg (by decide), if_neg (by decide), if_neg (by decide), if_neg (by decide), if_neg (by decide), if_neg (by decide), if_neg (by decide), if_neg (by decide), ky_bd_s (show fX0_stockOf (nI s) (nI 11 - 10) σ = _ from qC_stockOf (k := 1) (by omega) (by omega))]; rfl
  · rw [if_neg (by decide), if_neg (by decide), if_neg (by decide), if_neg (by decide), if_neg (by decide), if_neg (by decide), if_neg (by decide), if_neg (by decide), if_neg (by decide), ky_bd_s (show fX0_stockOf (nI s) (nI 12 - 10) σ = _ from qC_stockOf (k := 2) (by omega) (by omega))]; rfl
  · rw [if_neg (by decide), if_neg (by decide), if_neg (by decide), if_neg (by decide), if_neg (by decide), if_neg (by decide), if_neg (by decide), if_neg (by decide), if_neg (by decide), ky_bd_s (show fX0_stockOf (nI s) (nI 13 - 10) σ = _ from qC_stockOf (k := 3) (by omega) (by omega))]; rfl
theorem qC_siteValue (hV : pV n (pB σ 20)) {x : Nat} (hx : x < 6) {w : Nat} (hw : w < 8) : fX0_siteValue (nI x) (nI w) σ = some (pSv (pB σ 20) n x w, σ) := by
  have hn := hV.1
  have h0 : σ.1 20 0 = nI n := hV.2.1
  have hz : w = 0 ∨ w = 1 ∨ w = 2 ∨ w = 3 ∨ w = 4 ∨ w = 5 ∨ w = 6 ∨ w = 7 := by omega
  unfold fX0_siteValue
  rcases hz with rfl | rfl | rfl | rfl | rfl | rfl | rfl | rfl
  · rw [if_pos (by decide), ky_bd_s (qC_setsOn hn h0 hx)]; rfl
  · rw [if_neg (by decide), if_pos (by decide), ky_bd_s (qC_billOf hx)]; rfl
  · rw [if_neg (by decide), if_neg (by decide), if_pos (by decide), ky_bd_s (pa_at (k := 29) (N := 6) rfl hx (by omega) σ)]; rfl
  · rw [if_neg (by decide), if_neg (by decide), if_neg (by decide), if_pos (by decide), ky_bd_s (pa_at (k := 30) (N := 6) rfl hx (by omega) σ)]; rfl
  · rw [if_neg (by decide), if_neg (by decide), if_neg (by decide), if_neg (by decide), if_pos (by decide), ky_bd_s (pa_at (k := 31) (N := 6) rfl hx (by omega) σ)]; rfl
  · rw [if_neg (by decide), if_neg (by decide), if_neg (by decide), if_neg (by decide), if_neg (by decide), if_pos (by decide), ky_bd_s (pa_at (k := 32) (N := 6) rfl hx (by omega) σ)]; rfl
  · rw [if_neg (by decide), if_neg (by decide), if_neg (by decide), if_neg (by decide), if_neg (by decide), if_neg (by decide), if_pos (by decide), ky_bd_s (qC_billIfAllLeft hn h0 hx)]; rfl
  · rw [if_neg (by decide), if_neg (by decide), if_neg (by decide), if_neg (by decide), if_neg (by decide), if_neg (by decide), if_neg (by decide), ky_bd_s (qC_setsWithinTerm hn h0 hx)]; rfl
theorem qC_partsValue (hT : pT σ) (hV : pV n (pB σ 20)) {k : Nat} (hk : k < 4) {w : Nat} (hw : w < 5) : fX0_partsValue (nI k) (nI w) σ = some (pPv (pB σ 20) n k w, σ) := by
  have hn := hV.1
  have h0 : σ.1 20 0 = nI n := hV.2.1
  have hz : w = 0 ∨ w = 1 ∨ w = 2 ∨ w = 3 ∨ w = 4 := by omega
  unfold fX0_partsValue
  rcases hz with rfl | rfl | rfl | rfl | rfl
  · rw [if_pos (by decide), ky_bd_s (qC_partsInSets hn h0 hk)]; rfl
  · rw [if_neg (by decide), if_pos (by decide), ky_bd_s (pa_at (k := 27) (N := 4) rfl hk (by omega) σ)]; rfl
  · rw [if_neg (by decide), if_neg (by decide), if_pos (by decide), ky_bd_s (pa_at (k := 28) (N := 4) rfl hk (by omega) σ)]; rfl
  · rw [if_neg (by decide), if_neg (by decide), if_neg (by decide), if_pos (by decide), ky_bd_s (qC_partsInSets hn h0 hk), ky_bd_s (pa_at (k := 27) (N := 4) rfl hk (by omega) σ), ky_bd_s (pa_at (k := 28) (N := 4) rfl hk (by omega) σ)]; rfl
  · rw [if_neg (by decide), if_neg (by decide), if_neg (by decide), if_neg (by decide), ky_bd_s (pa_at (k := 13) (N := 4) rfl hk (by omega) σ), ky_bd_s (qC_partsInSets hn h0 hk), hT.1 k hk, h0]; rfl
theorem qC_countValue (hT : pT σ) (hV : pV n (pB σ 20)) {w : Nat} (hw : w < 9) : fX0_countValue (nI w) σ = some (pCv (pB σ 20) n w, σ) := by
  have hn := hV.1
  have h0 : σ.1 20 0 = nI n := hV.2.1
  have hz : w = 0 ∨ w = 1 ∨ w = 2 ∨ w = 3 ∨ w = 4 ∨ w = 5 ∨ w = 6 ∨ w = 7 ∨ w = 8 := by omega
  unfold fX0_countValue
  rcases hz with rfl | rfl | rfl | rfl | rfl | rfl | rfl | rfl | rfl
  · rw [if_pos (by decide), h0]; rfl
  · rw [if_neg (by decide), if_pos (by decide), ky_bd_s (qC_inYard hn h0)]; rfl
  · rw [if_neg (by decide), if_neg (by decide), if_pos (by decide), ky_bd_s (qC_wholeInYard hT hV)]; rfl
  · rw [if_neg (by decide), if_neg (by decide), if_neg (by decide), if_pos (by decide)]; rfl
  · rw [if_neg (by decide), if_neg (by decide), if_neg (by decide), if_neg (by decide), if_pos (by decide), ky_bd_s qC_billedToAll]; rfl
  · rw [if_neg (by decide), if_neg (by decide), if_neg (by decide), if_neg (by decide), if_neg (by decide), if_pos (by decide), ky_bd_s qC_paidByAll]; rfl
  · rw [if_neg (by decide), if_neg (by decide), if_neg (by decide), if_neg (by decide), if_neg (by decide), if_neg (by decide), if_pos (by decide)]; rfl
  · rw [if_neg (by decide), if_neg (by decide), if_neg (by decide), if_neg (by decide), if_neg (by decide), if_neg (by decide), if_neg (by decide), if_pos (by decide)]; rfl
  · rw [if_neg (by decide), if_neg (by decide), if_neg (by decide), if_neg (by decide), if_neg (by decide), if_neg (by decide), if_neg (by decide), if_neg (by decide)]; rfl
end PC
