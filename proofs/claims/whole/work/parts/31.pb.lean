/-! ===== pure: what a yard's numbers say, and the class's questions ===== -/
def bI (p : Prop) [Decidable p] : Int32 := if p then 1 else 0
theorem bI_t {p : Prop} [Decidable p] (h : p) : bI p = 1 := if_pos h
theorem bI_f {p : Prop} [Decidable p] (h : ¬ p) : bI p = 0 := if_neg h
def pWh (Y : pY) (s : Nat) : Prop := Y 6 (4 * s) = 2 ∧ Y 6 (4 * s + 1) = 4 ∧ Y 6 (4 * s + 2) = 3 ∧ Y 6 (4 * s + 3) = 1
def pWhd (Y : pY) (s : Nat) : Decidable (pWh Y s) := by unfold pWh; exact inferInstance
def pWb (Y : pY) (s : Nat) : Bool := @decide (pWh Y s) (pWhd Y s)
theorem pWb_t {Y : pY} {s : Nat} : pWb Y s = true ↔ pWh Y s := by unfold pWb; exact @decide_eq_true_iff _ (pWhd Y s)
theorem pWb_f {Y : pY} {s : Nat} : pWb Y s = false ↔ ¬ pWh Y s := by unfold pWb; exact @decide_eq_false_iff_not _ (pWhd Y s)
def pWt (k : Nat) : Nat := if k = 0 then 2 else if k = 1 then 4 else if k = 2 then 3 else 1
def pWi (k : Nat) : Int32 := nI (pWt k)
def pCo (k : Nat) : Int32 := if k = 0 then 40 else if k = 1 then 15 else if k = 2 then 20 else 5
/-- what always holds of a yard of n sets -/
def pV (n : Nat) (Y : pY) : Prop := n ≤ 24 ∧ Y 0 0 = nI n ∧
  (∀ s, n ≤ s → s < 24 → Y 2 s = -1 ∧ Y 3 s = 0 ∧ Y 4 s = 0 ∧ ∀ u, u < 3 → Y 5 (3 * s + u) = -1) ∧
  (∀ s, s < n → (Y 2 s = -1 ∨ ∃ i, i < 6 ∧ Y 2 s = nI i) ∧ (∀ k, k < 4 → ∃ c, c ≤ pWt k ∧ Y 6 (4 * s + k) = nI c) ∧ (∀ u, u < 3 → Y 5 (3 * s + u) = -1 ∨ ∃ i, i < 6 ∧ Y 5 (3 * s + u) = nI i) ∧
    (Y 5 (3 * s) = -1 → Y 5 (3 * s + 1) = -1) ∧ (Y 5 (3 * s + 1) = -1 → Y 5 (3 * s + 2) = -1)) ∧
  (∀ k, k < 4 → ∃ c, c ≤ 999 ∧ Y 7 k = nI c)
/-- the rows that are written once for all -/
def pT (σ : ky_St) : Prop := (∀ k, k < 4 → σ.1 13 k = pWi k) ∧ (∀ k, k < 4 → σ.1 14 k = pCo k)
theorem nI_m1 {i : Nat} (h : i < 2 ^ 31) : ¬ nI i = (-1 : Int32) := fun e => by
  have h1 := nI_toInt h
  rw [e] at h1
  have h2 : (-1 : Int32).toInt = -1 := rfl
  omega
theorem nI_ix (s k : Nat) : nI s * (4 : Int32) + nI k = nI (4 * s + k) := by
  rw [show (4 : Int32) = nI 4 from rfl, pk_mul, nI_add, Nat.mul_comm]
theorem nI_ix3 (s k : Nat) : nI s * (3 : Int32) + nI k = nI (3 * s + k) := by
  rw [show (3 : Int32) = nI 3 from rfl, pk_mul, nI_add, Nat.mul_comm]
def pUs (Y : pY) (s : Nat) : Int32 := pS (fun u => if Y 5 (3 * s + u) = -1 then 0 else 1) 3
def pPa (Y : pY) (s : Nat) : Int32 := pS (fun k => Y 6 (4 * s + k)) 4
def pIn (Y : pY) (n : Nat) : Int32 := pS (fun s => bI (Y 2 s = -1)) n
def pIW (Y : pY) (n : Nat) : Int32 := pS (fun s => if Y 2 s = -1 then (if pWb Y s = true then 1 else 0) else 0) n
def pDue (Y : pY) (s : Nat) (d : Int32) : Int32 := if Y 2 s = -1 then 0 else (if Y 0 1 + d - Y 3 s < Y 1 0 then Y 1 0 else Y 0 1 + d - Y 3 s) * Y 1 1
def pSh (Y : pY) (s : Nat) (c x : Int32) : Int32 := if pUs Y s = 0 then 0 else pS (fun u => if Y 5 (3 * s + u) = x then c / pUs Y s else 0) 3 + (if Y 5 (3 * s) = x then c - c / pUs Y s * pUs Y s else 0)
def pBd (Y : pY) (i : Nat) : Int32 := Y 9 i + Y 10 i + Y 11 i
def pOw (Y : pY) (i : Nat) : Int32 := pBd Y i - Y 12 i
def pOn (Y : pY) (x : Int32) (n : Nat) : Int32 := pS (fun s => bI (Y 2 s = x)) n
def pBi (Y : pY) (x : Int32) (n : Nat) : Int32 := pS (fun s => if Y 2 s = x then pDue Y s 0 else 0) n
def pTm (Y : pY) (x : Int32) (n : Nat) : Int32 := pS (fun s => if Y 2 s = x then bI (Y 0 1 - Y 3 s < Y 1 0) else 0) n
def pIS (Y : pY) (k n : Nat) : Int32 := pS (fun s => Y 6 (4 * s + k)) n
/-- the best of the first m: its number, none yet -/
def pBe (Y : pY) (x : Int32) : Nat → Option Nat
  | 0 => none
  | m + 1 => if Y 2 m = x ∧ ¬ Y 0 1 - Y 3 m < Y 1 0 then (match pBe Y x m with | none => some m | some b => if Y 3 m < Y 3 b then some m else some b) else pBe Y x m
def pOp : Option Nat → Int32
  | none => -1
  | some b => nI b
theorem pBe_lt {Y : pY} {x : Int32} : ∀ m b, pBe Y x m = some b → b < m
  | 0, b, h => by cases h
  | m + 1, b, h => by
    unfold pBe at h
    split at h
    · cases hq : pBe Y x m with
      | none => rw [hq] at h; cases h; omega
      | some c =>
        rw [hq] at h
        have := pBe_lt m c hq
        simp only at h
        split at h <;> (cases h; omega)
    · have := pBe_lt m b h; omega
section PB
variable {n : Nat} {σ : ky_St} {s : Nat}
theorem qC_isSet (hn : n ≤ 24) (h0 : σ.1 20 0 = nI n) (hs : s < n) : fX0_isSet (nI s) σ = some (1, σ) := by
  unfold fX0_isSet
  rw [if_neg (nI_pos (by omega)), h0, if_neg (nI_ge hs (by omega))]
theorem qC_where (hs : s < 24) : fX3_at 22 (nI s) σ = some (σ.1 22 s, σ) := pa_at rfl hs (by omega) σ
theorem qC_isInYard (hn : n ≤ 24) (h0 : σ.1 20 0 = nI n) (hs : s < n) : fX0_isInYard (nI s) σ = some (bI (pB σ 20 2 s = -1), σ) := by
  unfold fX0_isInYard
  rw [ky_bd_s (qC_isSet hn h0 hs), if_neg (by decide), ky_bd_s (qC_where (by omega))]
  by_cases h : σ.1 22 s = -1
  · rw [if_pos h, bI_t (show pB σ 20 2 s = -1 from h)]
  · rw [if_neg h, bI_f (show ¬ pB σ 20 2 s = -1 from h)]
theorem qC_isOnSite (hn : n ≤ 24) (h0 : σ.1 20 0 = nI n) (hs : s < n) : fX0_isOnSite (nI s) σ = some (bI (¬ pB σ 20 2 s = -1), σ) := by
  unfold fX0_isOnSite
  rw [ky_bd_s (qC_isSet hn h0 hs), if_neg (by decide), ky_bd_s (qC_where (by omega))]
  by_cases h : σ.1 22 s = -1
  · rw [if_pos h, bI_f (fun q => q h)]
  · rw [if_neg h, bI_t (show ¬ pB σ 20 2 s = -1 from h)]
theorem qC_isOn (hn : n ≤ 24) (h0 : σ.1 20 0 = nI n) (hs : s < n) {i : Nat} (hi : i < 6) : fX0_isOn (nI s) (nI i) σ = some (bI (pB σ 20 2 s = nI i), σ) := by
  unfold fX0_isOn
  rw [ky_bd_s (qC_isOnSite hn h0 hs)]
  by_cases h : pB σ 20 2 s = -1
  · rw [bI_f (fun q => q h), if_pos rfl, bI_f]
    rw [h]
    exact fun e => nI_m1 (by omega) e.symm
  · rw [bI_t h, if_neg (by decide), ky_bd_s (qC_where (by omega))]
    by_cases h2 : σ.1 22 s = nI i
    · rw [if_pos h2, bI_t (show pB σ 20 2 s = nI i from h2)]
    · rw [if_neg h2, bI_f (show ¬ pB σ 20 2 s = nI i from h2)]
theorem qC_stockOf (hs : s < 24) {k : Nat} (hk : k < 4) : fX0_stockOf (nI s) (nI k) σ = some (pB σ 20 6 (4 * s + k), σ) := by
  unfold fX0_stockOf
  rw [nI_ix, ky_bd_s (pa_at (N := 96) rfl (by omega) (by omega) σ)]
  rfl
theorem qC_lackOf (hT : pT σ) (hs : s < 24) {k : Nat} (hk : k < 4) : fX0_lackOf (nI s) (nI k) σ = some (pWi k - pB σ 20 6 (4 * s + k), σ) := by
  unfold fX0_lackOf
  rw [ky_bd_s (pa_at (N := 4) rfl hk (by omega) σ), nI_ix, ky_bd_s (pa_at (N := 96) rfl (by omega) (by omega) σ), hT.1 k hk]
  rfl
theorem qC_partsIn_L (hs : s < 24) : ∀ (m i fu : Nat), i + m = 4 → m < fu → fX0_partsIn_L4 fu (nI s) (pS (fun k => pB σ 20 6 (4 * s + k)) i) (nI i) σ = some (pPa (pB σ 20) s, σ) := by
  intro m
  induction m with
  | zero =>
    intro i fu h hf
    obtain ⟨fu, rfl⟩ : ∃ q, fu = q + 1 := ⟨fu - 1, by omega⟩
    have : i = 4 := by omega
    subst this
    rw [fX0_partsIn_L4, if_pos (show (4 : Int32) ≤ nI 4 from nI_le (a := 4) (b := 4) (Nat.le_refl _) (by omega))]
    rfl
  | succ m ih =>
    intro i fu h hf
    obtain ⟨fu, rfl⟩ : ∃ q, fu = q + 1 := ⟨fu - 1, by omega⟩
    rw [fX0_partsIn_L4, if_neg (show ¬ (4 : Int32) ≤ nI i from nI_ge (a := i) (b := 4) (by omega) (by omega)), ky_bd_s (qC_stockOf hs (by omega)), ky_bn_s, ky_bn_s, nI_1]
    exact ih (i + 1) fu (by omega) (by omega)
theorem qC_partsIn (hs : s < 24) : fX0_partsIn (nI s) σ = some (pPa (pB σ 20) s, σ) := by
  unfold fX0_partsIn
  exact qC_partsIn_L hs 4 0 FU rfl (by decide)
theorem pW_of {Y : pY} (hV : pV n Y) (hs : s < n) {k : Nat} (hk : k < 4) : pWi k ≤ Y 6 (4 * s + k) ↔ Y 6 (4 * s + k) = pWi k := by
  obtain ⟨c, hc, e⟩ := (hV.2.2.2.1 s hs).2.1 k hk
  have hw : pWt k ≤ 4 := by unfold pWt; split; omega; split; omega; split <;> omega
  rw [e]
  unfold pWi
  rw [nI_leI (by omega) (by omega), nI_eq (by omega) (by omega)]
  omega
theorem qC_isWhole_L (hT : pT σ) (hV : pV n (pB σ 20)) (hs : s < n) : ∀ (m i fu : Nat), i + m = 4 → m < fu → ∃ v : Int32, fX0_isWhole_L2 fu (nI s) (nI i) σ = some (v, σ) ∧ ((v = 1 ∧ ∀ k, k < 4 → i ≤ k → pB σ 20 6 (4 * s + k) = pWi k) ∨ (v = 0 ∧ ¬ ∀ k, k < 4 → i ≤ k → pB σ 20 6 (4 * s + k) = pWi k)) := by
  have hn := hV.1
  intro m
  induction m with
  | zero =>
    intro i fu h hf
    obtain ⟨fu, rfl⟩ : ∃ q, fu = q + 1 := ⟨fu - 1, by omega⟩
    have : i = 4 := by omega
    subst this
    rw [fX0_isWhole_L2, if_pos (show (4 : Int32) ≤ nI 4 from nI_le (a := 4) (b := 4) (Nat.le_refl _) (by omega))]
    exact ⟨1, rfl, Or.inl ⟨rfl, fun k h1 h2 => by omega⟩⟩
  | succ m ih =>
    intro i fu h hf
    obtain ⟨fu, rfl⟩ : ∃ q, fu = q + 1 := ⟨fu - 1, by omega⟩
    rw [fX0_isWhole_L2, if_neg (show ¬ (4 : Int32) ≤ nI i from nI_ge (a := i) (b := 4) (by omega) (by omega)), nI_ix, ky_bd_s (pa_at (N := 96) rfl (by omega) (by omega) σ), ky_bd_s (pa_at (k := 13) (N := 4) (i := i) rfl (by omega) (by omega) σ), hT.1 i (by omega)]
    by_cases hw : pB σ 20 6 (4 * s + i) = pWi i
    · rw [if_pos (show pWi i ≤ σ.1 26 (4 * s + i) from (pW_of hV hs (by omega)).mpr hw), ky_bn_s, nI_1]
      obtain ⟨v, h1, h2⟩ := ih (i + 1) fu (by omega) (by omega)
      refine ⟨v, h1, h2.imp (fun q => ⟨q.1, fun k k1 k2 => ?_⟩) (fun q => ⟨q.1, fun z => q.2 (fun k k1 k2 => z k k1 (by omega))⟩)⟩
      by_cases e : i = k
      · rw [← e]; exact hw
      · exact q.2 k k1 (by omega)
    · rw [if_neg (show ¬ pWi i ≤ σ.1 26 (4 * s + i) from fun q => hw ((pW_of hV hs (by omega)).mp q))]
      exact ⟨0, rfl, Or.inr ⟨rfl, fun q => hw (q i (by omega) (Nat.le_refl _))⟩⟩
theorem pWh_all {Y : pY} : (∀ k, k < 4 → 0 ≤ k → Y 6 (4 * s + k) = pWi k) ↔ pWb Y s = true := by
  rw [pWb_t]
  constructor
  · intro q
    exact ⟨q 0 (by omega) (by omega), q 1 (by omega) (by omega), q 2 (by omega) (by omega), q 3 (by omega) (by omega)⟩
  · rintro ⟨a, b, c, d⟩ k hk -
    have : k = 0 ∨ k = 1 ∨ k = 2 ∨ k = 3 := by omega
    rcases this with rfl | rfl | rfl | rfl
    · exact a
    · exact b
    · exact c
    · exact d
theorem qC_isWhole (hT : pT σ) (hV : pV n (pB σ 20)) (hs : s < n) : fX0_isWhole (nI s) σ = some (if pWb (pB σ 20) s = true then 1 else 0, σ) := by
  unfold fX0_isWhole
  obtain ⟨v, h1, h2⟩ := qC_isWhole_L hT hV hs 4 0 FU rfl (by decide)
  refine h1.trans ?_
  rcases h2 with ⟨rfl, h2⟩ | ⟨rfl, h2⟩
  · rw [if_pos (pWh_all.mp h2)]
  · rw [if_neg (fun q => h2 (pWh_all.mpr q))]
theorem qC_inYard_L (hn : n ≤ 24) (h0 : σ.1 20 0 = nI n) : ∀ (m i fu : Nat), i + m = n → m < fu → fX0_inYard_L4 fu (pIn (pB σ 20) i) (nI i) σ = some (pIn (pB σ 20) n, σ) := by
  intro m
  induction m with
  | zero =>
    intro i fu h hf
    obtain ⟨fu, rfl⟩ : ∃ q, fu = q + 1 := ⟨fu - 1, by omega⟩
    have : i = n := by omega
    subst this
    rw [fX0_inYard_L4, h0, if_pos (nI_le (Nat.le_refl _) (by omega))]
  | succ m ih =>
    intro i fu h hf
    obtain ⟨fu, rfl⟩ : ∃ q, fu = q + 1 := ⟨fu - 1, by omega⟩
    rw [fX0_inYard_L4, h0, if_neg (nI_ge (by omega) (by omega)), ky_bd_s (qC_isInYard hn h0 (by omega))]
    have hi := ih (i + 1) fu (by omega) (by omega)
    rw [show pIn (pB σ 20) (i + 1) = pIn (pB σ 20) i + bI (pB σ 20 2 i = -1) from rfl] at hi
    by_cases hw : pB σ 20 2 i = -1
    · rw [bI_t hw] at hi ⊢
      rw [if_neg (by decide), ky_bn_s, ky_bn_s, nI_1]
      exact hi
    · rw [bI_f hw] at hi ⊢
      rw [if_pos rfl, ky_bn_s, nI_1]
      rw [Int32.add_zero] at hi
      exact hi
theorem qC_inYard (hn : n ≤ 24) (h0 : σ.1 20 0 = nI n) : fX0_inYard σ = some (pIn (pB σ 20) n, σ) := by
  unfold fX0_inYard
  exact qC_inYard_L hn h0 n 0 FU (by omega) (by show n < 4000; omega)
theorem qC_wholeInYard_L (hT : pT σ) (hV : pV n (pB σ 20)) : ∀ (m i fu : Nat), i + m = n → m < fu → fX0_wholeInYard_L4 fu (pIW (pB σ 20) i) (nI i) σ = some (pIW (pB σ 20) n, σ) := by
  have hn := hV.1
  have h0 : σ.1 20 0 = nI n := hV.2.1
  intro m
  induction m with
  | zero =>
    intro i fu h hf
    obtain ⟨fu, rfl⟩ : ∃ q, fu = q + 1 := ⟨fu - 1, by omega⟩
    have : i = n := by omega
    subst this
    rw [fX0_wholeInYard_L4, h0, if_pos (nI_le (Nat.le_refl _) (by omega))]
  | succ m ih =>
    intro i fu h hf
    obtain ⟨fu, rfl⟩ : ∃ q, fu = q + 1 := ⟨fu - 1, by omega⟩
    rw [fX0_wholeInYard_L4, h0, if_neg (nI_ge (by omega) (by omega)), ky_bd_s (qC_isInYard hn h0 (by omega))]
    have hi := ih (i + 1) fu (by omega) (by omega)
    rw [show pIW (pB σ 20) (i + 1) = pIW (pB σ 20) i + (if pB σ 20 2 i = -1 then (if pWb (pB σ 20) i = true then 1 else 0) else 0) from rfl] at hi
    by_cases hw : pB σ 20 2 i = -1
    · rw [bI_t hw]
      rw [if_pos hw] at hi
      rw [if_neg (by decide), ky_bd_s (qC_isWhole hT hV (by omega))]
      by_cases hz : pWb (pB σ 20) i = true
      · rw [if_pos hz] at hi ⊢
        rw [if_neg (by decide), ky_bn_s, ky_bn_s, nI_1]
        exact hi
      · rw [if_neg hz] at hi ⊢
        rw [if_pos rfl, ky_bn_s, nI_1]
        rw [Int32.add_zero] at hi
        exact hi
    · rw [bI_f hw]
      rw [if_neg hw, Int32.add_zero] at hi
      rw [if_pos rfl, ky_bn_s, nI_1]
      exact hi
theorem qC_wholeInYard (hT : pT σ) (hV : pV n (pB σ 20)) : fX0_wholeInYard σ = some (pIW (pB σ 20) n, σ) := by
  unfold fX0_wholeInYard
  exact qC_wholeInYard_L hT hV n 0 FU (by omega) (by have := hV.1; show n < 4000; omega)
theorem qC_userOf (hs : s < 24) {u : Nat} (hu : u < 3) : fX0_userOf (nI s) (nI u) σ = some (pB σ 20 5 (3 * s + u), σ) := by
  unfold fX0_userOf
  rw [nI_ix3, ky_bd_s (pa_at (N := 72) rfl (by omega) (by omega) σ)]
  rfl
theorem qC_usersOf_L (hs : s < 24) : ∀ (m i fu : Nat), i + m = 3 → m < fu → fX0_usersOf_L4 fu (nI s) (pS (fun u => if pB σ 20 5 (3 * s + u) = -1 then 0 else 1) i) (nI i) σ = some (pUs (pB σ 20) s, σ) := by
  intro m
  induction m with
  | zero =>
    intro i fu h hf
    obtain ⟨fu, rfl⟩ : ∃ q, fu = q + 1 := ⟨fu - 1, by omega⟩
    have : i = 3 := by omega
    subst this
    rw [fX0_usersOf_L4, if_pos (show (3 : Int32) ≤ nI 3 from nI_le (a := 3) (b := 3) (Nat.le_refl _) (by omega))]
    rfl
  | succ m ih =>
    intro i fu h hf
    obtain ⟨fu, rfl⟩ : ∃ q, fu = q + 1 := ⟨fu - 1, by omega⟩
    rw [fX0_usersOf_L4, if_neg (show ¬ (3 : Int32) ≤ nI i from nI_ge (a := i) (b := 3) (by omega) (by omega)), ky_bd_s (qC_userOf hs (by omega))]
    have hi := ih (i + 1) fu (by omega) (by omega)
    rw [pS] at hi
    by_cases hw : pB σ 20 5 (3 * s + i) = -1
    · rw [if_pos hw] at hi ⊢
      rw [Int32.add_zero] at hi
      rw [ky_bn_s, nI_1]
      exact hi
    · rw [if_neg hw] at hi ⊢
      rw [ky_bn_s, ky_bn_s, nI_1]
      exact hi
theorem qC_usersOf (hs : s < 24) : fX0_usersOf (nI s) σ = some (pUs (pB σ 20) s, σ) := by
  unfold fX0_usersOf
  exact qC_usersOf_L hs 3 0 FU rfl (by decide)
theorem pUs_n {Y : pY} {s : Nat} : ∃ c, c ≤ 3 ∧ pUs Y s = nI c := by
  unfold pUs pS pS pS pS
  by_cases a : Y 5 (3 * s + 0) = -1 <;> by_cases b : Y 5 (3 * s + 1) = -1 <;> by_cases c : Y 5 (3 * s + 2) = -1 <;> simp only [a, b, c, if_true, if_false]
  · exact ⟨0, by omega, rfl⟩
  · exact ⟨1, by omega, rfl⟩
  · exact ⟨1, by omega, rfl⟩
  · exact ⟨2, by omega, rfl⟩
  · exact ⟨1, by omega, rfl⟩
  · exact ⟨2, by omega, rfl⟩
  · exact ⟨2, by omega, rfl⟩
  · exact ⟨3, by omega, rfl⟩
theorem pUs_0 {Y : pY} {s : Nat} : (1 : Int32) ≤ pUs Y s ↔ ¬ pUs Y s = 0 := by
  obtain ⟨c, hc, e⟩ := @pUs_n Y s
  rw [e, show (1 : Int32) = nI 1 from rfl, show (0 : Int32) = nI 0 from rfl, nI_leI (by omega) (by omega), nI_eq (by omega) (by omega)]
  omega
theorem qC_shareOf_L (hs : s < 24) (c x q e : Int32) : ∀ (m i fu : Nat), i + m = 3 → m < fu → fX0_shareOf_L27 fu (nI s) c x q e (pS (fun u => if pB σ 20 5 (3 * s + u) = x then e else 0) i) (nI i) σ = some (pS (fun u => if pB σ 20 5 (3 * s + u) = x then e else 0) 3 + (if pB σ 20 5 (3 * s) = x then c - e * q else 0), σ) := by
  intro m
  induction m with
  | zero =>
    intro i fu h hf
    obtain ⟨fu, rfl⟩ : ∃ q, fu = q + 1 := ⟨fu - 1, by omega⟩
    have : i = 3 := by omega
    subst this
    rw [fX0_shareOf_L27, if_pos (show (3 : Int32) ≤ nI 3 from nI_le (a := 3) (b := 3) (Nat.le_refl _) (by omega)), ky_bd_s (show fX0_userOf (nI s) (0 : Int32) σ = some (pB σ 20 5 (3 * s), σ) from qC_userOf (u := 0) hs (by omega))]
    by_cases hw : pB σ 20 5 (3 * s) = x
    · rw [if_pos hw, if_pos hw, ky_bn_s]
    · rw [if_neg hw, if_neg hw, Int32.add_zero]
  | succ m ih =>
    intro i fu h hf
    obtain ⟨fu, rfl⟩ : ∃ q, fu = q + 1 := ⟨fu - 1, by omega⟩
    rw [fX0_shareOf_L27, if_neg (show ¬ (3 : Int32) ≤ nI i from nI_ge (a := i) (b := 3) (by omega) (by omega)), ky_bd_s (qC_userOf hs (by omega))]
    have hi := ih (i + 1) fu (by omega) (by omega)
    rw [show pS (fun u => if pB σ 20 5 (3 * s + u) = x then e else 0) (i + 1) = pS (fun u => if pB σ 20 5 (3 * s + u) = x then e else 0) i + (if pB σ 20 5 (3 * s + i) = x then e else 0) from rfl] at hi
    by_cases hw : pB σ 20 5 (3 * s + i) = x
    · rw [if_pos hw] at hi
      rw [if_pos hw, ky_bn_s, ky_bn_s, nI_1]
      exact hi
    · rw [if_neg hw, Int32.add_zero] at hi
      rw [if_neg hw, ky_bn_s, nI_1]
      exact hi
theorem qC_shareOf (hs : s < 24) (c x : Int32) : fX0_shareOf (nI s) c x σ = some (pSh (pB σ 20) s c x, σ) := by
  unfold fX0_shareOf pSh
  rw [ky_bd_s (qC_usersOf hs)]
  by_cases h : pUs (pB σ 20) s = 0
  · rw [if_neg (fun q => (pUs_0.mp q) h), if_pos h]
  · rw [if_pos (pUs_0.mpr h), if_neg h, ky_g_s h, ky_bn_s]
    exact qC_shareOf_L hs c x (pUs (pB σ 20) s) (c / pUs (pB σ 20) s) 3 0 FU rfl (by decide)
theorem qC_canMove (hn : n ≤ 24) (h0 : σ.1 20 0 = nI n) (hs : s < n) {i : Nat} (hi : i < 6) : fX0_canMove (nI s) (nI i) σ = some (if pB σ 20 2 s = -1 then 0 else if pB σ 20 2 s = nI i then 0 else 1, σ) := by
  unfold fX0_canMove
  rw [ky_bd_s (qC_isOnSite hn h0 hs)]
  by_cases h : pB σ 20 2 s = -1
  · rw [bI_f (fun q => q h), if_pos rfl, if_pos h]
  · rw [bI_t h, if_neg (by decide), ky_bd_s (qC_isOn hn h0 hs hi), if_neg h]
    by_cases h2 : pB σ 20 2 s = nI i
    · rw [bI_t h2, if_neg (by decide), if_pos h2]
    · rw [bI_f h2, if_pos rfl, if_neg h2]
theorem qC_hireBill (hs : s < 24) (d : Int32) : fX0_hireBill (nI s) d σ = some (pDue (pB σ 20) s d, σ) := by
  unfold fX0_hireBill pDue
  rw [ky_bd_s (qC_where hs)]
  by_cases h : pB σ 20 2 s = -1
  · rw [if_pos (show σ.1 22 s = -1 from h), if_pos h]
  · rw [if_neg (show ¬ σ.1 22 s = -1 from h), if_neg h, ky_bd_s (pa_at (N := 24) rfl hs (by omega) σ), ky_bn_s, ky_bd_s (pa_atE (a := 0) (k := 21) (N := 2) (i := 0) rfl rfl (by omega) (by omega) σ), ky_bn_s, ky_bd_s (pa_atE (a := 1) (k := 21) (N := 2) (i := 1) rfl rfl (by omega) (by omega) σ)]
    rfl
theorem qC_billedSoFar {i : Nat} (hi : i < 6) : fX0_billedSoFar (nI i) σ = some (pBd (pB σ 20) i, σ) := by
  unfold fX0_billedSoFar
  rw [ky_bd_s (pa_at (k := 29) (N := 6) rfl hi (by omega) σ), ky_bd_s (pa_at (k := 30) (N := 6) rfl hi (by omega) σ), ky_bd_s (pa_at (k := 31) (N := 6) rfl hi (by omega) σ)]
  rfl
theorem qC_billOf {i : Nat} (hi : i < 6) : fX0_billOf (nI i) σ = some (pOw (pB σ 20) i, σ) := by
  unfold fX0_billOf
  rw [ky_bd_s (qC_billedSoFar hi), ky_bd_s (pa_at (k := 32) (N := 6) rfl hi (by omega) σ)]
  rfl
end PB
