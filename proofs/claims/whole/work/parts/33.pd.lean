/-! ===== pure: the model's row holds the same yard; the model's questions ===== -/
def dm (n r i : Nat) : Prop := match r with
  | 0 => i < 5
  | 1 => i < 2
  | 2 => i < n
  | 3 => i < n
  | 4 => i < n
  | 5 => i < 3 * n
  | 6 => i < 4 * n
  | 7 => i < 4
  | 8 => i < 4
  | 9 => i < 6
  | 10 => i < 6
  | 11 => i < 6
  | 12 => i < 6
  | _ => False
def pA (r i : Nat) : Nat := match r with
  | 0 => if i = 0 then 3 else if i = 1 then 2 else i + 2
  | 1 => i
  | 2 => 43 + 10 * i
  | 3 => 44 + 10 * i
  | 4 => 52 + 10 * i
  | 5 => 49 + 10 * (i / 3) + i % 3
  | 6 => 45 + 10 * (i / 4) + i % 4
  | 7 => 7 + i
  | 8 => 11 + i
  | 9 => 19 + 4 * i
  | 10 => 20 + 4 * i
  | 11 => 21 + 4 * i
  | _ => 22 + 4 * i
def pDt (s w : Nat) : Nat × Nat := if w = 0 then (2, s) else if w = 1 then (3, s) else if w < 6 then (6, 4 * s + (w - 2)) else if w < 9 then (5, 3 * s + (w - 6)) else (4, s)
def pD (p : Nat) : Nat × Nat := if p < 2 then (1, p) else if p = 2 then (0, 1) else if p = 3 then (0, 0) else if p < 7 then (0, p - 2) else if p < 11 then (7, p - 7) else if p < 15 then (8, p - 11) else if p < 43 then (9 + (p - 19) % 4, (p - 19) / 4) else pDt ((p - 43) / 10) ((p - 43) % 10)
theorem pD_hi {s w p : Nat} (h : p = 43 + 10 * s + w) (hw : w < 10) : pD p = pDt s w := by
  unfold pD
  rw [if_neg (by omega), if_neg (by omega), if_neg (by omega), if_neg (by omega), if_neg (by omega), if_neg (by omega), if_neg (by omega), show (p - 43) / 10 = s by omega, show (p - 43) % 10 = w by omega]
theorem pD_mid {i w p : Nat} (h : p = 19 + 4 * i + w) (hw : w < 4) (hi : i < 6) : pD p = (9 + w, i) := by
  unfold pD
  rw [if_neg (by omega), if_neg (by omega), if_neg (by omega), if_neg (by omega), if_neg (by omega), if_neg (by omega), if_pos (by omega), show (p - 19) / 4 = i by omega, show (p - 19) % 4 = w by omega]
theorem pD_A {n : Nat} : ∀ (r i : Nat), dm n r i → pD (pA r i) = (r, i)
  | 0, i, h => by
    have h : i < 5 := h
    have : i = 0 ∨ i = 1 ∨ i = 2 ∨ i = 3 ∨ i = 4 := by omega
    rcases this with rfl | rfl | rfl | rfl | rfl <;> rfl
  | 1, i, h => by
    have h : i < 2 := h
    show pD i = _
    unfold pD
    rw [if_pos h]
  | 2, i, h => (pD_hi (s := i) (w := 0) rfl (by omega)).trans rfl
  | 3, i, h => (pD_hi (s := i) (w := 1) (show 44 + 10 * i = _ by omega) (by omega)).trans rfl
  | 4, i, h => (pD_hi (s := i) (w := 9) (show 52 + 10 * i = _ by omega) (by omega)).trans rfl
  | 5, i, h => by
    show pD (49 + 10 * (i / 3) + i % 3) = _
    rw [pD_hi (s := i / 3) (w := 6 + i % 3) (show 49 + 10 * (i / 3) + i % 3 = _ by omega) (by omega)]
    unfold pDt
    rw [if_neg (by omega), if_neg (by omega), if_neg (by omega), if_pos (by omega), show 3 * (i / 3) + (6 + i % 3 - 6) = i by omega]
  | 6, i, h => by
    show pD (45 + 10 * (i / 4) + i % 4) = _
    rw [pD_hi (s := i / 4) (w := 2 + i % 4) (show 45 + 10 * (i / 4) + i % 4 = _ by omega) (by omega)]
    unfold pDt
    rw [if_neg (by omega), if_neg (by omega), if_pos (by omega), show 4 * (i / 4) + (2 + i % 4 - 2) = i by omega]
  | 7, i, h => by
    have h : i < 4 := h
    show pD (7 + i) = _
    unfold pD
    rw [if_neg (by omega), if_neg (by omega), if_neg (by omega), if_neg (by omega), if_pos (by omega), show 7 + i - 7 = i by omega]
  | 8, i, h => by
    have h : i < 4 := h
    show pD (11 + i) = _
    unfold pD
    rw [if_neg (by omega), if_neg (by omega), if_neg (by omega), if_neg (by omega), if_neg (by omega), if_pos (by omega), show 11 + i - 11 = i by omega]
  | 9, i, h => pD_mid (i := i) (w := 0) rfl (by omega) h
  | 10, i, h => pD_mid (i := i) (w := 1) (show 20 + 4 * i = _ by omega) (by omega) h
  | 11, i, h => pD_mid (i := i) (w := 2) (show 21 + 4 * i = _ by omega) (by omega) h
  | 12, i, h => pD_mid (i := i) (w := 3) (show 22 + 4 * i = _ by omega) (by omega) h
  | r + 13, i, h => absurd h id
theorem pA_inj {n r i r' i' : Nat} (h : dm n r i) (h' : dm n r' i') (e : pA r i = pA r' i') : r = r' ∧ i = i' := by
  have h1 := pD_A r i h
  rw [e, pD_A r' i' h'] at h1
  exact ⟨(congrArg Prod.fst h1).symm, (congrArg Prod.snd h1).symm⟩
theorem pA_6 (s : Nat) {k : Nat} (hk : k < 4) : pA 6 (4 * s + k) = 45 + 10 * s + k := by
  show 45 + 10 * ((4 * s + k) / 4) + (4 * s + k) % 4 = _
  omega
theorem pA_5 (s : Nat) {u : Nat} (hu : u < 3) : pA 5 (3 * s + u) = 49 + 10 * s + u := by
  show 49 + 10 * ((3 * s + u) / 3) + (3 * s + u) % 3 = _
  omega
theorem pA_15 {n : Nat} : ∀ (r i : Nat), dm n r i → pA r i < 15 ∨ 19 ≤ pA r i
  | 0, i, h => by
    have h : i < 5 := h
    show (if i = 0 then 3 else if i = 1 then 2 else i + 2) < 15 ∨ _
    left
    split
    · omega
    · split <;> omega
  | 1, i, h => Or.inl (by have h : i < 2 := h; show i < 15; omega)
  | 2, i, h => Or.inr (by show 19 ≤ 43 + 10 * i; omega)
  | 3, i, h => Or.inr (by show 19 ≤ 44 + 10 * i; omega)
  | 4, i, h => Or.inr (by show 19 ≤ 52 + 10 * i; omega)
  | 5, i, h => Or.inr (by show 19 ≤ 49 + 10 * (i / 3) + i % 3; omega)
  | 6, i, h => Or.inr (by show 19 ≤ 45 + 10 * (i / 4) + i % 4; omega)
  | 7, i, h => Or.inl (by have h : i < 4 := h; show 7 + i < 15; omega)
  | 8, i, h => Or.inl (by have h : i < 4 := h; show 11 + i < 15; omega)
  | 9, i, h => Or.inr (by show 19 ≤ 19 + 4 * i; omega)
  | 10, i, h => Or.inr (by show 19 ≤ 20 + 4 * i; omega)
  | 11, i, h => Or.inr (by show 19 ≤ 21 + 4 * i; omega)
  | 12, i, h => Or.inr (by show 19 ≤ 22 + 4 * i; omega)
  | r + 13, i, h => absurd h id
def pL (n : Nat) (Y : pY) (Z : Nat → Int32) : Prop := ∀ r i, dm n r i → Z (pA r i) = Y r i
def pBo (n : Nat) (Y : pY) (Z : Nat → Int32) : Prop := ∀ k, k < 4 → Z (15 + k) = pIS Y k n + Y 7 k + Y 8 k
def pR (n : Nat) (Y : pY) (Z : Nat → Int32) : Prop := pV n Y ∧ pL n Y Z ∧ pBo n Y Z
theorem pL.w {n : Nat} {Y : pY} {Z : Nat → Int32} (h : pL n Y Z) {r i p : Nat} (hl : dm n r i) (hp : pA r i = p) (v : Int32) : pL n (pU Y r i v) (upd Z p v) := by
  subst hp
  intro r' i' h'
  by_cases e : pA r' i' = pA r i
  · obtain ⟨rfl, rfl⟩ := pA_inj h' hl e
    rw [pU_eq]
    simp [upd]
  · have hne : r' ≠ r ∨ i' ≠ i := by
      by_cases a : r' = r
      · by_cases b : i' = i
        · subst a; subst b; exact absurd rfl e
        · exact Or.inr b
      · exact Or.inl a
    rw [pU_ne hne, ← h r' i' h']
    simp [upd, e]
theorem z_0 : (0 : Int32).toNatClampNeg = 0 := by decide
theorem z_1 : (1 : Int32).toNatClampNeg = 1 := by decide
theorem z_2 : (2 : Int32).toNatClampNeg = 2 := by decide
theorem z_3 : (3 : Int32).toNatClampNeg = 3 := by decide
theorem z_4 : (4 : Int32).toNatClampNeg = 4 := by decide
theorem z_5 : (5 : Int32).toNatClampNeg = 5 := by decide
theorem z_6 : (6 : Int32).toNatClampNeg = 6 := by decide
section PD
variable {n : Nat} {σ : ky_St} {s : Nat} {Y : pY}
theorem qM_w (hR : pR n Y (σ.1 8)) (hs : s < n) : fX4_of (nI s) (0 : Int32) σ = some (Y 2 s, σ) := by
  have hn := hR.1.1
  rw [show fX4_of (nI s) (0 : Int32) σ = some (σ.1 8 (43 + 10 * s), σ) from pa_of (w := 0) rfl rfl rfl (by omega) σ]
  exact congrArg (fun z => some (z, σ)) (hR.2.1 2 s hs)
theorem qM_c (hR : pR n Y (σ.1 8)) (hs : s < n) : fX4_of (nI s) (1 : Int32) σ = some (Y 3 s, σ) := by
  have hn := hR.1.1
  rw [show fX4_of (nI s) (1 : Int32) σ = some (σ.1 8 (44 + 10 * s), σ) from pa_of (w := 1) rfl rfl (by omega) (by omega) σ]
  exact congrArg (fun z => some (z, σ)) (hR.2.1 3 s hs)
theorem qM_t (hR : pR n Y (σ.1 8)) (hs : s < n) : fX4_of (nI s) (9 : Int32) σ = some (Y 4 s, σ) := by
  have hn := hR.1.1
  rw [show fX4_of (nI s) (9 : Int32) σ = some (σ.1 8 (52 + 10 * s), σ) from pa_of (w := 9) rfl rfl (by omega) (by omega) σ]
  exact congrArg (fun z => some (z, σ)) (hR.2.1 4 s hs)
theorem qM_k (hR : pR n Y (σ.1 8)) (hs : s < n) {k : Nat} (hk : k < 4) : fX4_of (nI s) ((2 : Int32) + nI k) σ = some (Y 6 (4 * s + k), σ) := by
  have hn := hR.1.1
  rw [show fX4_of (nI s) ((2 : Int32) + nI k) σ = some (σ.1 8 (45 + 10 * s + k), σ) from pa_of (w := 2 + k) rfl (nI_add 2 k) (by omega) (by omega) σ, ← pA_6 s hk]
  exact congrArg (fun z => some (z, σ)) (hR.2.1 6 (4 * s + k) (show 4 * s + k < 4 * n by omega))
theorem qM_u (hR : pR n Y (σ.1 8)) (hs : s < n) {u : Nat} (hu : u < 3) : fX4_of (nI s) ((6 : Int32) + nI u) σ = some (Y 5 (3 * s + u), σ) := by
  have hn := hR.1.1
  rw [show fX4_of (nI s) ((6 : Int32) + nI u) σ = some (σ.1 8 (49 + 10 * s + u), σ) from pa_of (w := 6 + u) rfl (nI_add 6 u) (by omega) (by omega) σ, ← pA_5 s hu]
  exact congrArg (fun z => some (z, σ)) (hR.2.1 5 (3 * s + u) (show 3 * s + u < 3 * n by omega))
theorem qM_z0 (hR : pR n Y (σ.1 8)) : σ.1 8 (0 : Int32).toNatClampNeg = Y 1 0 := by rw [z_0]; exact hR.2.1 1 0 (show 0 < 2 by omega)
theorem qM_z1 (hR : pR n Y (σ.1 8)) : σ.1 8 (1 : Int32).toNatClampNeg = Y 1 1 := by rw [z_1]; exact hR.2.1 1 1 (show 1 < 2 by omega)
theorem qM_z2 (hR : pR n Y (σ.1 8)) : σ.1 8 (2 : Int32).toNatClampNeg = Y 0 1 := by rw [z_2]; exact hR.2.1 0 1 (show 1 < 5 by omega)
theorem qM_z3 (hR : pR n Y (σ.1 8)) : σ.1 8 (3 : Int32).toNatClampNeg = nI n := by rw [z_3, ← hR.1.2.1]; exact hR.2.1 0 0 (show 0 < 5 by omega)
theorem qM_z4 (hR : pR n Y (σ.1 8)) : σ.1 8 (4 : Int32).toNatClampNeg = Y 0 2 := by rw [z_4]; exact hR.2.1 0 2 (show 2 < 5 by omega)
theorem qM_z5 (hR : pR n Y (σ.1 8)) : σ.1 8 (5 : Int32).toNatClampNeg = Y 0 3 := by rw [z_5]; exact hR.2.1 0 3 (show 3 < 5 by omega)
theorem qM_z6 (hR : pR n Y (σ.1 8)) : σ.1 8 (6 : Int32).toNatClampNeg = Y 0 4 := by rw [z_6]; exact hR.2.1 0 4 (show 4 < 5 by omega)
theorem qM_within {a : Int32} {x y : Int32} : fX4_within a x y σ = some (bI (x ≤ a ∧ a ≤ y), σ) := by
  unfold fX4_within
  by_cases h : a < x
  · rw [if_pos h, bI_f (fun q => (nlt_le.mp q.1) h)]
  · rw [if_neg h]
    by_cases h2 : y < a
    · rw [if_pos h2, bI_f (fun q => (nlt_le.mp q.2) h2)]
    · rw [if_neg h2, bI_t ⟨nlt_le.mpr h, nlt_le.mpr h2⟩]
theorem bI_01 {p : Prop} [Decidable p] : bI p = 0 ∨ bI p = 1 := by
  by_cases h : p
  · exact Or.inr (bI_t h)
  · exact Or.inl (bI_f h)
theorem qM_isSet (hR : pR n Y (σ.1 8)) (a : Int32) : fX4_isSet a σ = some (bI (0 ≤ a ∧ a ≤ nI n - 1), σ) := by
  unfold fX4_isSet
  rw [ky_g_s (by decide), qM_z3 hR, ky_bd_s qM_within, ky_g_s bI_01]
theorem qM_isSite (a : Int32) : fX4_isSite a σ = some (bI (0 ≤ a ∧ a ≤ 5), σ) := by
  unfold fX4_isSite
  rw [ky_bd_s qM_within, ky_g_s bI_01]
theorem qM_isKind (a : Int32) : fX4_isKind a σ = some (bI (0 ≤ a ∧ a ≤ 3), σ) := by
  unfold fX4_isKind
  rw [ky_bd_s qM_within, ky_g_s bI_01]
theorem qM_areSets (a : Int32) : fX4_areSets a σ = some (bI (1 ≤ a ∧ a ≤ 24), σ) := by
  unfold fX4_areSets
  rw [ky_bd_s qM_within, ky_g_s bI_01]
theorem qM_isInYard (hR : pR n Y (σ.1 8)) (hs : s < n) : fX4_isInYard (nI s) σ = some (bI (Y 2 s = -1), σ) := by
  unfold fX4_isInYard
  rw [ky_bd_s (qM_w hR hs)]
  by_cases h : Y 2 s = -1
  · rw [if_pos h, bI_t h]
  · rw [if_neg h, bI_f h]
theorem qM_wholeOf {k : Nat} (hk : k < 4) : fX4_wholeOf (nI k) σ = some (pWi k, σ) := by
  have : k = 0 ∨ k = 1 ∨ k = 2 ∨ k = 3 := by omega
  unfold fX4_wholeOf
  rcases this with rfl | rfl | rfl | rfl
  · rw [if_pos (by decide)]; rfl
  · rw [if_neg (by decide), if_pos (by decide)]; rfl
  · rw [if_neg (by decide), if_neg (by decide), if_pos (by decide)]; rfl
  · rw [if_neg (by decide), if_neg (by decide), if_neg (by decide)]; rfl
theorem qM_costOf {k : Nat} (hk : k < 4) : fX4_costOf (nI k) σ = some (pCo k, σ) := by
  have : k = 0 ∨ k = 1 ∨ k = 2 ∨ k = 3 := by omega
  unfold fX4_costOf
  rcases this with rfl | rfl | rfl | rfl
  · rw [if_pos (by decide)]; rfl
  · rw [if_neg (by decide), if_pos (by decide)]; rfl
  · rw [if_neg (by decide), if_neg (by decide), if_pos (by decide)]; rfl
  · rw [if_neg (by decide), if_neg (by decide), if_neg (by decide)]; rfl
theorem qM_isWhole_L0 : ∀ (m i fu : Nat), i + m = 4 → m < fu → fX4_isWhole_L4 fu (nI s) 0 (nI i) σ = some (0, σ) := by
  intro m
  induction m with
  | zero =>
    intro i fu h hf
    obtain ⟨fu, rfl⟩ : ∃ q, fu = q + 1 := ⟨fu - 1, by omega⟩
    have : i = 4 := by omega
    subst this
    rw [fX4_isWhole_L4, if_pos (show (4 : Int32) ≤ nI 4 from nI_le (a := 4) (b := 4) (Nat.le_refl _) (by omega)), ky_g_s (Or.inl rfl)]
  | succ m ih =>
    intro i fu h hf
    obtain ⟨fu, rfl⟩ : ∃ q, fu = q + 1 := ⟨fu - 1, by omega⟩
    rw [fX4_isWhole_L4, if_neg (show ¬ (4 : Int32) ≤ nI i from nI_ge (a := i) (b := 4) (by omega) (by omega)), if_pos rfl, ky_bn_s, nI_1]
    exact ih (i + 1) fu (by omega) (by omega)
theorem qM_isWhole_L (hR : pR n Y (σ.1 8)) (hs : s < n) : ∀ (m i fu : Nat), i + m = 4 → m < fu → ∃ v : Int32, fX4_isWhole_L4 fu (nI s) 1 (nI i) σ = some (v, σ) ∧ ((v = 1 ∧ ∀ k, k < 4 → i ≤ k → Y 6 (4 * s + k) = pWi k) ∨ (v = 0 ∧ ¬ ∀ k, k < 4 → i ≤ k → Y 6 (4 * s + k) = pWi k)) := by
  intro m
  induction m with
  | zero =>
    intro i fu h hf
    obtain ⟨fu, rfl⟩ : ∃ q, fu = q + 1 := ⟨fu - 1, by omega⟩
    have : i = 4 := by omega
    subst this
    rw [fX4_isWhole_L4, if_pos (show (4 : Int32) ≤ nI 4 from nI_le (a := 4) (b := 4) (Nat.le_refl _) (by omega)), ky_g_s (Or.inr rfl)]
    exact ⟨1, rfl, Or.inl ⟨rfl, fun k h1 h2 => by omega⟩⟩
  | succ m ih =>
    intro i fu h hf
    obtain ⟨fu, rfl⟩ : ∃ q, fu = q + 1 := ⟨fu - 1, by omega⟩
    rw [fX4_isWhole_L4, if_neg (show ¬ (4 : Int32) ≤ nI i from nI_ge (a := i) (b := 4) (by omega) (by omega)), if_neg (by decide), ky_bd_s (qM_k hR hs (by omega)), ky_bd_s (qM_wholeOf (by omega))]
    by_cases hw : Y 6 (4 * s + i) = pWi i
    · rw [if_pos hw, ky_bn_s, nI_1]
      obtain ⟨v, h1, h2⟩ := ih (i + 1) fu (by omega) (by omega)
      refine ⟨v, h1, h2.imp (fun q => ⟨q.1, fun k k1 k2 => ?_⟩) (fun q => ⟨q.1, fun z => q.2 (fun k k1 k2 => z k k1 (by omega))⟩)⟩
      by_cases e : i = k
      · rw [← e]; exact hw
      · exact q.2 k k1 (by omega)
    · rw [if_neg hw, ky_bn_s, nI_1, qM_isWhole_L0 m (i + 1) fu (by omega) (by omega)]
      exact ⟨0, rfl, Or.inr ⟨rfl, fun q => hw (q i (by omega) (Nat.le_refl _))⟩⟩
theorem qM_isWhole (hR : pR n Y (σ.1 8)) (hs : s < n) : fX4_isWhole (nI s) σ = some (if pWb Y s = true then 1 else 0, σ) := by
  unfold fX4_isWhole
  obtain ⟨v, h1, h2⟩ := qM_isWhole_L hR hs 4 0 FU rfl (by decide)
  refine h1.trans ?_
  rcases h2 with ⟨rfl, h2⟩ | ⟨rfl, h2⟩
  · rw [if_pos (pWh_all.mp h2)]
  · rw [if_neg (fun q => h2 (pWh_all.mpr q))]
theorem qM_partsOf_L (hR : pR n Y (σ.1 8)) (hs : s < n) : ∀ (m i fu : Nat), i + m = 4 → m < fu → fX4_partsOf_L4 fu (nI s) (pS (fun k => Y 6 (4 * s + k)) i) (nI i) σ = some (pPa Y s, σ) := by
  intro m
  induction m with
  | zero =>
    intro i fu h hf
    obtain ⟨fu, rfl⟩ : ∃ q, fu = q + 1 := ⟨fu - 1, by omega⟩
    have : i = 4 := by omega
    subst this
    rw [fX4_partsOf_L4, if_pos (show (4 : Int32) ≤ nI 4 from nI_le (a := 4) (b := 4) (Nat.le_refl _) (by omega))]
    rfl
  | succ m ih =>
    intro i fu h hf
    obtain ⟨fu, rfl⟩ : ∃ q, fu = q + 1 := ⟨fu - 1, by omega⟩
    rw [fX4_partsOf_L4, if_neg (show ¬ (4 : Int32) ≤ nI i from nI_ge (a := i) (b := 4) (by omega) (by omega)), ky_bd_s (qM_k hR hs (by omega)), ky_bn_s, ky_bn_s, nI_1]
    exact ih (i + 1) fu (by omega) (by omega)
theorem qM_partsOf (hR : pR n Y (σ.1 8)) (hs : s < n) : fX4_partsOf (nI s) σ = some (pPa Y s, σ) := by
  unfold fX4_partsOf
  exact qM_partsOf_L hR hs 4 0 FU rfl (by decide)
theorem qM_inYard_L0 (hR : pR n Y (σ.1 8)) : ∀ (m i fu : Nat), i + m = n → m < fu → fX4_inYard_L4 fu 0 (pIn Y i) (nI i) σ = some (pIn Y n, σ) := by
  have hn := hR.1.1
  intro m
  induction m with
  | zero =>
    intro i fu h hf
    obtain ⟨fu, rfl⟩ : ∃ q, fu = q + 1 := ⟨fu - 1, by omega⟩
    have : i = n := by omega
    subst this
    rw [fX4_inYard_L4, ky_g_s (by decide), qM_z3 hR, if_pos (nI_le (Nat.le_refl _) (by omega))]
  | succ m ih =>
    intro i fu h hf
    obtain ⟨fu, rfl⟩ : ∃ q, fu = q + 1 := ⟨fu - 1, by omega⟩
    rw [fX4_inYard_L4, ky_g_s (by decide), qM_z3 hR, if_neg (nI_ge (by omega) (by omega)), ky_bd_s (qM_isInYard hR (by omega))]
    have hi := ih (i + 1) fu (by omega) (by omega)
    rw [show pIn Y (i + 1) = pIn Y i + bI (Y 2 i = -1) from rfl] at hi
    by_cases hw : Y 2 i = -1
    · rw [bI_t hw] at hi ⊢
      rw [if_neg (by decide), if_pos rfl, ky_bn_s, ky_bn_s, nI_1]
      exact hi
    · rw [bI_f hw] at hi ⊢
      rw [if_pos rfl, ky_bn_s, ky_bn_s, nI_1]
      exact hi
theorem qM_inYard0 (hR : pR n Y (σ.1 8)) : fX4_inYard 0 σ = some (pIn Y n, σ) := by
  unfold fX4_inYard
  exact qM_inYard_L0 hR n 0 FU (by omega) (by have := hR.1.1; show n < 4000; omega)
theorem qM_inYard_L1 (hR : pR n Y (σ.1 8)) : ∀ (m i fu : Nat), i + m = n → m < fu → fX4_inYard_L4 fu 1 (pIW Y i) (nI i) σ = some (pIW Y n, σ) := by
  have hn := hR.1.1
  intro m
  induction m with
  | zero =>
    intro i fu h hf
    obtain ⟨fu, rfl⟩ : ∃ q, fu = q + 1 := ⟨fu - 1, by omega⟩
    have : i = n := by omega
    subst this
    rw [fX4_inYard_L4, ky_g_s (by decide), qM_z3 hR, if_pos (nI_le (Nat.le_refl _) (by omega))]
  | succ m ih =>
    intro i fu h hf
    obtain ⟨fu, rfl⟩ : ∃ q, fu = q + 1 := ⟨fu - 1, by omega⟩
    rw [fX4_inYard_L4, ky_g_s (by decide), qM_z3 hR, if_neg (nI_ge (by omega) (by omega)), ky_bd_s (qM_isInYard hR (by omega))]
    have hi := ih (i + 1) fu (by omega) (by omega)
    rw [show pIW Y (i + 1) = pIW Y i + (if Y 2 i = -1 then (if pWb Y i = true then 1 else 0) else 0) from rfl] at hi
    by_cases hw : Y 2 i = -1
    · rw [bI_t hw]
      rw [if_pos hw] at hi
      rw [if_neg (by decide), if_neg (by decide), ky_bd_s (qM_isWhole hR (by omega))]
      by_cases hz : pWb Y i = true
      · rw [if_pos hz] at hi ⊢
        rw [if_neg (by decide), ky_bn_s, ky_bn_s, nI_1]
        exact hi
      · rw [if_neg hz] at hi ⊢
        rw [if_pos rfl, ky_bn_s, ky_bn_s, nI_1]
        exact hi
    · rw [bI_f hw]
      rw [if_neg hw] at hi
      rw [if_pos rfl, ky_bn_s, ky_bn_s, nI_1]
      exact hi
theorem qM_inYard1 (hR : pR n Y (σ.1 8)) : fX4_inYard 1 σ = some (pIW Y n, σ) := by
  unfold fX4_inYard
  exact qM_inYard_L1 hR n 0 FU (by omega) (by have := hR.1.1; show n < 4000; omega)
theorem qM_usersOf_L (hR : pR n Y (σ.1 8)) (hs : s < n) : ∀ (m i fu : Nat), i + m = 3 → m < fu → fX4_usersOf_L4 fu (nI s) (pS (fun u => if Y 5 (3 * s + u) = -1 then 0 else 1) i) (nI i) σ = some (pUs Y s, σ) := by
  intro m
  induction m with
  | zero =>
    intro i fu h hf
    obtain ⟨fu, rfl⟩ : ∃ q, fu = q + 1 := ⟨fu - 1, by omega⟩
    have : i = 3 := by omega
    subst this
    rw [fX4_usersOf_L4, if_pos (show (3 : Int32) ≤ nI 3 from nI_le (a := 3) (b := 3) (Nat.le_refl _) (by omega))]
    rfl
  | succ m ih =>
    intro i fu h hf
    obtain ⟨fu, rfl⟩ : ∃ q, fu = q + 1 := ⟨fu - 1, by omega⟩
    rw [fX4_usersOf_L4, if_neg (show ¬ (3 : Int32) ≤ nI i from nI_ge (a := i) (b := 3) (by omega) (by omega)), ky_bd_s (qM_u hR hs (by omega))]
    have hi := ih (i + 1) fu (by omega) (by omega)
    rw [pS] at hi
    by_cases hw : Y 5 (3 * s + i) = -1
    · rw [if_pos hw] at hi ⊢
      rw [ky_bn_s, ky_bn_s, nI_1]
      exact hi
    · rw [if_neg hw] at hi ⊢
      rw [ky_bn_s, ky_bn_s, nI_1]
      exact hi
theorem qM_usersOf (hR : pR n Y (σ.1 8)) (hs : s < n) : fX4_usersOf (nI s) σ = some (pUs Y s, σ) := by
  unfold fX4_usersOf
  exact qM_usersOf_L hR hs 3 0 FU rfl (by decide)
/-- what the user at a place bears -/
def pSu (Y : pY) (s u : Nat) (c : Int32) : Int32 := (if pUs Y s ≤ nI u then 0 else c / pUs Y s) + (if u = 0 ∧ ¬ pUs Y s = 0 then c - c / pUs Y s * pUs Y s else 0)
theorem qM_shareOf (hR : pR n Y (σ.1 8)) (hs : s < n) {u : Nat} (hu : u < 3) (c : Int32) : fX4_shareOf (nI s) (nI u) c σ = some (pSu Y s u c, σ) := by
  unfold fX4_shareOf pSu
  rw [ky_bd_s (qM_usersOf hR hs)]
  have h0 : nI u = 0 ↔ u = 0 := nI_eq (b := 0) (by omega) (by omega)
  have hp : pUs Y s ≤ 0 ↔ pUs Y s = 0 := by
    obtain ⟨c, hc, e⟩ := @pUs_n Y s
    rw [e, show (0 : Int32) = nI 0 from rfl, nI_leI (by omega) (by omega), nI_eq (by omega) (by omega)]
    omega
  have key : ∀ y : Int32, fX4_shareOf_L21 (nI u) c (pUs Y s) y σ = some (y + (if u = 0 ∧ ¬ pUs Y s = 0 then c - c / pUs Y s * pUs Y s else 0), σ) := by
    intro y
    unfold fX4_shareOf_L21
    by_cases hu0 : u = 0
    · rw [if_pos (h0.mpr hu0)]
      by_cases hz : pUs Y s = 0
      · rw [if_pos (hp.mpr hz), if_neg (fun q => q.2 hz)]
      · rw [if_neg (fun q => hz (hp.mp q)), ky_g_s hz, if_pos ⟨hu0, hz⟩]
    · rw [if_neg (fun q => hu0 (h0.mp q)), if_neg (fun q => hu0 q.1)]
  by_cases h : pUs Y s ≤ nI u
  · rw [if_pos h, if_pos h, key]
  · rw [if_neg h, if_neg h, ky_g_s, key]
    intro z
    rw [z] at h
    exact h (nI_pos' (by omega))
end PD
