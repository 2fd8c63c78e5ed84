/-! ===== pure: the model's writes: buying ===== -/
section WE
variable {n : Nat} {σ : ky_St} {s : Nat} {Y : pY} {Z : Nat → Int32}
theorem qX_spa (hR : pR n Y Z) {k : Nat} (hk : k < 4) {a c : Nat} (ha : Y 7 k = nI a) (hc : a + c ≤ 999) : pR n (cSpa Y k (nI c)) (upd (upd (upd Z (7 + k) (Y 7 k + nI c)) (15 + k) (Z (15 + k) + nI c)) 6 (Y 0 4 + nI c * pCo k)) := by
  have l1 := hR.2.1.w (r := 7) (i := k) (p := 7 + k) (show k < 4 by omega) rfl (Y 7 k + nI c)
  have l2 : pL n (pU Y 7 k (Y 7 k + nI c)) (upd (upd Z (7 + k) (Y 7 k + nI c)) (15 + k) (Z (15 + k) + nI c)) := by
    intro r i hd
    show (if pA r i = 15 + k then _ else _) = _
    rw [if_neg (by have := pA_15 r i hd; omega)]
    exact l1 r i hd
  have l3 := l2.w (r := 0) (i := 4) (p := 6) (show 4 < 5 by omega) rfl (Y 0 4 + nI c * pCo k)
  refine ⟨(hR.1.w7 ⟨a + c, hc, by rw [ha, nI_add]⟩).w (Or.inr (Or.inr ⟨rfl, by decide⟩)), l3, ?_⟩
  intro j hj
  have hb := hR.2.2 j hj
  unfold cSpa
  show (if 15 + j = 6 then _ else if 15 + j = 15 + k then Z (15 + k) + nI c else if 15 + j = 7 + k then _ else Z (15 + j)) = pIS (pU (pU Y 7 k (Y 7 k + nI c)) 0 4 _) j n + pU Y 7 k (Y 7 k + nI c) 7 j + Y 8 j
  rw [if_neg (by omega), pIS_o (by decide), pIS_o (by decide)]
  by_cases e : j = k
  · subst e
    rw [if_pos rfl, hb, pU_eq]
    grind
  · rw [if_neg (by omega), if_neg (by omega), hb, pU_ne (Or.inr e)]
/-- linked but for some places -/
def pLs (S : Nat → Nat → Prop) (n : Nat) (Y : pY) (Z : Nat → Int32) : Prop := ∀ r i, dm n r i → ¬ S r i → Z (pA r i) = Y r i
theorem pLs.w {S S' : Nat → Nat → Prop} (h : pLs S n Y Z) {r0 i0 p : Nat} (hd : dm n r0 i0) (hp : pA r0 i0 = p) (hS : ∀ r i, ¬ S' r i → ¬ S r i ∨ (r = r0 ∧ i = i0)) (v : Int32) : pLs S' n (pU Y r0 i0 v) (upd Z p v) := by
  subst hp
  intro r i h1 h2
  by_cases e : r = r0 ∧ i = i0
  · rw [e.1, e.2, pU_eq]
    exact if_pos rfl
  · have hne : r ≠ r0 ∨ i ≠ i0 := by omega
    rw [pU_ne hne, ← h r i h1 ((hS r i h2).resolve_right e)]
    exact if_neg (fun q => e (pA_inj h1 hd q))
theorem pLs.z {S S' : Nat → Nat → Prop} (h : pLs S n Y Z) {r0 i0 p : Nat} (hd : dm n r0 i0) (hp : pA r0 i0 = p) (hS : ∀ r i, ¬ S' r i → ¬ S r i ∨ (r = r0 ∧ i = i0)) {v : Int32} (hv : Y r0 i0 = v) : pLs S' n Y (upd Z p v) := by
  have := h.w hd hp hS v
  have e : pU Y r0 i0 v = Y := by
    funext a b
    unfold pU
    by_cases q : a = r0 ∧ b = i0
    · rw [if_pos q, ← hv, q.1, q.2]
    · rw [if_neg q]
  rw [e] at this
  exact this
theorem pLs.o {S : Nat → Nat → Prop} (h : pLs S n Y Z) {p : Nat} (hp : 15 ≤ p ∧ p < 19) (v : Int32) : pLs S n Y (upd Z p v) := by
  intro r i h1 h2
  rw [← h r i h1 h2]
  exact if_neg (by have := pA_15 r i h1; omega)
/-- what is not yet written of a new set -/
def pN (n t k u : Nat) (r i : Nat) : Prop := (r = 0 ∧ i = 0 ∧ t < 1) ∨ (r = 2 ∧ i = n ∧ t < 2) ∨ (r = 3 ∧ i = n ∧ t < 3) ∨ (r = 4 ∧ i = n ∧ t < 4) ∨ (r = 6 ∧ 4 * n + k ≤ i) ∨ (r = 5 ∧ 3 * n + u ≤ i)
theorem pLs_0 (h : pL n Y Z) : pLs (pN n 0 0 0) (n + 1) Y Z := by
  intro r i h1 h2
  refine h r i ?_
  unfold pN at h2
  match r, h1 with
  | 0, h1 => exact h1
  | 1, h1 => exact h1
  | 2, h1 => have h1 : i < n + 1 := h1; show i < n; omega
  | 3, h1 => have h1 : i < n + 1 := h1; show i < n; omega
  | 4, h1 => have h1 : i < n + 1 := h1; show i < n; omega
  | 5, h1 => show i < 3 * n; omega
  | 6, h1 => show i < 4 * n; omega
  | 7, h1 => exact h1
  | 8, h1 => exact h1
  | 9, h1 => exact h1
  | 10, h1 => exact h1
  | 11, h1 => exact h1
  | 12, h1 => exact h1
  | r + 13, h1 => exact h1
theorem pLs_4 (h : pLs (pN n 4 4 3) (n + 1) Y Z) : pL (n + 1) Y Z := by
  intro r i h1
  refine h r i h1 ?_
  unfold pN
  rintro (q | q | q | q | q | q)
  · omega
  · omega
  · omega
  · omega
  · rw [q.1] at h1
    have h1 : i < 4 * (n + 1) := h1
    omega
  · rw [q.1] at h1
    have h1 : i < 3 * (n + 1) := h1
    omega
theorem cNk_o {r k : Nat} (hr : r ≠ 6) (h0 : r ≠ 0) : cNk Y s k r = Y r := by
  unfold cNk
  rw [pU_row h0, pU_row hr]
theorem cNks_o {r : Nat} (hr : r ≠ 6) (h0 : r ≠ 0) : ∀ k, cNks Y s k r = Y r
  | 0 => rfl
  | k + 1 => by
    unfold cNks
    rw [cNk_o hr h0, cNks_o hr h0 k]
theorem cNks_6 {t j : Nat} (hj : j < 4) : ∀ k, k ≤ 4 → cNks Y s k 6 (4 * t + j) = if t = s ∧ j < k then pWi j else Y 6 (4 * t + j)
  | 0, _ => by rw [if_neg (by omega)]; rfl
  | k + 1, hk => by
    unfold cNks cNk
    rw [pU_row (by decide)]
    by_cases e : t = s ∧ j = k
    · rw [if_pos (by omega), e.1, e.2, pU_eq]
    · rw [pU_ne (Or.inr (by omega)), cNks_6 hj k (by omega)]
      by_cases e2 : t = s ∧ j < k
      · rw [if_pos e2, if_pos (by omega)]
      · rw [if_neg e2, if_neg (by omega)]
theorem cNks_c (v : Int32) : ∀ k, cNks (pU Y 0 0 v) s k = pU (cNks Y s k) 0 0 v
  | 0 => rfl
  | k + 1 => by
    unfold cNks
    rw [cNks_c v k]
    unfold cNk
    rw [pU_sw (r := 0) (i := 0) (r' := 6) (Or.inl (by decide)), pU_sw (r := 0) (i := 0) (r' := 0) (i' := 4) (Or.inr (by decide))]
    rfl
theorem cNew_V (h : pV n Y) (hn : n < 24) : pV (n + 1) (cNew Y n) := by
  obtain ⟨h1, h2, h3, h4, h5⟩ := h
  have o : ∀ r, r ≠ 6 → r ≠ 0 → cNew Y n r = Y r := fun r hr h0 => by unfold cNew; rw [pU_row h0, cNks_o hr h0]
  unfold pV
  rw [o 2 (by decide) (by decide), o 3 (by decide) (by decide), o 4 (by decide) (by decide), o 5 (by decide) (by decide), o 7 (by decide) (by decide)]
  refine ⟨by omega, pU_eq, fun t a b => h3 t (by omega) b, fun t a => ?_, h5⟩
  have e6 : ∀ k, k < 4 → ∃ c, c ≤ pWt k ∧ cNew Y n 6 (4 * t + k) = nI c := by
    intro k hk
    have e : cNew Y n 6 (4 * t + k) = if t = n ∧ k < 4 then pWi k else Y 6 (4 * t + k) := by
      unfold cNew
      rw [pU_row (by decide), cNks_6 hk 4 (by omega)]
    rw [e]
    by_cases q : t = n
    · rw [if_pos ⟨q, hk⟩]
      exact ⟨pWt k, Nat.le_refl _, rfl⟩
    · rw [if_neg (fun z => q z.1)]
      exact (h4 t (by omega)).2.1 k hk
  by_cases q : t = n
  · obtain ⟨q1, q2, q3, q4⟩ := h3 t (by omega) (by omega)
    exact ⟨Or.inl q1, e6, fun u hu => Or.inl (q4 u hu), fun _ => q4 1 (by omega), fun _ => q4 2 (by omega)⟩
  · obtain ⟨q1, q2, q3⟩ := h4 t (by omega)
    exact ⟨q1, e6, q3⟩
theorem qX_new_k (hn : n < 24) (rec48 : Int32 → Int32 → ky_St → Option (Int32 × ky_St)) (x1 x2 : Int32) (σ : ky_St) (Z0 : Nat → Int32) : ∀ (m i fu : Nat) (Z : Nat → Int32), i + m = 4 → m < fu → pLs (pN n 4 i 0) (n + 1) (cNks Y n i) Z → (∀ j, j < 4 → Z (15 + j) = if j < i then Z0 (15 + j) + pWi j else Z0 (15 + j)) → ∃ Z', fX4_buySets_L95 rec48 fu x1 x2 (nI n) (nI i) (mS σ Z) = fX4_buySets_L163 rec48 FU x1 x2 (nI n) 0 (mS σ Z') ∧ pLs (pN n 4 4 0) (n + 1) (cNks Y n 4) Z' ∧ (∀ j, j < 4 → Z' (15 + j) = Z0 (15 + j) + pWi j) := by
  intro m
  induction m with
  | zero =>
    intro i fu Z h hf hL hB
    obtain ⟨fu, rfl⟩ : ∃ q, fu = q + 1 := ⟨fu - 1, by omega⟩
    have : i = 4 := by omega
    subst this
    refine ⟨Z, ?_, hL, fun j hj => (hB j hj).trans (if_pos hj)⟩
    rw [fX4_buySets_L95, if_pos (show (4 : Int32) ≤ nI 4 from nI_le (a := 4) (b := 4) (Nat.le_refl _) (by omega))]
  | succ m ih =>
    intro i fu Z h hf hL hB
    obtain ⟨fu, rfl⟩ : ∃ q, fu = q + 1 := ⟨fu - 1, by omega⟩
    have hi4 : i < 4 := by omega
    have l1 := hL.w (S' := pN n 4 (i + 1) 0) (r0 := 6) (i0 := 4 * n + i) (show 4 * n + i < 4 * (n + 1) by omega) (pA_6 n hi4) (fun r j q => by unfold pN at q ⊢; omega) (pWi i)
    have l2 := l1.o (p := 15 + i) (by omega) (Z (15 + i) + pWi i)
    have l3 := l2.w (S' := pN n 4 (i + 1) 0) (r0 := 0) (i0 := 4) (p := 6) (show 4 < 5 by omega) rfl (fun r j q => Or.inl q) (cNks Y n i 0 4 + pWi i * pCo i)
    obtain ⟨Z', q1, q2, q3⟩ := ih (i + 1) fu _ (by omega) (by omega) l3 (fun j hj => by
      show (if 15 + j = 6 then _ else if 15 + j = 15 + i then Z (15 + i) + pWi i else if 15 + j = 45 + 10 * n + i then _ else Z (15 + j)) = _
      rw [if_neg (by omega)]
      by_cases e : j = i
      · subst e
        rw [if_pos rfl, if_pos (show j < j + 1 by omega), hB j hj, if_neg (Nat.lt_irrefl _)]
      · rw [if_neg (by omega), if_neg (by omega), hB j hj]
        by_cases e2 : j < i
        · rw [if_pos e2, if_pos (show j < i + 1 by omega)]
        · rw [if_neg e2, if_neg (show ¬ j < i + 1 by omega)])
    refine ⟨Z', ?_, q2, q3⟩
    have e15 : (mS σ (upd Z (45 + 10 * n + i) (pWi i))).1 8 (15 + i) = Z (15 + i) := if_neg (by omega)
    have e6 : (mS σ (upd (upd Z (45 + 10 * n + i) (pWi i)) (15 + i) (Z (15 + i) + pWi i))).1 8 6 = cNks Y n i 0 4 := l2 0 4 (show 4 < 5 by omega) (by unfold pN; omega)
    rw [fX4_buySets_L95, if_neg (show ¬ (4 : Int32) ≤ nI i from nI_ge (a := i) (b := 4) (by omega) (by omega)), ky_bd_s (qM_wholeOf hi4), ky_bd_s (mP (x := nI n) (y := (2 : Int32) + nI i) (w := 2 + i) (p := 45 + 10 * n + i) rfl (nI_add 2 i) (by omega) (by omega) _ σ Z), ky_g_s (pr_15 hi4).2, ky_bd_s (qM_wholeOf hi4), ky_g_s (pr_15 hi4).2, (pr_15 hi4).1, e15, ky_bn_s, mS_u1, ky_g_s (by decide), ky_bd_s (qM_wholeOf hi4), ky_bd_s (qM_costOf hi4), ky_g_s (by decide), z_6, e6, ky_bn_s, mS_u1, ky_bn_s, nI_1]
    exact q1
theorem qX_new_u (hn : n < 24) (rec48 : Int32 → Int32 → ky_St → Option (Int32 × ky_St)) (x1 x2 : Int32) (σ : ky_St) (Z0 : Nat → Int32) (hY : ∀ u, u < 3 → Y 5 (3 * n + u) = -1) : ∀ (m i fu : Nat) (Z : Nat → Int32), i + m = 3 → m < fu → pLs (pN n 4 4 i) (n + 1) Y Z → (∀ j, j < 4 → Z (15 + j) = Z0 (15 + j)) → ∃ Z', fX4_buySets_L163 rec48 fu x1 x2 (nI n) (nI i) (mS σ Z) = rec48 x1 (x2 + 1) (mS σ Z') ∧ pL (n + 1) Y Z' ∧ (∀ j, j < 4 → Z' (15 + j) = Z0 (15 + j)) := by
  intro m
  induction m with
  | zero =>
    intro i fu Z h hf hL hB
    obtain ⟨fu, rfl⟩ : ∃ q, fu = q + 1 := ⟨fu - 1, by omega⟩
    have : i = 3 := by omega
    subst this
    refine ⟨Z, ?_, pLs_4 hL, hB⟩
    rw [fX4_buySets_L163, if_pos (show (3 : Int32) ≤ nI 3 from nI_le (a := 3) (b := 3) (Nat.le_refl _) (by omega)), ky_bn_s]
  | succ m ih =>
    intro i fu Z h hf hL hB
    obtain ⟨fu, rfl⟩ : ∃ q, fu = q + 1 := ⟨fu - 1, by omega⟩
    have hi3 : i < 3 := by omega
    have l1 := hL.z (S' := pN n 4 4 (i + 1)) (r0 := 5) (i0 := 3 * n + i) (show 3 * n + i < 3 * (n + 1) by omega) (pA_5 n hi3) (fun r j q => by unfold pN at q ⊢; omega) (hY i hi3)
    obtain ⟨Z', q1, q2, q3⟩ := ih (i + 1) fu _ (by omega) (by omega) l1 (fun j hj => by
      rw [← hB j hj]
      exact if_neg (by omega))
    refine ⟨Z', ?_, q2, q3⟩
    rw [fX4_buySets_L163, if_neg (show ¬ (3 : Int32) ≤ nI i from nI_ge (a := i) (b := 3) (by omega) (by omega)), ky_bd_s (mP (x := nI n) (y := (6 : Int32) + nI i) (w := 6 + i) (p := 49 + 10 * n + i) rfl (nI_add 6 i) (by omega) (by omega) _ σ Z), ky_bn_s, nI_1]
    exact q1
theorem qX_new (hR : pR n Y Z) (hn : n < 24) (rec48 : Int32 → Int32 → ky_St → Option (Int32 × ky_St)) (x1 x2 : Int32) (σ : ky_St) : ∃ Z1 Z', fX4_put (nI n) 0 (-1) (mS σ (upd Z 3 (nI (n + 1)))) = some ((), mS σ (upd (upd Z 3 (nI (n + 1))) (43 + 10 * n) (-1))) ∧ fX4_put (nI n) 1 0 (mS σ (upd (upd Z 3 (nI (n + 1))) (43 + 10 * n) (-1))) = some ((), mS σ (upd (upd (upd Z 3 (nI (n + 1))) (43 + 10 * n) (-1)) (44 + 10 * n) 0)) ∧ fX4_put (nI n) 9 0 (mS σ (upd (upd (upd Z 3 (nI (n + 1))) (43 + 10 * n) (-1)) (44 + 10 * n) 0)) = some ((), mS σ Z1) ∧ fX4_buySets_L95 rec48 FU x1 x2 (nI n) 0 (mS σ Z1) = rec48 x1 (x2 + 1) (mS σ Z') ∧ pR (n + 1) (cNew Y n) Z' := by
  obtain ⟨u1, u2, u3, u4⟩ := hR.1.2.2.1 n (Nat.le_refl _) hn
  have l0 := (pLs_0 hR.2.1).w (S' := pN n 1 0 0) (r0 := 0) (i0 := 0) (p := 3) (show 0 < 5 by omega) rfl (fun r j q => by unfold pN at q ⊢; omega) (nI (n + 1))
  have l1 := l0.z (S' := pN n 2 0 0) (r0 := 2) (i0 := n) (p := 43 + 10 * n) (show n < n + 1 by omega) rfl (fun r j q => by unfold pN at q ⊢; omega) (show pU Y 0 0 (nI (n + 1)) 2 n = -1 from u1)
  have l2 := l1.z (S' := pN n 3 0 0) (r0 := 3) (i0 := n) (p := 44 + 10 * n) (show n < n + 1 by omega) rfl (fun r j q => by unfold pN at q ⊢; omega) (show pU Y 0 0 (nI (n + 1)) 3 n = 0 from u2)
  have l3 := l2.z (S' := pN n 4 0 0) (r0 := 4) (i0 := n) (p := 52 + 10 * n) (show n < n + 1 by omega) rfl (fun r j q => by unfold pN at q ⊢; omega) (show pU Y 0 0 (nI (n + 1)) 4 n = 0 from u3)
  have hB : ∀ j, j < 4 → upd (upd (upd (upd Z 3 (nI (n + 1))) (43 + 10 * n) (-1)) (44 + 10 * n) 0) (52 + 10 * n) 0 (15 + j) = Z (15 + j) := by
    intro j hj
    show (if 15 + j = 52 + 10 * n then _ else if 15 + j = 44 + 10 * n then _ else if 15 + j = 43 + 10 * n then _ else if 15 + j = 3 then _ else Z (15 + j)) = _
    rw [if_neg (by omega), if_neg (by omega), if_neg (by omega), if_neg (by omega)]
  obtain ⟨Z1, a1, a2, a3⟩ := qX_new_k hn rec48 x1 x2 σ Z 4 0 FU _ rfl (by decide) l3 (fun j hj => by rw [if_neg (Nat.not_lt_zero _)]; exact hB j hj)
  obtain ⟨Z2, b1, b2, b3⟩ := qX_new_u hn rec48 x1 x2 σ Z1 (fun u hu => by
    rw [cNks_o (by decide) (by decide)]
    exact u4 u hu) 3 0 FU Z1 rfl (by decide) a2 (fun j hj => rfl)
  refine ⟨_, Z2, mP (x := nI n) (y := 0) (w := 0) rfl rfl (by omega) (by omega) _ σ _, mP (x := nI n) (y := 1) (w := 1) rfl rfl (by omega) (by omega) _ σ _, mP (x := nI n) (y := 9) (w := 9) (p := 52 + 10 * n) rfl rfl (by omega) (by omega) _ σ _, a1.trans b1, cNew_V hR.1 hn, ?_, ?_⟩
  · have h : pL (n + 1) (cNks (pU Y 0 0 (nI (n + 1))) n 4) Z2 := b2
    rw [cNks_c] at h
    exact h
  · intro j hj
    rw [b3 j hj, a3 j hj, hR.2.2 j hj]
    have e7 : cNew Y n 7 j = Y 7 j := by unfold cNew; rw [pU_row (by decide), cNks_o (by decide) (by decide)]
    have e8 : cNew Y n 8 j = Y 8 j := by unfold cNew; rw [pU_row (by decide), cNks_o (by decide) (by decide)]
    have e6 : ∀ t, cNew Y n 6 (4 * t + j) = if t = n ∧ j < 4 then pWi j else Y 6 (4 * t + j) := fun t => by unfold cNew; rw [pU_row (by decide), cNks_6 hj 4 (by omega)]
    rw [e7, e8]
    have e : pIS (cNew Y n) j (n + 1) = pIS Y j n + pWi j := by
      show pIS (cNew Y n) j n + cNew Y n 6 (4 * n + j) = _
      rw [e6 n, if_pos ⟨rfl, hj⟩]
      congr 1
      exact pS_congr n (fun t ht => (e6 t).trans (if_neg (by omega)))
    rw [e]
    grind
theorem qX_buy_L (Y : pY) (σ : ky_St) {c : Nat} (hc : n + c ≤ 24) : ∀ (m i fu : Nat) (Z : Nat → Int32), i + m = c → m < fu → pR (n + i) (cNews Y n i) Z → ∃ Z', fX4_buySets_L48 fu (nI c) (nI i) (mS σ Z) = some (nI (n + c), mS σ Z') ∧ pR (n + c) (cNews Y n c) Z' := by
  intro m
  induction m with
  | zero =>
    intro i fu Z h hf hR
    obtain ⟨fu, rfl⟩ : ∃ q, fu = q + 1 := ⟨fu - 1, by omega⟩
    have : i = c := by omega
    subst this
    refine ⟨Z, ?_, hR⟩
    rw [fX4_buySets_L48, if_pos (Int32.le_refl _), ky_g_s (by decide), qM_z3 (σ := mS σ Z) hR]
  | succ m ih =>
    intro i fu Z h hf hR
    obtain ⟨fu, rfl⟩ : ∃ q, fu = q + 1 := ⟨fu - 1, by omega⟩
    have e3 := qM_z3 (σ := mS σ Z) hR
    obtain ⟨Z1, Z2, a1, a2, a3, a4, a5⟩ := qX_new hR (by omega) (fX4_buySets_L48 fu) (nI c) (nI i) σ
    obtain ⟨Z', q1, q2⟩ := ih (i + 1) fu Z2 (by omega) (by omega) a5
    refine ⟨Z', ?_, q2⟩
    rw [fX4_buySets_L48, if_neg (nI_ge (by omega) (by omega)), ky_g_s (by decide), e3, ky_bn_s, ky_g_s (by decide), ky_g_s (by decide), nI_1, ky_bn_s, z_3, mS_u1, ky_bd_s a1, ky_bd_s a2, ky_bd_s a3]
    refine a4.trans ?_
    rw [nI_1]
    exact q1
theorem qX_buy (hR : pR n Y Z) {c : Nat} (hc : n + c ≤ 24) (σ : ky_St) : ∃ Z', fX4_buySets_L48 FU (nI c) 0 (mS σ Z) = some (nI (n + c), mS σ Z') ∧ pR (n + c) (cNews Y n c) Z' :=
  qX_buy_L Y σ hc c 0 FU Z (by omega) (by show c < 4000; omega) hR
end WE
