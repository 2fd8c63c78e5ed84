/-! ===== pure: the model's writes: leaving, charging, swapping, repairing, buying ===== -/
section WC
variable {n : Nat} {σ : ky_St} {s : Nat} {Y : pY} {Z : Nat → Int32}
theorem cBack_eq (Y : pY) (s i : Nat) : cBack Y s i = pU (pU (pU Y 9 i (Y 9 i + pDue Y s 0)) 2 s (-1)) 3 s (Y 0 1) := rfl
theorem qX_leaves (hR : pR n Y Z) (hs : s < n) {i : Nat} (hi : i < 6) (h2 : Y 2 s = nI i) (σ : ky_St) : ∃ Z', fX4_leaves (nI s) (mS σ Z) = some (pDue Y s 0, mS σ Z') ∧ pR n (cBack Y s i) Z' := by
  have hn := hR.1.1
  have r1 := hR.w (r := 9) (i := i) (v := Y 9 i + pDue Y s 0) hi rfl (by decide) (hR.1.w (Or.inr (Or.inl (by omega))))
  have r2 := r1.w (r := 2) (i := s) (v := -1) hs rfl (by decide) (r1.1.w2 hs (Or.inl rfl))
  have r3 := r2.w (r := 3) (i := s) (v := Y 0 1) hs rfl (by decide) (r2.1.w3 hs)
  refine ⟨_, ?_, r3⟩
  have e : fX4_dueIn (nI s) 0 (mS σ Z) = some (pDue Y s 0, mS σ Z) := qM_dueIn (σ := mS σ Z) hR hs 0
  have e2 : fX4_of (nI s) (0 : Int32) (mS σ Z) = some (Y 2 s, mS σ Z) := qM_w (σ := mS σ Z) hR hs
  have e3 : Z (pA 9 i) = Y 9 i := hR.2.1 9 i hi
  have e5 := qM_z2 (σ := mS σ (upd (upd Z (pA 9 i) (Y 9 i + pDue Y s 0)) (pA 2 s) (-1))) r2
  unfold fX4_leaves
  rw [ky_bd_s e, ky_bd_s e2, h2, ky_bd_s (mB (x := nI i) (y := 0) (w := 0) (p := pA 9 i) rfl rfl rfl (by show 19 + 4 * i < 283; omega) _ σ Z), e3]
  rw [ky_bd_s (mP (x := nI s) (y := 0) (w := 0) (p := pA 2 s) rfl rfl rfl (by show 43 + 10 * s < 283; omega) _ σ _), ky_g_s (by decide)]
  rw [show (mS σ (upd (upd Z (pA 9 i) (Y 9 i + pDue Y s 0)) (pA 2 s) (-1))).1 8 (2 : Int32).toNatClampNeg = Y 0 1 from e5]
  rw [ky_bd_s (mP (x := nI s) (y := 1) (w := 1) (p := pA 3 s) rfl rfl (by show _ = 44 + 10 * s; omega) (by show 44 + 10 * s < 283; omega) _ σ _)]
theorem cMove_eq (Y : pY) (s i : Nat) (x : Int32) : cCome (cBack Y s i) s x = cMove Y s i x := by
  unfold cMove
  rw [cBack_eq]
  generalize hY : pU Y 9 i (Y 9 i + pDue Y s 0) = W
  have e : Y 0 1 = W 0 1 := by rw [← hY]; rfl
  rw [e]
  unfold cCome
  have e1 : pU (pU (pU (pU W 2 s (-1)) 3 s (W 0 1)) 2 s x) 3 s (pU (pU W 2 s (-1)) 3 s (W 0 1) 0 1) = pU (pU W 2 s x) 3 s (W 0 1) := by
    rw [pU_sw (r := 3) (r' := 2) (Or.inl (by decide)), pU_pU, pU_pU]
    rfl
  rw [e1]
  rfl
theorem qX_moves (hR : pR n Y Z) (hs : s < n) {i : Nat} (hi : i < 6) (h2 : Y 2 s = nI i) {x : Nat} (hx : x < 6) (σ : ky_St) : ∃ Z', fX4_moves (nI s) (nI x) (mS σ Z) = some (pDue Y s 0, mS σ Z') ∧ pR n (cMove Y s i (nI x)) Z' := by
  obtain ⟨Z1, a1, a2⟩ := qX_leaves hR hs hi h2 σ
  obtain ⟨Z2, b1, b2⟩ := qX_comes a2 hs hx σ
  refine ⟨Z2, ?_, ?_⟩
  · unfold fX4_moves
    rw [ky_bd_s a1, ky_bd_s b1]
  · rw [cMove_eq] at b2
    exact b2
theorem cChg_V (hV : pV n Y) (hs : s < n) {k : Nat} (hk : k < 4) {m : Nat} (hm : nI m ≤ Y 6 (4 * s + k)) (hm2 : m < 2 ^ 31) : pV n (cChg Y s k (nI m)) := by
  obtain ⟨c, hc, e⟩ := (hV.2.2.2.1 s hs).2.1 k hk
  have hw : pWt k ≤ 4 := by unfold pWt; split; omega; split; omega; split <;> omega
  rw [e, nI_leI hm2 (by omega)] at hm
  refine (hV.w6 hk ⟨c - m, by omega, ?_⟩).w (Or.inr (Or.inl (by omega)))
  rw [e]
  have : nI c = nI (c - m) + nI m := by rw [nI_add, Nat.sub_add_cancel hm]
  rw [this]
  grind
theorem qX_charge (hR : pR n Y Z) (hs : s < n) {k : Nat} (hk : k < 4) {m : Int32} (hV : pV n (cChg Y s k m)) (σ : ky_St) : ∃ Z', fX4_charge (nI s) (nI k) m (mS σ Z) = some ((), mS σ Z') ∧ pR n (cChg Y s k m) Z' := by
  have hn := hR.1.1
  have e1 : fX4_of (nI s) ((2 : Int32) + nI k) (mS σ Z) = some (Y 6 (4 * s + k), mS σ Z) := qM_k (σ := mS σ Z) hR hs hk
  have l1 := hR.2.1.w (r := 6) (i := 4 * s + k) (show 4 * s + k < 4 * n by omega) (pA_6 s hk) (Y 6 (4 * s + k) - m)
  have l2 := l1.w (r := 8) (i := k) (p := 11 + k) (show k < 4 by omega) rfl (Y 8 k + m)
  refine ⟨_, ?_, hV, l2, ?_⟩
  · unfold fX4_charge
    rw [ky_bd_s e1, ky_bd_s (mP (x := nI s) (y := (2 : Int32) + nI k) (w := 2 + k) (p := 45 + 10 * s + k) rfl (nI_add 2 k) (by omega) (by omega) _ σ Z), ky_g_s (pr_11 hk).2, ky_g_s (pr_11 hk).2, (pr_11 hk).1, ky_bn_s, mS_u1]
    rw [show (mS σ (upd Z (45 + 10 * s + k) (Y 6 (4 * s + k) - m))).1 8 (11 + k) = Y 8 k from l1 8 k hk]
  · intro j hj
    have hb := hR.2.2 j hj
    show (if 15 + j = 11 + k then _ else if 15 + j = 45 + 10 * s + k then _ else Z (15 + j)) = _
    rw [if_neg (by omega), if_neg (by omega), hb]
    unfold cChg
    rw [pIS_o (by decide), pIS_6 hs hk hj]
    show _ = _ + Y 7 j + pU _ 8 k (Y 8 k + m) 8 j
    by_cases e : j = k
    · subst e
      rw [if_pos rfl, pU_eq]
      grind
    · rw [if_neg e, pU_ne (Or.inr e)]
      rfl
theorem pU_com9 {r i : Nat} {v : Int32} (hr : r ≠ 10) {j : Nat} {w : Int32} : pU (pU Y 10 j w) r i v = pU (pU Y r i v) 10 j w := pU_sw (Or.inl (fun e => hr e.symm))
/-- the model bills the missing parts before it takes them -/
theorem cShort_eq (Y : pY) (s k i : Nat) (m : Int32) : cShort Y s k i m = cBack (cChg (pU Y 10 i (Y 10 i + m * pCo k)) s k m) s i := by
  unfold cShort
  congr 1
  unfold cChg
  rw [pU_sw (r := 8) (r' := 10) (Or.inl (by decide)), pU_sw (r := 6) (r' := 10) (Or.inl (by decide))]
  rfl
theorem cSw_V (hV : pV n Y) (hs : s < n) {t : Nat} (ht : t < n) {k : Nat} (hk : k < 4) : pV n (cSw Y s t k) :=
  (hV.w6 hk ((hV.2.2.2.1 t ht).2.1 k hk)).w6 hk ((hV.2.2.2.1 s hs).2.1 k hk)
theorem qX_sw (hR : pR n Y Z) (hs : s < n) {t : Nat} (ht : t < n) {k : Nat} (hk : k < 4) : pR n (cSw Y s t k) (upd (upd Z (45 + 10 * s + k) (Y 6 (4 * t + k))) (45 + 10 * t + k) (Y 6 (4 * s + k))) := by
  refine ⟨cSw_V hR.1 hs ht hk, (hR.2.1.w (r := 6) (show 4 * s + k < 4 * n by omega) (pA_6 s hk) _).w (r := 6) (show 4 * t + k < 4 * n by omega) (pA_6 t hk) _, ?_⟩
  intro j hj
  have hb := hR.2.2 j hj
  show (if 15 + j = 45 + 10 * t + k then _ else if 15 + j = 45 + 10 * s + k then _ else Z (15 + j)) = _
  rw [if_neg (by omega), if_neg (by omega), hb]
  unfold cSw
  rw [pIS_6 ht hk hj, pIS_6 hs hk hj, pIS_6 hs hk hk]
  show _ = _ + Y 7 j + Y 8 j
  by_cases e : j = k
  · subst e
    rw [if_pos rfl, if_pos rfl]
    by_cases e2 : s = t
    · subst e2
      rw [pU_eq]
      grind
    · rw [pU_ne (Or.inr (by omega))]
      grind
  · rw [if_neg e, if_neg e]
theorem qX_swap_L {t : Nat} (hs : s < n) (ht : t < n) (Y : pY) (σ : ky_St) : ∀ (m i fu : Nat) (Z : Nat → Int32), i + m = 4 → m < fu → pR n (cSwp Y s t i) Z → ∃ Z', fX4_swap_L60 fu (nI s) (nI t) (nI i) (mS σ Z) = some (pPa (cSwp Y s t 4) s, mS σ Z') ∧ pR n (cSwp Y s t 4) Z' := by
  intro m
  induction m with
  | zero =>
    intro i fu Z h hf hR
    obtain ⟨fu, rfl⟩ : ∃ q, fu = q + 1 := ⟨fu - 1, by omega⟩
    have : i = 4 := by omega
    subst this
    refine ⟨Z, ?_, hR⟩
    rw [fX4_swap_L60, if_pos (show (4 : Int32) ≤ nI 4 from nI_le (a := 4) (b := 4) (Nat.le_refl _) (by omega)), ky_bd_s (qM_partsOf (σ := mS σ Z) hR hs)]
  | succ m ih =>
    intro i fu Z h hf hR
    obtain ⟨fu, rfl⟩ : ∃ q, fu = q + 1 := ⟨fu - 1, by omega⟩
    have hn := hR.1.1
    have hi4 : i < 4 := by omega
    obtain ⟨Z', q1, q2⟩ := ih (i + 1) fu _ (by omega) (by omega) (qX_sw hR hs ht hi4)
    refine ⟨Z', ?_, q2⟩
    rw [fX4_swap_L60, if_neg (show ¬ (4 : Int32) ≤ nI i from nI_ge (a := i) (b := 4) (by omega) (by omega)), ky_bd_s (qM_k (σ := mS σ Z) hR hs hi4), ky_bd_s (qM_k (σ := mS σ Z) hR ht hi4), ky_bd_s (mP (x := nI s) (y := (2 : Int32) + nI i) (w := 2 + i) (p := 45 + 10 * s + i) rfl (nI_add 2 i) (by omega) (by omega) _ σ Z), ky_bd_s (mP (x := nI t) (y := (2 : Int32) + nI i) (w := 2 + i) (p := 45 + 10 * t + i) rfl (nI_add 2 i) (by omega) (by omega) _ σ _), ky_bn_s, nI_1]
    exact q1
theorem cTk_n (hV : pV n Y) (hs : s < n) {k : Nat} (hk : k < 4) : ∃ a b c, a ≤ 999 ∧ Y 7 k = nI a ∧ b ≤ pWt k ∧ Y 6 (4 * s + k) = nI b ∧ c ≤ a ∧ b + c ≤ pWt k ∧ cTk Y s k = nI c ∧ pWt k ≤ 4 := by
  obtain ⟨a, ha, ea⟩ := hV.2.2.2.2 k hk
  obtain ⟨b, hb, eb⟩ := (hV.2.2.2.1 s hs).2.1 k hk
  have hw : pWt k ≤ 4 := by unfold pWt; split; omega; split; omega; split <;> omega
  have e : pWi k - nI b = nI (pWt k - b) := by
    unfold pWi
    have : nI (pWt k) = nI (pWt k - b) + nI b := by rw [nI_add, Nat.sub_add_cancel hb]
    rw [this]
    grind
  refine ⟨a, b, if a < pWt k - b then a else pWt k - b, ha, ea, hb, eb, ?_, ?_, ?_, hw⟩
  · split <;> omega
  · split <;> omega
  · unfold cTk
    rw [ea, eb, e]
    by_cases h : a < pWt k - b
    · rw [if_pos ((nI_ltI (by omega) (by omega)).mpr h), if_pos h]
    · rw [if_neg (fun q => h ((nI_ltI (by omega) (by omega)).mp q)), if_neg h]
theorem qX_fi (hR : pR n Y Z) (hs : s < n) {k : Nat} (hk : k < 4) : pR n (cFi Y s k) (upd (upd Z (7 + k) (Y 7 k - cTk Y s k)) (45 + 10 * s + k) (Y 6 (4 * s + k) + cTk Y s k)) := by
  obtain ⟨a, b, c, ha, ea, hb, eb, hca, hbc, ec, hw⟩ := cTk_n hR.1 hs hk
  refine ⟨?_, (hR.2.1.w (r := 7) (i := k) (p := 7 + k) (show k < 4 by omega) rfl _).w (r := 6) (show 4 * s + k < 4 * n by omega) (pA_6 s hk) _, ?_⟩
  · refine (hR.1.w7 ⟨a - c, by omega, ?_⟩).w6 hk ⟨b + c, hbc, ?_⟩
    · rw [ea, ec]
      have : nI a = nI (a - c) + nI c := by rw [nI_add, Nat.sub_add_cancel hca]
      rw [this]
      grind
    · rw [eb, ec, nI_add]
  · intro j hj
    have hb := hR.2.2 j hj
    show (if 15 + j = 45 + 10 * s + k then _ else if 15 + j = 7 + k then _ else Z (15 + j)) = _
    rw [if_neg (by omega), if_neg (by omega), hb]
    unfold cFi
    rw [pIS_6 hs hk hj, pIS_o (by decide), pIS_o (by decide)]
    show _ = _ + pU _ 7 k (Y 7 k - cTk Y s k) 7 j + Y 8 j
    by_cases e : j = k
    · subst e
      rw [if_pos rfl, pU_eq]
      show _ = pIS Y j n - Y 6 (4 * s + j) + (Y 6 (4 * s + j) + cTk Y s j) + _ + _
      grind
    · rw [if_neg e, pU_ne (Or.inr e)]
theorem pr_7' {k : Nat} (hk : k < 4) : ¬ ((7 : Int32) + nI k < 0 ∨ 283 ≤ 7 + k) := by
  have h := (pr_7 hk).2
  rw [(pr_7 hk).1] at h
  exact h
theorem qX_repair_L (hs : s < n) (Y : pY) (σ : ky_St) : ∀ (m i fu : Nat) (Z : Nat → Int32), i + m = 4 → m < fu → pR n (cFil Y s i).1 Z → ∃ Z', fX4_repair_L46 fu (nI s) (cFil Y s i).2 (nI i) (mS σ Z) = some ((cFil Y s 4).2, mS σ Z') ∧ pR n (cFil Y s 4).1 Z' := by
  intro m
  induction m with
  | zero =>
    intro i fu Z h hf hR
    obtain ⟨fu, rfl⟩ : ∃ q, fu = q + 1 := ⟨fu - 1, by omega⟩
    have : i = 4 := by omega
    subst this
    refine ⟨Z, ?_, hR⟩
    rw [fX4_repair_L46, if_pos (show (4 : Int32) ≤ nI 4 from nI_le (a := 4) (b := 4) (Nat.le_refl _) (by omega))]
  | succ m ih =>
    intro i fu Z h hf hR
    obtain ⟨fu, rfl⟩ : ∃ q, fu = q + 1 := ⟨fu - 1, by omega⟩
    have hn := hR.1.1
    have hi4 : i < 4 := by omega
    obtain ⟨Z', q1, q2⟩ := ih (i + 1) fu _ (by omega) (by omega) (qX_fi hR hs hi4)
    refine ⟨Z', ?_, q2⟩
    have key : ∀ y : Int32, y = cTk (cFil Y s i).1 s i → fX4_repair_L94 (fX4_repair_L46 fu) (nI s) (cFil Y s i).2 (nI i) y (mS σ Z) = some ((cFil Y s 4).2, mS σ Z') := by
      intro y hy
      subst hy
      have e7 : (mS σ Z).1 8 (7 + i) = (cFil Y s i).1 7 i := hR.2.1 7 i hi4
      have e6 : upd Z (7 + i) ((cFil Y s i).1 7 i - cTk (cFil Y s i).1 s i) (45 + 10 * s + i) = (cFil Y s i).1 6 (4 * s + i) := by
        show (if 45 + 10 * s + i = 7 + i then _ else Z (45 + 10 * s + i)) = _
        rw [if_neg (by omega), ← pA_6 s hi4]
        exact hR.2.1 6 (4 * s + i) (show 4 * s + i < 4 * n by omega)
      unfold fX4_repair_L94
      rw [ky_g_s (pr_7 hi4).2, ky_g_s (pr_7 hi4).2, (pr_7 hi4).1, e7, ky_bn_s, mS_u1, ky_bd_s (mG (x := nI s) (y := (2 : Int32) + nI i) (w := 2 + i) (p := 45 + 10 * s + i) rfl (nI_add 2 i) (by omega) (by omega) σ _), e6, ky_bd_s (mP (x := nI s) (y := (2 : Int32) + nI i) (w := 2 + i) (p := 45 + 10 * s + i) rfl (nI_add 2 i) (by omega) (by omega) _ σ _), ky_bn_s, ky_bn_s, nI_1]
      exact q1
    have e7 : (mS σ Z).1 8 (7 + i) = (cFil Y s i).1 7 i := hR.2.1 7 i hi4
    rw [fX4_repair_L46, if_neg (show ¬ (4 : Int32) ≤ nI i from nI_ge (a := i) (b := 4) (by omega) (by omega)), ky_bd_s (qM_wholeOf hi4), ky_bd_s (qM_k (σ := mS σ Z) hR hs hi4), ky_bn_s, ky_g_s (pr_7 hi4).2, (pr_7 hi4).1, e7]
    by_cases h : (cFil Y s i).1 7 i ≤ pWi i - (cFil Y s i).1 6 (4 * s + i)
    · rw [if_pos h, ky_g_s (pr_7' hi4)]
      refine key _ ?_
      unfold cTk
      by_cases h2 : (cFil Y s i).1 7 i < pWi i - (cFil Y s i).1 6 (4 * s + i)
      · rw [if_pos h2]
      · rw [if_neg h2]
        exact Int32.le_antisymm h (nlt_le.mpr h2)
    · rw [if_neg h]
      refine key _ ?_
      unfold cTk
      rw [if_neg (fun q => h (Int32.le_of_lt q))]
end WC
