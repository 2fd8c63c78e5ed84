/-! ===== pure: an order of a text, carried out on both sides ===== -/
section WY
variable {σ τ ρ : ky_St} {n t p q j : Nat} {r : Nat → Nat} {P Z Z0 : Nat → Int32} {Y : pY} {a b c f s : Int32}
theorem cTS : cT (cS σ Y) p c f s = cS (cT σ p c f s) Y := by
  refine Prod.ext (funext fun a => ?_) rfl
  show (if a = 3 then _ else if a < 20 then σ.1 a else Y (a - 20)) = if a < 20 then (if a = 3 then _ else σ.1 a) else Y (a - 20)
  by_cases h : a = 3
  · subst h
    rfl
  · rw [if_neg h, if_neg h]
theorem upd_0 : upd Z q (Z q + 0) = Z := by
  funext i
  by_cases h : i = q
  · subst h
    rw [pk_us]
    exact Int32.add_zero _
  · exact pk_un h
theorem carries_s (hj : 3 * j + 2 < 66) (ha : τ.1 11 (3 * j) = a) (hb : τ.1 11 (3 * j + 1) = b) (hc : τ.1 11 (3 * j + 2) = c) : fX4_carries (nI j) (mS τ Z) = ky_bd (fX4_canCarry a b c (mS τ Z)) fun v9 s7 => if v9 = 0 then some ((0 : Int32), s7) else if a = 104 then (ky_bd (fX4_hires b c s7) fun v28 s26 => fX4_carries_L92 a c v28 s26) else if a = 109 then (ky_bd (fX4_moves b c s7) fun v25 s23 => fX4_carries_L92 a c v25 s23) else if a = 98 then (ky_bd (fX4_leaves b s7) fun v22 s20 => fX4_carries_L92 a c v22 s20) else fX4_carries_L92 a c 0 s7 := by
  subst ha
  subst hb
  subst hc
  have e2 : nI (3 * j) + (2 : Int32) = nI (3 * j + 2) := nI_add (3 * j) 2
  unfold fX4_carries
  rw [nI_3k0, nI_1, e2, ky_g_s (nI_in (show 3 * j < 66 by omega) (by omega)), ky_bn_s, ky_g_s (nI_in (show 3 * j + 1 < 66 by omega) (by omega)), ky_bn_s, ky_g_s (nI_in (show 3 * j + 2 < 66 by omega) (by omega)), ky_bn_s, nI_clamp (by omega), nI_clamp (by omega), nI_clamp (by omega)]
  rfl
theorem L92_n (ha : a ≠ 100) (x y : Int32) : fX4_carries_L92 a x y (mS τ Z) = some (1, mS τ Z) := by
  unfold fX4_carries_L92
  rw [ky_g_s (by decide), if_neg ha, ky_g_s (by decide), z_2, mS_u1, ky_bn_s, show (mS τ Z).1 8 2 = Z 2 from rfl, upd_0]
theorem L92_d (x y : Int32) : fX4_carries_L92 100 x y (mS τ Z) = some (1, mS τ (upd Z 2 (Z 2 + x))) := by
  unfold fX4_carries_L92
  rw [ky_g_s (by decide), if_pos rfl, ky_g_s (by decide), z_2, mS_u1, ky_bn_s]
  rfl
/-- both sides carry the order out, or neither -/
def cOK (ρ : ky_St) (n j : Nat) (P : Nat → Int32) (Y : pY) : Prop := ∃ b Y', (b = 0 ∨ b = 1) ∧ fX3_carryOut (cS ρ Y) = some (b, cS ρ Y') ∧ pO Y' Y ∧ ∀ τ Z, τ.1 11 = P → pR n Y Z → ∃ Z', fX4_carries (nI j) (mS τ Z) = some (b, mS τ Z') ∧ pR n Y' Z'
theorem cS_h0 (hR : pR n Y Z) : (cS ρ Y).1 20 0 = nI n := (congrFun (cS_row ρ Y 0) 0).trans hR.1.2.1
theorem onSite_out (h0 : σ.1 20 0 = nI n) {x : Nat} (hn : n < 2 ^ 31) (hx : n ≤ x) (hx2 : x < 2 ^ 31) : fX0_isOnSite (nI x) σ = some (0, σ) := by
  unfold fX0_isOnSite fX0_isSet
  rw [h0, if_neg (nI_pos hx2), if_pos (nI_le hx hx2), ky_bd_s rfl, if_pos rfl]
theorem carry_b (hj : 3 * j + 2 < 66) (hR0 : pR n Y Z0) (e3 : ρ.1 3 3 = 98) {x : Nat} (hx : x < 24) (e4 : ρ.1 3 4 = nI x) (hM : P (3 * j) = 98 ∧ P (3 * j + 1) = nI x) : cOK ρ n j P Y := by
  have hn := hR0.1.1
  have hu : ∀ bb σ', fX3_bringByText (nI x) (cS ρ Y) = some (bb, σ') → (bb = 0 ∨ bb = 1) → fX3_carryOut (cS ρ Y) = some (bb, σ') := by
    intro bb σ' h1 h2
    unfold fX3_carryOut
    rw [show (cS ρ Y).1 3 3 = 98 from e3, ky_bn_s, if_pos rfl, show (cS ρ Y).1 3 4 = nI x from e4, ky_bd_s h1, ky_g_s h2]
  by_cases hxn : x < n
  · by_cases hw : Y 2 x = -1
    · refine ⟨0, Y, Or.inl rfl, hu _ _ ?_ (Or.inl rfl), pO.rfl', fun τ Z hP hR => ⟨Z, ?_, hR⟩⟩
      · unfold fX3_bringByText
        rw [ky_bd_s (qC_isOnSite hn (cS_h0 hR0) hxn), bI_f (show ¬ ¬ pB (cS ρ Y) 20 2 x = -1 from fun z => z (by rw [cS_pB]; exact hw)), if_pos rfl]
      · rw [carries_s (a := 98) (b := nI x) hj (by rw [hP]; exact hM.1) (by rw [hP]; exact hM.2) rfl]
        unfold fX4_canCarry
        rw [if_pos rfl, ky_bd_s (isSetT (σ := mS τ Z) hR hxn), if_neg (by decide), ky_bd_s (qM_isInYard (σ := mS τ Z) hR hxn), bI_t hw, if_neg (by decide), ky_bd_s rfl, if_pos rfl]
    · obtain ⟨i, hi, ei⟩ := pSite hR0.1 hxn hw
      refine ⟨1, cBack Y x i, Or.inr rfl, hu _ _ ?_ (Or.inr rfl), cBack_O Y x i, fun τ Z hP hR => ?_⟩
      · unfold fX3_bringByText
        rw [ky_bd_s (qC_isOnSite hn (cS_h0 hR0) hxn), bI_t (show ¬ pB (cS ρ Y) 20 2 x = -1 from fun z => hw (by rw [cS_pB] at z; exact z)), if_neg (by decide), ky_bd_s (qW_takeBack hx hi ρ Y ei)]
      · obtain ⟨Z', z1, z2⟩ := qX_leaves hR hxn hi ei τ
        refine ⟨Z', ?_, z2⟩
        rw [carries_s (a := 98) (b := nI x) hj (by rw [hP]; exact hM.1) (by rw [hP]; exact hM.2) rfl]
        unfold fX4_canCarry
        rw [if_pos rfl, ky_bd_s (isSetT (σ := mS τ Z) hR hxn), if_neg (by decide), ky_bd_s (qM_isInYard (σ := mS τ Z) hR hxn), bI_f hw, if_pos rfl, ky_bd_s rfl, if_neg (by decide), if_neg (by decide), if_neg (by decide), if_pos rfl, ky_bd_s z1, L92_n (by decide)]
  · refine ⟨0, Y, Or.inl rfl, hu _ _ ?_ (Or.inl rfl), pO.rfl', fun τ Z hP hR => ⟨Z, ?_, hR⟩⟩
    · unfold fX3_bringByText
      rw [ky_bd_s (onSite_out (cS_h0 hR0) (by omega) (Nat.le_of_not_lt hxn) (by omega)), if_pos rfl]
    · rw [carries_s (a := 98) (b := nI x) hj (by rw [hP]; exact hM.1) (by rw [hP]; exact hM.2) rfl]
      unfold fX4_canCarry
      rw [if_pos rfl, ky_bd_s (isSetF (σ := mS τ Z) hR (Or.inr (nI_le (Nat.le_of_not_lt hxn) (by omega)))), if_pos rfl, ky_bd_s rfl, if_pos rfl]
theorem carry_d (hj : 3 * j + 2 < 66) (hR0 : pR n Y Z0) (e3 : ρ.1 3 3 = 100) {d : Int32} (e4 : ρ.1 3 4 = d) (hM : P (3 * j) = 100 ∧ P (3 * j + 2) = d) : cOK ρ n j P Y := by
  have hu : ∀ bb σ', fX3_passByText d (cS ρ Y) = some (bb, σ') → (bb = 0 ∨ bb = 1) → fX3_carryOut (cS ρ Y) = some (bb, σ') := by
    intro bb σ' h1 h2
    unfold fX3_carryOut
    rw [show (cS ρ Y).1 3 3 = 100 from e3, ky_bn_s, if_neg (by decide), if_pos rfl, show (cS ρ Y).1 3 4 = d from e4, ky_bd_s h1, ky_g_s h2]
  have e01 : (cS ρ Y).1 20 1 = Y 0 1 := congrFun (cS_row ρ Y 0) 1
  by_cases hw : (9999 : Int32) < Y 0 1 + d
  · refine ⟨0, Y, Or.inl rfl, hu _ _ ?_ (Or.inl rfl), pO.rfl', fun τ Z hP hR => ⟨Z, ?_, hR⟩⟩
    · unfold fX3_passByText fX0_canPass
      rw [e01, if_pos hw, ky_bd_s rfl, if_pos rfl]
    · rw [carries_s (a := 100) (c := d) hj (by rw [hP]; exact hM.1) rfl (by rw [hP]; exact hM.2)]
      unfold fX4_canCarry
      rw [if_neg (by decide), if_neg (by decide), if_neg (by decide), ky_bd_s (qM_canPass (σ := mS τ Z) hR d), if_pos hw, ky_g_s (Or.inl rfl), ky_bd_s rfl, if_pos rfl]
  · refine ⟨1, pU Y 0 1 (Y 0 1 + d), Or.inr rfl, hu _ _ ?_ (Or.inr rfl), pO.rfl'.u (by omega), fun τ Z hP hR => ⟨upd Z 2 (Z 2 + d), ?_, ?_⟩⟩
    · unfold fX3_passByText fX0_canPass
      rw [e01, if_neg hw, ky_bd_s rfl, if_neg (by decide), e01, show ky_u1 (cS ρ Y) 20 1 (Y 0 1 + d) = cS ρ (pU Y 0 1 (Y 0 1 + d)) from cS_u1 (σ := ρ) (Y := Y) 0 1 (Y 0 1 + d), ky_bn_s]
    · rw [carries_s (a := 100) (c := d) hj (by rw [hP]; exact hM.1) rfl (by rw [hP]; exact hM.2)]
      unfold fX4_canCarry
      rw [if_neg (by decide), if_neg (by decide), if_neg (by decide), ky_bd_s (qM_canPass (σ := mS τ Z) hR d), if_neg hw, ky_g_s (Or.inr rfl), ky_bd_s rfl, if_neg (by decide), if_neg (by decide), if_neg (by decide), if_neg (by decide), L92_d]
    · have e2 : Z 2 = Y 0 1 := by
        have := qM_z2 (σ := mS τ Z) hR
        rw [z_2] at this
        exact this
      rw [e2]
      exact pDay_w hR τ
theorem carry_h (hT : pT ρ) (hj : 3 * j + 2 < 66) (hR0 : pR n Y Z0) (e3 : ρ.1 3 3 = 104) {i m : Nat} (hi : i < 6) (hm : m ≤ 24) (e4 : ρ.1 3 4 = nI i) (e5 : ρ.1 3 5 = nI m) (hM : P (3 * j) = 104 ∧ P (3 * j + 1) = nI i ∧ P (3 * j + 2) = nI m) : cOK ρ n j P Y := by
  have hu : ∀ bb σ', fX3_hireByText (nI i) (nI m) (cS ρ Y) = some (bb, σ') → (bb = 0 ∨ bb = 1) → fX3_carryOut (cS ρ Y) = some (bb, σ') := by
    intro bb σ' h1 h2
    unfold fX3_carryOut
    rw [show (cS ρ Y).1 3 3 = 104 from e3, ky_bn_s, if_neg (by decide), if_neg (by decide), if_pos rfl, show (cS ρ Y).1 3 4 = nI i from e4, show (cS ρ Y).1 3 5 = nI m from e5, ky_bd_s h1, ky_g_s h2]
  have hV : pV n (pB (cS ρ Y) 20) := by rw [cS_pB]; exact hR0.1
  have w : fX0_wholeInYard (cS ρ Y) = some (pIW Y n, cS ρ Y) := by
    have := qC_wholeInYard (n := n) (σ := cS ρ Y) hT hV
    rw [cS_pB] at this
    exact this
  by_cases hw : pIW Y n < nI m
  · refine ⟨0, Y, Or.inl rfl, hu _ _ ?_ (Or.inl rfl), pO.rfl', fun τ Z hP hR => ⟨Z, ?_, hR⟩⟩
    · unfold fX3_hireByText
      rw [ky_bd_s w, if_neg (fun z => nlt_le.mp z hw)]
    · rw [carries_s (a := 104) (b := nI i) (c := nI m) hj (by rw [hP]; exact hM.1) (by rw [hP]; exact hM.2.1) (by rw [hP]; exact hM.2.2)]
      unfold fX4_canCarry
      rw [if_neg (by decide), if_pos rfl, ky_bd_s (qM_canHire (σ := mS τ Z) hR _), if_pos hw, ky_g_s (Or.inl rfl), ky_bd_s rfl, if_pos rfl]
  · refine ⟨1, cHi (nI i) n m 0 Y, Or.inr rfl, hu _ _ ?_ (Or.inr rfl), cHi_O _ _ _ _ _, fun τ Z hP hR => ?_⟩
    · unfold fX3_hireByText
      rw [ky_bd_s w, if_pos (nlt_le.mpr hw), ky_bd_s (qW_hireOut hT hR0.1 hi hm)]
    · obtain ⟨Z', z1, z2⟩ := qX_hires hR hi hm τ
      refine ⟨Z', ?_, z2⟩
      rw [carries_s (a := 104) (b := nI i) (c := nI m) hj (by rw [hP]; exact hM.1) (by rw [hP]; exact hM.2.1) (by rw [hP]; exact hM.2.2)]
      unfold fX4_canCarry
      rw [if_neg (by decide), if_pos rfl, ky_bd_s (qM_canHire (σ := mS τ Z) hR _), if_neg hw, ky_g_s (Or.inr rfl), ky_bd_s rfl, if_neg (by decide), if_pos rfl, ky_bd_s z1, L92_n (by decide)]
theorem carry_m (hj : 3 * j + 2 < 66) (hR0 : pR n Y Z0) (e3 : ρ.1 3 3 = 109) {x i : Nat} (hx : x < 24) (hi : i < 6) (e4 : ρ.1 3 4 = nI x) (e5 : ρ.1 3 5 = nI i) (hM : P (3 * j) = 109 ∧ P (3 * j + 1) = nI x ∧ P (3 * j + 2) = nI i) : cOK ρ n j P Y := by
  have hn := hR0.1.1
  have hu : ∀ bb σ', fX3_moveByText (nI x) (nI i) (cS ρ Y) = some (bb, σ') → (bb = 0 ∨ bb = 1) → fX3_carryOut (cS ρ Y) = some (bb, σ') := by
    intro bb σ' h1 h2
    unfold fX3_carryOut
    rw [show (cS ρ Y).1 3 3 = 109 from e3, ky_bn_s, if_neg (by decide), if_neg (by decide), if_neg (by decide), if_pos rfl, show (cS ρ Y).1 3 4 = nI x from e4, show (cS ρ Y).1 3 5 = nI i from e5, ky_bd_s h1, ky_g_s h2]
  by_cases hxn : x < n
  · have cm : fX0_canMove (nI x) (nI i) (cS ρ Y) = some (if Y 2 x = -1 then 0 else if Y 2 x = nI i then 0 else 1, cS ρ Y) := by
      have := qC_canMove (σ := cS ρ Y) hn (cS_h0 hR0) hxn hi
      rw [cS_pB] at this
      exact this
    by_cases hw : (if Y 2 x = -1 then (0 : Int32) else if Y 2 x = nI i then 0 else 1) = 0
    · refine ⟨0, Y, Or.inl rfl, hu _ _ ?_ (Or.inl rfl), pO.rfl', fun τ Z hP hR => ⟨Z, ?_, hR⟩⟩
      · unfold fX3_moveByText
        rw [ky_bd_s cm, if_pos hw]
      · rw [carries_s (a := 109) (b := nI x) (c := nI i) hj (by rw [hP]; exact hM.1) (by rw [hP]; exact hM.2.1) (by rw [hP]; exact hM.2.2)]
        unfold fX4_canCarry
        rw [if_neg (by decide), if_neg (by decide), if_pos rfl, ky_bd_s (isSetT (σ := mS τ Z) hR hxn), if_neg (by decide), ky_bd_s (qM_canMove (σ := mS τ Z) hR hxn _), if_pos hw, ky_bd_s rfl, if_pos rfl]
    · have hw1 : ¬ Y 2 x = -1 := fun e => hw (if_pos e)
      obtain ⟨i0, hi0, ei⟩ := pSite hR0.1 hxn hw1
      refine ⟨1, cMove Y x i0 (nI i), Or.inr rfl, hu _ _ ?_ (Or.inr rfl), cMove_O Y x i0 _, fun τ Z hP hR => ?_⟩
      · unfold fX3_moveByText
        rw [ky_bd_s cm, if_neg hw, ky_bd_s (qW_moveTo hx hi0 (nI i) ρ Y ei)]
      · obtain ⟨Z', z1, z2⟩ := qX_moves hR hxn hi0 ei hi τ
        refine ⟨Z', ?_, z2⟩
        rw [carries_s (a := 109) (b := nI x) (c := nI i) hj (by rw [hP]; exact hM.1) (by rw [hP]; exact hM.2.1) (by rw [hP]; exact hM.2.2)]
        unfold fX4_canCarry
        rw [if_neg (by decide), if_neg (by decide), if_pos rfl, ky_bd_s (isSetT (σ := mS τ Z) hR hxn), if_neg (by decide), ky_bd_s (qM_canMove (σ := mS τ Z) hR hxn _), if_neg hw, ky_bd_s rfl, if_neg (by decide), if_neg (by decide), if_pos rfl, ky_bd_s z1, L92_n (by decide)]
  · refine ⟨0, Y, Or.inl rfl, hu _ _ ?_ (Or.inl rfl), pO.rfl', fun τ Z hP hR => ⟨Z, ?_, hR⟩⟩
    · have cmo : fX0_canMove (nI x) (nI i) (cS ρ Y) = some (0, cS ρ Y) := by
        unfold fX0_canMove
        rw [ky_bd_s (onSite_out (cS_h0 hR0) (by omega) (Nat.le_of_not_lt hxn) (by omega)), if_pos rfl]
      unfold fX3_moveByText
      rw [ky_bd_s cmo, if_pos rfl]
    · rw [carries_s (a := 109) (b := nI x) (c := nI i) hj (by rw [hP]; exact hM.1) (by rw [hP]; exact hM.2.1) (by rw [hP]; exact hM.2.2)]
      unfold fX4_canCarry
      rw [if_neg (by decide), if_neg (by decide), if_pos rfl, ky_bd_s (isSetF (σ := mS τ Z) hR (Or.inr (nI_le (Nat.le_of_not_lt hxn) (by omega)))), if_pos rfl, ky_bd_s rfl, if_pos rfl]
theorem carry (hT : pT ρ) (hj : 3 * j + 2 < 66) (hR0 : pR n Y Z0) (e3 : ρ.1 3 3 = a) (e4 : ρ.1 3 4 = f) (e5 : a = 104 ∨ a = 109 → ρ.1 3 5 = s) (hv : oVal a f s) (hM : oMt P j a f s) : cOK ρ n j P Y := by
  rcases hv with ⟨rfl, x, hx, rfl⟩ | ⟨rfl, d, hd, rfl⟩ | ⟨rfl, ⟨i, hi, rfl⟩, m, hm, rfl⟩ | ⟨rfl, ⟨x, hx, rfl⟩, i, hi, rfl⟩
  · exact carry_b hj hR0 e3 hx e4 ⟨hM.1, hM.2.1 rfl⟩
  · exact carry_d hj hR0 e3 e4 ⟨hM.1, hM.2.2.1 rfl⟩
  · exact carry_h hT hj hR0 e3 hi hm e4 (e5 (Or.inl rfl)) ⟨hM.1, hM.2.2.2 (Or.inl rfl)⟩
  · exact carry_m hj hR0 e3 hx hi e4 (e5 (Or.inr rfl)) ⟨hM.1, hM.2.2.2 (Or.inr rfl)⟩
end WY
