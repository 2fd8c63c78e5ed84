/-! ===== pure: the model's writes: damage, hiring, buying ===== -/
section WD
variable {n : Nat} {σ : ky_St} {s : Nat} {Y : pY} {Z : Nat → Int32}
/-- the first u users billed -/
def cUs (Y : pY) (s : Nat) (c : Int32) (u : Nat) : pY := fun r i => if r = 11 ∧ i < 6 then Y 11 i + pS (fun w => if Y 5 (3 * s + w) = nI i then pSu Y s w c else 0) u else Y r i
theorem cUs_row {c : Int32} {u r : Nat} (h : r ≠ 11) : cUs Y s c u r = Y r := by
  funext i
  unfold cUs
  rw [if_neg (fun q => h q.1)]
theorem cUs_V {c : Int32} {u : Nat} (h : pV n Y) : pV n (cUs Y s c u) :=
  h.cg (by rw [cUs_row (by decide)]) (cUs_row (by decide)) (cUs_row (by decide)) (cUs_row (by decide)) (cUs_row (by decide)) (cUs_row (by decide)) (cUs_row (by decide))
theorem cUs_s {c : Int32} {u i : Nat} (hi : i < 6) (hu : Y 5 (3 * s + u) = nI i) : pU (cUs Y s c u) 11 i (cUs Y s c u 11 i + pSu Y s u c) = cUs Y s c (u + 1) := by
  funext a b
  unfold pU cUs
  by_cases h1 : a = 11 ∧ b = i
  · obtain ⟨rfl, rfl⟩ := h1
    rw [if_pos ⟨rfl, rfl⟩, if_pos ⟨rfl, hi⟩, if_pos ⟨rfl, hi⟩, pS, if_pos hu]
    grind
  · rw [if_neg h1]
    by_cases h2 : a = 11 ∧ b < 6
    · rw [if_pos h2, if_pos h2, pS, if_neg ?_, Int32.add_zero]
      rw [hu, nI_eq (by omega) (by omega)]
      exact fun e => h1 ⟨h2.1, e.symm⟩
    · rw [if_neg h2, if_neg h2]
theorem pUs_cU {c : Int32} {u : Nat} : pUs (cUs Y s c u) s = pUs Y s := by unfold pUs; rw [cUs_row (by decide)]
theorem pSu_cU {c x : Int32} {u w : Nat} : pSu (cUs Y s c u) s w x = pSu Y s w x := by unfold pSu; rw [pUs_cU]
/-- a user's place: filled while it is below their number -/
theorem pUs_at (hV : pV n Y) (hs : s < n) {u : Nat} (hu : u < 3) : (pUs Y s ≤ nI u ∧ Y 5 (3 * s + u) = -1) ∨ (¬ pUs Y s ≤ nI u ∧ ∃ i, i < 6 ∧ Y 5 (3 * s + u) = nI i) := by
  have hc : u = 0 ∨ u = 1 ∨ u = 2 := by omega
  have hx := (hV.2.2.2.1 s hs).2.2.1 u hu
  rcases pUs_k hV hs with ⟨e, a0, a1, a2⟩ | ⟨e, a0, a1, a2⟩ | ⟨e, a0, a1, a2⟩ | ⟨e, a0, a1, a2⟩ <;> rcases hc with rfl | rfl | rfl <;> rw [e] <;>
    first
    | exact Or.inl ⟨by decide, by assumption⟩
    | exact Or.inr ⟨by decide, hx.resolve_left (by assumption)⟩
theorem cUs_end (hV : pV n Y) (hs : s < n) {c : Int32} {u : Nat} (hu : u ≤ 3) (h : pUs Y s ≤ nI u) : cUs Y s c u = cDm Y s c 6 := by
  have key : ∀ i, i < 6 → pS (fun w => if Y 5 (3 * s + w) = nI i then pSu Y s w c else 0) u = pSh Y s c (nI i) := by
    intro i hi
    rw [← pSu_sum hV hs c (nI i) (nI_m1 (by omega))]
    have ext : ∀ d v, v + d = 3 → pUs Y s ≤ nI v → pS (fun w => if Y 5 (3 * s + w) = nI i then pSu Y s w c else 0) v = pS (fun w => if Y 5 (3 * s + w) = nI i then pSu Y s w c else 0) 3 := by
      intro d
      induction d with
      | zero => intro v hv _; rw [show v = 3 by omega]
      | succ d ih =>
        intro v hv hp
        have e : Y 5 (3 * s + v) = -1 := by
          rcases pUs_at hV hs (u := v) (by omega) with q | q
          · exact q.2
          · exact absurd hp q.1
        have hp2 : pUs Y s ≤ nI (v + 1) := Int32.le_trans hp (nI_le (by omega) (by omega))
        rw [← ih (v + 1) (by omega) hp2]
        rw [show pS (fun w => if Y 5 (3 * s + w) = nI i then pSu Y s w c else 0) (v + 1) = pS (fun w => if Y 5 (3 * s + w) = nI i then pSu Y s w c else 0) v + (if Y 5 (3 * s + v) = nI i then pSu Y s v c else 0) from rfl, if_neg (by rw [e]; exact fun q => nI_m1 (by omega) q.symm), Int32.add_zero]
    exact ext (3 - u) u (by omega) h
  funext a b
  unfold cUs cDm
  by_cases h2 : a = 11 ∧ b < 6
  · rw [if_pos h2, if_pos h2, key b h2.2]
  · rw [if_neg h2, if_neg h2]
theorem cUs_0 {c : Int32} : cUs Y s c 0 = Y := by
  funext a b
  unfold cUs
  by_cases h2 : a = 11 ∧ b < 6
  · rw [if_pos h2, h2.1]
    exact Int32.add_zero _
  · rw [if_neg h2]
theorem cDm_bo (Y : pY) (c d : Int32) : pU (cDm Y s c 6) 0 3 (Y 0 3 + d) = cDm (pU Y 0 3 (Y 0 3 + d)) s c 6 := by
  funext a b
  unfold pU cDm
  by_cases h : a = 0 ∧ b = 3
  · rw [if_pos h, if_neg (by omega)]
    exact (if_pos h).symm
  · rw [if_neg h]
    by_cases h2 : a = 11 ∧ b < 6
    · rw [if_pos h2, if_pos h2]
      rfl
    · rw [if_neg h2, if_neg h2]
      exact (if_neg h).symm
theorem qX_dm_L (hs : s < n) (c : Int32) (Y : pY) (σ : ky_St) : ∀ (m i fu : Nat) (Z : Nat → Int32), i + m = 4 → m < fu → i ≤ 3 → pR n (cUs Y s c i) Z → pV n Y → ∃ Z', fX4_damage_L86 fu (nI s) c (nI i) (mS σ Z) = some (c, mS σ Z') ∧ pR n (cDm (cBo Y s c) s c 6) Z' := by
  intro m
  induction m with
  | zero => intro i fu Z h hf h3; omega
  | succ m ih =>
    intro i fu Z h hf h3 hR hV
    obtain ⟨fu, rfl⟩ : ∃ q, fu = q + 1 := ⟨fu - 1, by omega⟩
    have eU : fX4_usersOf (nI s) (mS σ Z) = some (pUs Y s, mS σ Z) := by
      rw [qM_usersOf (σ := mS σ Z) hR hs, pUs_cU]
    have e5 : (mS σ Z).1 8 (5 : Int32).toNatClampNeg = Y 0 3 := (qM_z5 (σ := mS σ Z) hR).trans (by rw [cUs_row (by decide)])
    rw [fX4_damage_L86, ky_bd_s eU]
    by_cases hp : pUs Y s ≤ nI i
    · rw [if_pos hp, ky_g_s (by decide), ky_bd_s eU]
      have hE := cUs_end hV hs (c := c) h3 hp
      rw [hE] at hR
      have fin : ∀ d : Int32, pR n (pU (cDm Y s c 6) 0 3 (Y 0 3 + d)) (upd Z 5 (Y 0 3 + d)) := fun d => hR.w (r := 0) (i := 3) (p := 5) (show 3 < 5 by omega) rfl (by decide) (hR.1.w (Or.inr (Or.inr ⟨rfl, by decide⟩)))
      unfold cBo
      by_cases h0 : pUs Y s = 0
      · rw [if_pos h0, if_pos h0, ky_g_s (by decide), ky_bn_s, e5, z_5, mS_u1]
        refine ⟨_, rfl, ?_⟩
        have := fin c
        rw [cDm_bo] at this
        have e : cDm (pU Y 0 3 (Y 0 3 + c)) s c 6 = cDm (pU Y 0 3 (Y 0 3 + c)) s c 6 := rfl
        exact this
      · rw [if_neg h0, if_neg h0, ky_g_s (by decide), ky_bn_s, e5, z_5, mS_u1]
        refine ⟨_, rfl, ?_⟩
        have := fin 0
        rw [Int32.add_zero] at this ⊢
        refine this.cg hR.1 (fun r i _ => ?_)
        unfold pU
        by_cases h1 : r = 0 ∧ i = 3
        · rw [if_pos h1, h1.1, h1.2]
          rfl
        · rw [if_neg h1]
    · rw [if_neg hp]
      have hi3 : i < 3 := by
        have : i ≠ 3 := by
          intro e
          subst e
          obtain ⟨q, hq, eq⟩ := @pUs_n Y s
          rw [eq] at hp
          exact hp (nI_le (by omega) (by omega))
        omega
      obtain ⟨x, hx, ex⟩ := ((pUs_at hV hs hi3).resolve_left (fun q => hp q.1)).2
      have e1 : fX4_of (nI s) ((6 : Int32) + nI i) (mS σ Z) = some (nI x, mS σ Z) := by
        rw [qM_u (σ := mS σ Z) hR hs hi3, cUs_row (by decide), ex]
      have e2 : fX4_shareOf (nI s) (nI i) c (mS σ Z) = some (pSu Y s i c, mS σ Z) := by
        rw [qM_shareOf (σ := mS σ Z) hR hs hi3, pSu_cU]
      have e3 : Z (21 + 4 * x) = cUs Y s c i 11 x := hR.2.1 11 x hx
      have r1 := hR.w (r := 11) (i := x) (v := cUs Y s c i 11 x + pSu Y s i c) hx rfl (by decide) (hR.1.w (Or.inr (Or.inl (by omega))))
      rw [cUs_s hx ex] at r1
      rw [ky_bd_s e1, ky_bd_s e2, ky_bd_s (mB (s := x) (x := nI x) (y := 2) (w := 2) (p := 21 + 4 * x) rfl rfl (by omega) (by omega) _ σ Z), e3, ky_bn_s, nI_1]
      exact ih (i + 1) fu _ (by omega) (by omega) (by omega) r1 hV
theorem qX_dm (hR : pR n Y Z) (hs : s < n) (c : Int32) (σ : ky_St) : ∃ Z', fX4_damage_L86 FU (nI s) c 0 (mS σ Z) = some (c, mS σ Z') ∧ pR n (cDm (cBo Y s c) s c 6) Z' :=
  qX_dm_L hs c Y σ 4 0 FU Z rfl (by decide) (by omega) (by rw [cUs_0]; exact hR) hR.1
theorem cCome_V (h : pV n Y) (hs : s < n) {x : Nat} (hx : x < 6) : pV n (cCome Y s (nI x)) :=
  (aU_V (((h.w2 hs (Or.inr ⟨x, hx, rfl⟩)).w3 hs).w4 hs) hs hx).2.2.w (Or.inr (Or.inr ⟨rfl, by decide⟩))
/-- hiring: sets one after another -/
def cHi (x : Int32) : Nat → Nat → Nat → pY → pY
  | 0, _, _, Y => Y
  | m + 1, c, i, Y => if c = 0 then Y else if Y 2 i = -1 then (if pWb Y i = true then cHi x m (c - 1) (i + 1) (cCome Y i x) else cHi x m c (i + 1) Y) else cHi x m c (i + 1) Y
theorem nI_z {c : Nat} (hc : c < 2 ^ 31) : nI c ≤ 0 ↔ c = 0 := by
  rw [show (0 : Int32) = nI 0 from rfl, nI_leI hc (by omega)]
  omega
theorem nI_d {c : Nat} (h : c ≠ 0) : nI c + (-1 : Int32) = nI (c - 1) := by
  have : nI c = nI (c - 1) + nI 1 := by rw [nI_add, Nat.sub_add_cancel (by omega)]
  rw [this, show nI 1 = (1 : Int32) from rfl]
  grind
theorem qW_hireOut_L (hT : pT σ) {x : Nat} (hx : x < 6) : ∀ (m i c fu : Nat) (Y : pY), i + m = n → m < fu → c ≤ 24 → pV n Y → fX0_hireOut_L5 fu (nI x) (nI c) (nI i) (cS σ Y) = some ((), cS σ (cHi (nI x) m c i Y)) := by
  intro m
  induction m with
  | zero =>
    intro i c fu Y h hf hc hV
    obtain ⟨fu, rfl⟩ : ∃ q, fu = q + 1 := ⟨fu - 1, by omega⟩
    have hn := hV.1
    rw [fX0_hireOut_L5, show (cS σ Y).1 20 0 = nI n from (congrFun (cS_row σ Y 0) 0).trans hV.2.1, if_pos (nI_le (by omega) (by omega))]
    rfl
  | succ m ih =>
    intro i c fu Y h hf hc hV
    obtain ⟨fu, rfl⟩ : ∃ q, fu = q + 1 := ⟨fu - 1, by omega⟩
    have hn := hV.1
    have h00 : (cS σ Y).1 20 0 = nI n := (congrFun (cS_row σ Y 0) 0).trans hV.2.1
    have hV' : pV n (pB (cS σ Y) 20) := by rw [cS_pB]; exact hV
    rw [fX0_hireOut_L5, h00, if_neg (nI_ge (by omega) (by omega)), cHi]
    by_cases hz : c = 0
    · rw [if_pos ((nI_z (by omega)).mpr hz), if_pos hz]
    · rw [if_neg (fun q => hz ((nI_z (by omega)).mp q)), if_neg hz, ky_bd_s (qC_isInYard hn h00 (by omega)), cS_pB]
      by_cases hw : Y 2 i = -1
      · rw [bI_t hw, if_neg (by decide), if_pos hw, ky_bd_s (qC_isWhole (σ := cS σ Y) hT hV' (by omega)), cS_pB]
        by_cases hb : pWb Y i = true
        · rw [if_pos hb, if_neg (by decide), if_pos hb, ky_bd_s (qW_comeTo (by omega) _ σ Y), ky_bn_s, ky_bn_s, nI_d hz, nI_1]
          exact ih (i + 1) (c - 1) fu _ (by omega) (by omega) (by omega) (cCome_V hV (by omega) hx)
        · rw [if_neg hb, if_pos rfl, if_neg hb, ky_bn_s, nI_1]
          exact ih (i + 1) c fu _ (by omega) (by omega) hc hV
      · rw [bI_f hw, if_pos rfl, if_neg hw, ky_bn_s, nI_1]
        exact ih (i + 1) c fu _ (by omega) (by omega) hc hV
theorem qW_hireOut (hT : pT σ) (hV : pV n Y) {x c : Nat} (hx : x < 6) (hc : c ≤ 24) : fX0_hireOut (nI x) (nI c) (cS σ Y) = some ((), cS σ (cHi (nI x) n c 0 Y)) :=
  qW_hireOut_L hT hx n 0 c FU Y (by omega) (by have := hV.1; show n < 4000; omega) hc hV
theorem qX_hires_L {x : Nat} (hx : x < 6) (σ : ky_St) : ∀ (m i c fu : Nat) (Y : pY) (Z : Nat → Int32), i + m = n → m < fu → c ≤ 24 → pR n Y Z → ∃ Z', fX4_hires_L5 fu (nI x) (nI c) (nI i) (mS σ Z) = some (pIW (cHi (nI x) m c i Y) n, mS σ Z') ∧ pR n (cHi (nI x) m c i Y) Z' := by
  intro m
  induction m with
  | zero =>
    intro i c fu Y Z h hf hc hR
    obtain ⟨fu, rfl⟩ : ∃ q, fu = q + 1 := ⟨fu - 1, by omega⟩
    have hn := hR.1.1
    rw [fX4_hires_L5, ky_g_s (by decide), qM_z3 (σ := mS σ Z) hR, if_pos (nI_le (by omega) (by omega)), ky_bd_s (qM_inYard1 (σ := mS σ Z) hR)]
    exact ⟨Z, rfl, hR⟩
  | succ m ih =>
    intro i c fu Y Z h hf hc hR
    obtain ⟨fu, rfl⟩ : ∃ q, fu = q + 1 := ⟨fu - 1, by omega⟩
    have hn := hR.1.1
    rw [fX4_hires_L5, ky_g_s (by decide), qM_z3 (σ := mS σ Z) hR, if_neg (nI_ge (by omega) (by omega)), cHi]
    by_cases hz : c = 0
    · rw [if_pos ((nI_z (by omega)).mpr hz), if_pos hz, ky_bd_s (qM_inYard1 (σ := mS σ Z) hR)]
      exact ⟨Z, rfl, hR⟩
    · rw [if_neg (fun q => hz ((nI_z (by omega)).mp q)), if_neg hz, ky_bd_s (qM_isInYard (σ := mS σ Z) hR (by omega))]
      by_cases hw : Y 2 i = -1
      · rw [bI_t hw, if_neg (by decide), if_pos hw, ky_bd_s (qM_isWhole (σ := mS σ Z) hR (by omega))]
        by_cases hb : pWb Y i = true
        · obtain ⟨Z1, q1, q2⟩ := qX_comes hR (s := i) (by omega) hx σ
          rw [if_pos hb, if_neg (by decide), if_pos hb, ky_bd_s q1, ky_bn_s, ky_bn_s, nI_d hz, nI_1]
          exact ih (i + 1) (c - 1) fu _ _ (by omega) (by omega) (by omega) q2
        · rw [if_neg hb, if_pos rfl, if_neg hb, ky_bn_s, nI_1]
          exact ih (i + 1) c fu _ _ (by omega) (by omega) hc hR
      · rw [bI_f hw, if_pos rfl, if_neg hw, ky_bn_s, nI_1]
        exact ih (i + 1) c fu _ _ (by omega) (by omega) hc hR
theorem qX_hires (hR : pR n Y Z) {x c : Nat} (hx : x < 6) (hc : c ≤ 24) (σ : ky_St) : ∃ Z', fX4_hires (nI x) (nI c) (mS σ Z) = some (pIW (cHi (nI x) n c 0 Y) n, mS σ Z') ∧ pR n (cHi (nI x) n c 0 Y) Z' :=
  qX_hires_L hx σ n 0 c FU Y Z (by omega) (by have := hR.1.1; show n < 4000; omega) hc hR
end WD
