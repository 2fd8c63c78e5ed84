/-! ===== pure: the model's history; the whole relation ===== -/
section WG
variable {n : Nat} {σ : ky_St} {s : Nat} {Y : pY} {Z : Nat → Int32}
def nS (σ : ky_St) (R : Nat → Int32) : ky_St := (fun k => if k = 9 then R else σ.1 k, σ.2)
theorem nS_id (σ : ky_St) : nS σ (σ.1 9) = σ := by
  refine Prod.ext (funext fun k => ?_) rfl
  show (if k = 9 then σ.1 9 else σ.1 k) = σ.1 k
  by_cases h : k = 9
  · rw [if_pos h, h]
  · rw [if_neg h]
theorem nS_u1 {R : Nat → Int32} (p : Nat) (v : Int32) : ky_u1 (nS σ R) 9 p v = nS σ (upd R p v) := by
  refine Prod.ext (funext fun k => funext fun j => ?_) rfl
  show (if k = 9 ∧ j = p then v else (if k = 9 then R else σ.1 k) j) = (if k = 9 then upd R p v else σ.1 k) j
  by_cases h : k = 9
  · rw [if_pos h, if_pos h]
    show _ = if j = p then v else R j
    by_cases h2 : j = p
    · rw [if_pos h2, if_pos ⟨h, h2⟩]
    · rw [if_neg h2, if_neg (fun q => h2 q.2)]
  · rw [if_neg (fun q => h q.1), if_neg h, if_neg h]
theorem nS_c {R : Nat → Int32} (f : Nat) (v : Int32) : ky_u1 (nS σ R) 7 f v = nS (ky_u1 σ 7 f v) R := by
  refine Prod.ext (funext fun k => funext fun j => ?_) rfl
  show (if k = 7 ∧ j = f then v else (if k = 9 then R else σ.1 k) j) = (if k = 9 then R else (ky_u1 σ 7 f v).1 k) j
  by_cases h : k = 9
  · subst h
    rw [if_neg (by omega), if_pos rfl, if_pos rfl]
  · rw [if_neg h, if_neg h]
    rfl
theorem nI_283 (h i : Nat) : (283 : Int32) * nI h + nI i = nI (283 * h + i) := by rw [show (283 : Int32) = nI 283 from rfl, pk_mul, nI_add]
theorem qM_save_L54 {h : Nat} (h5 : h ≤ 5) (e7 : σ.1 7 1 = nI h) : ∀ (m i fu : Nat) (R : Nat → Int32), i + m = 283 → m < fu → ∃ R', fX4_save_L54 fu (nI i) (nS σ R) = some ((), ky_u1 (nS σ R') 7 1 (nI (h + 1))) ∧ ∀ p, R' p = if 283 * h + i ≤ p ∧ p < 283 * h + 283 then σ.1 8 (p - 283 * h) else R p := by
  intro m
  induction m with
  | zero =>
    intro i fu R h1 hf
    obtain ⟨fu, rfl⟩ : ∃ q, fu = q + 1 := ⟨fu - 1, by omega⟩
    have : i = 283 := by omega
    subst this
    refine ⟨R, ?_, fun p => (if_neg (by omega)).symm⟩
    rw [fX4_save_L54, if_pos (show (283 : Int32) ≤ nI 283 from nI_le (a := 283) (b := 283) (Nat.le_refl _) (by omega)), ky_bn_s, show (nS σ R).1 7 1 = nI h from e7, nI_1]
  | succ m ih =>
    intro i fu R h1 hf
    obtain ⟨fu, rfl⟩ : ∃ q, fu = q + 1 := ⟨fu - 1, by omega⟩
    obtain ⟨R', q1, q2⟩ := ih (i + 1) fu (upd R (283 * h + i) (σ.1 8 i)) (by omega) (by omega)
    refine ⟨R', ?_, fun p => (q2 p).trans ?_⟩
    · rw [fX4_save_L54, if_neg (show ¬ (283 : Int32) ≤ nI i from nI_ge (a := i) (b := 283) (by omega) (by omega)), ky_g_s (nI_in (by omega) (by omega)), show (nS σ R).1 7 1 = nI h from e7, nI_283, ky_g_s (nI_in (by omega) (by omega)), nI_clamp (by omega), nI_clamp (by omega), show (nS σ R).1 8 i = σ.1 8 i from rfl, nS_u1, ky_bn_s, ky_bn_s, nI_1]
      exact q1
    · by_cases a : 283 * h + (i + 1) ≤ p ∧ p < 283 * h + 283
      · rw [if_pos a, if_pos (by omega)]
      · rw [if_neg a]
        show (if p = 283 * h + i then σ.1 8 i else R p) = _
        by_cases b : p = 283 * h + i
        · rw [if_pos b, if_pos (by omega), b, Nat.add_sub_cancel_left]
        · rw [if_neg b, if_neg (by omega)]
theorem qM_save_L13 (e7 : σ.1 7 1 = nI 6) : ∀ (m i fu : Nat) (R : Nat → Int32), i + m = 1698 → m < fu → 283 ≤ i → ∃ R', fX4_save_L13 fu (nI i) (nS σ R) = fX4_save_L54 FU 0 (ky_u1 (nS σ R') 7 1 (nI 5)) ∧ ∀ p, R' p = if i ≤ p + 283 ∧ p < 1415 then R (p + 283) else R p := by
  intro m
  induction m with
  | zero =>
    intro i fu R h1 hf h2
    obtain ⟨fu, rfl⟩ : ∃ q, fu = q + 1 := ⟨fu - 1, by omega⟩
    have : i = 1698 := by omega
    subst this
    refine ⟨R, ?_, fun p => (if_neg (by omega)).symm⟩
    rw [fX4_save_L13, if_pos (show (1698 : Int32) ≤ nI 1698 from nI_le (a := 1698) (b := 1698) (Nat.le_refl _) (by omega)), ky_bn_s, show (nS σ R).1 7 1 = nI 6 from e7, nI_m 6 5 rfl]
  | succ m ih =>
    intro i fu R h1 hf h2
    obtain ⟨fu, rfl⟩ : ∃ q, fu = q + 1 := ⟨fu - 1, by omega⟩
    obtain ⟨R', q1, q2⟩ := ih (i + 1) fu (upd R (i - 283) (R i)) (by omega) (by omega) (by omega)
    refine ⟨R', ?_, fun p => (q2 p).trans ?_⟩
    · have es : nI i - (283 : Int32) = nI (i - 283) := by
        have : nI i = nI (i - 283) + nI 283 := by rw [nI_add, Nat.sub_add_cancel h2]
        rw [this, show nI 283 = (283 : Int32) from rfl]
        grind
      rw [fX4_save_L13, if_neg (show ¬ (1698 : Int32) ≤ nI i from nI_ge (a := i) (b := 1698) (by omega) (by omega)), ky_g_s (nI_in (by omega) (by omega)), es, ky_g_s (nI_in (by omega) (by omega)), nI_clamp (by omega), nI_clamp (by omega), show (nS σ R).1 9 i = R i from rfl, nS_u1, ky_bn_s, ky_bn_s, nI_1]
      exact q1
    · by_cases a : i + 1 ≤ p + 283 ∧ p < 1415
      · rw [if_pos a, if_pos (by omega)]
        exact if_neg (by omega)
      · rw [if_neg a]
        show (if p = i - 283 then R i else R p) = _
        by_cases b : p = i - 283
        · rw [if_pos b, if_pos (by omega), b, Nat.sub_add_cancel h2]
        · rw [if_neg b, if_neg (by omega)]
theorem nS_hi {R : Nat → Int32} {b f r i : Nat} {v : Int32} (hb : 33 ≤ b) : pB (ky_u1 (nS σ R) 7 f v) b r i = pB σ b r i := by
  show (ky_u1 (nS σ R) 7 f v).1 (b + r) i = σ.1 (b + r) i
  rw [ky_u1_ne (by omega)]
  exact congrFun (if_neg (by omega)) i
theorem qM_save {τ : ky_St} (hK : pHk τ) : ∃ τ', fX4_save τ = some ((), τ') ∧ pHi τ' ∧ (∀ k, k ≠ 7 → k ≠ 9 → τ'.1 k = τ.1 k) ∧ (∀ f, f ≠ 1 → τ'.1 7 f = τ.1 7 f) ∧ τ'.2 = τ.2 := by
  obtain ⟨h, q, h6, q6, e1, e2, e3, e4, m, em⟩ := hK
  unfold fX4_save
  by_cases e : h = 6
  · subst e
    rw [if_pos (show τ.1 7 1 = (6 : Int32) from e3)]
    obtain ⟨R1, a1, a2⟩ := qM_save_L13 (σ := τ) e3 1415 283 FU (τ.1 9) rfl (by decide) (by omega)
    rw [nS_id] at a1
    obtain ⟨R2, b1, b2⟩ := qM_save_L54 (σ := ky_u1 τ 7 1 (nI 5)) (h := 5) (by omega) (by rw [ky_u1_row]; exact if_pos rfl) 283 0 FU R1 rfl (by decide)
    rw [← nS_c] at b1
    refine ⟨_, (show fX4_save_L13 FU (283 : Int32) τ = _ from a1).trans b1, ?_, fun k h7 h9 => ?_, fun f hf => ?_, rfl⟩
    · refine ⟨6, (q + 1) % 6, by omega, by omega, e1, e2, ?_, fun j hj => ?_⟩
      · rw [ky_u1_row]
        exact if_pos rfl
      · by_cases ej : j = 5
        · subst ej
          refine ⟨m, ?_⟩
          rw [show ((q + 1) % 6 + 6 - 6 + 5) % 6 = q by omega]
          refine (em.zc (fun p hp => ?_)).ir (fun r i _ _ => (nS_hi (by omega)).trans (congrFun (ky_u1_ne (by omega)) i))
          show R2 (283 * 5 + p) = _
          rw [b2, if_pos (by omega), show 283 * 5 + p - 283 * 5 = p by omega]
          rw [ky_u1_ne (by decide)]
        · obtain ⟨mj, hm⟩ := e4 (j + 1) (by omega) (fun _ => by omega)
          refine ⟨mj, ?_⟩
          rw [show ((q + 1) % 6 + 6 - 6 + j) % 6 = (q + 6 - 6 + (j + 1)) % 6 by omega]
          refine (hm.zc (fun p hp => ?_)).ir (fun r i _ _ => (nS_hi (by omega)).trans (congrFun (ky_u1_ne (by omega)) i))
          show R2 (283 * j + p) = _
          rw [b2, if_neg (by omega), a2, if_pos (by omega)]
          exact congrArg (τ.1 9) (by omega)
    · rw [ky_u1_ne h7]
      show (if k = 9 then _ else (ky_u1 τ 7 1 (nI 5)).1 k) = _
      rw [if_neg h9, ky_u1_ne h7]
    · rw [ky_u1_row]
      show (if f = 1 then _ else (ky_u1 τ 7 1 (nI 5)).1 7 f) = _
      rw [if_neg hf, ky_u1_row]
      exact if_neg hf
  · rw [if_neg (show ¬ τ.1 7 1 = (6 : Int32) from fun z => by
      rw [e3, show (6 : Int32) = nI 6 from rfl, nI_eq (by omega) (by omega)] at z
      exact e z)]
    obtain ⟨R2, b1, b2⟩ := qM_save_L54 (σ := τ) (h := h) (by omega) e3 283 0 FU (τ.1 9) rfl (by decide)
    rw [nS_id] at b1
    rw [if_neg e] at e1
    refine ⟨_, b1, ?_, fun k h7 h9 => ?_, fun f hf => ?_, rfl⟩
    · refine ⟨h + 1, (q + 1) % 6, by omega, by omega, e1, e2, ?_, fun j hj => ?_⟩
      · rw [ky_u1_row]
        exact if_pos rfl
      · by_cases ej : j = h
        · subst ej
          refine ⟨m, ?_⟩
          rw [show ((q + 1) % 6 + 6 - (j + 1) + j) % 6 = q by omega]
          refine (em.zc (fun p hp => ?_)).ir (fun r i _ _ => nS_hi (by omega))
          show R2 (283 * j + p) = _
          rw [b2, if_pos (by omega), show 283 * j + p - 283 * j = p by omega]
        · obtain ⟨mj, hm⟩ := e4 j (by omega) (fun z => absurd z e)
          refine ⟨mj, ?_⟩
          rw [show ((q + 1) % 6 + 6 - (h + 1) + j) % 6 = (q + 6 - h + j) % 6 by omega]
          refine (hm.zc (fun p hp => ?_)).ir (fun r i _ _ => nS_hi (by omega))
          show R2 (283 * j + p) = _
          rw [b2, if_neg (by omega)]
    · rw [ky_u1_ne h7]
      exact if_neg h9
    · rw [ky_u1_row]
      exact if_neg hf
/-- the texts -/
def pTx (σ : ky_St) : Prop := ∃ t, t ≤ 60 ∧ σ.1 3 1 = nI t ∧ σ.1 7 3 = nI t ∧ ∀ i, i < t → σ.1 10 i = σ.1 6 i ∧ ∃ c, 33 ≤ c ∧ c ≤ 126 ∧ σ.1 6 i = nI c
def pSim (σ : ky_St) : Prop := pT σ ∧ (∃ n, pR n (pB σ 20) (σ.1 8)) ∧ pHi σ ∧ pTx σ
theorem pHi.fr {σ' : ky_St} (h : pHi σ) (e2 : σ'.1 2 = σ.1 2) (e7 : σ'.1 7 1 = σ.1 7 1) (e9 : σ'.1 9 = σ.1 9) (er : ∀ k, 33 ≤ k → σ'.1 k = σ.1 k) : pHi σ' := by
  obtain ⟨a, q, h6, q6, e1, e3, e4, e5⟩ := h
  refine ⟨a, q, h6, q6, by rw [e2]; exact e1, by rw [e2]; exact e3, e7.trans e4, fun j hj => ?_⟩
  obtain ⟨m, hm⟩ := e5 j hj
  rw [e9]
  exact ⟨m, hm.ir (fun r i _ _ => congrFun (er _ (by omega)) i)⟩
theorem pHk.fr {σ' : ky_St} (h : pHk σ) (e2 : σ'.1 2 = σ.1 2) (e7 : σ'.1 7 1 = σ.1 7 1) (e8 : σ'.1 8 = σ.1 8) (e9 : σ'.1 9 = σ.1 9) (er : ∀ k, 33 ≤ k → σ'.1 k = σ.1 k) : pHk σ' := by
  obtain ⟨a, q, h6, q6, e1, e3, e4, e5, m, em⟩ := h
  refine ⟨a, q, h6, q6, by rw [e2]; exact e1, by rw [e2]; exact e3, e7.trans e4, fun j hj h0 => ?_, m, ?_⟩
  · obtain ⟨m, hm⟩ := e5 j hj h0
    rw [e9]
    exact ⟨m, hm.ir (fun r i _ _ => congrFun (er _ (by omega)) i)⟩
  · rw [e8]
    exact em.ir (fun r i _ _ => congrFun (er _ (by omega)) i)
theorem pTx.fr {σ' : ky_St} (h : pTx σ) (e3 : σ'.1 3 1 = σ.1 3 1) (e7 : σ'.1 7 3 = σ.1 7 3) (e6 : σ'.1 6 = σ.1 6) (e10 : σ'.1 10 = σ.1 10) : pTx σ' := by
  obtain ⟨t, h1, h2, h3, h4⟩ := h
  refine ⟨t, h1, e3.trans h2, e7.trans h3, ?_⟩
  rw [e6, e10]
  exact h4
/-- what the relation does not ask about may change -/
theorem pSim.fr {σ' : ky_St} (h : pSim σ) (e : ∀ k, k ≠ 3 → k ≠ 4 → k ≠ 7 → k ≠ 11 → k ≠ 12 → σ'.1 k = σ.1 k) (e3 : σ'.1 3 1 = σ.1 3 1) (e71 : σ'.1 7 1 = σ.1 7 1) (e73 : σ'.1 7 3 = σ.1 7 3) : pSim σ' := by
  obtain ⟨h1, ⟨n, h2⟩, h3, h4⟩ := h
  have o : ∀ k, 33 ≤ k → σ'.1 k = σ.1 k := fun k hk => e k (by omega) (by omega) (by omega) (by omega) (by omega)
  refine ⟨?_, ⟨n, ?_⟩, h3.fr (e 2 (by decide) (by decide) (by decide) (by decide) (by decide)) e71 (e 9 (by decide) (by decide) (by decide) (by decide) (by decide)) o, h4.fr e3 e73 (e 6 (by decide) (by decide) (by decide) (by decide) (by decide)) (e 10 (by decide) (by decide) (by decide) (by decide) (by decide))⟩
  · unfold pT
    rw [e 13 (by decide) (by decide) (by decide) (by decide) (by decide), e 14 (by decide) (by decide) (by decide) (by decide) (by decide)]
    exact h1
  · rw [e 8 (by decide) (by decide) (by decide) (by decide) (by decide)]
    exact h2.ir (fun r i _ _ => congrFun (e (20 + r) (by omega) (by omega) (by omega) (by omega) (by omega)) i)
/-- one step of the law: the class, then the model -/
def pStep (C M : ky_St → Option (Int32 × ky_St)) (σ : ky_St) : Prop := ∃ σ1 σ2 c w, C σ = some (c, σ1) ∧ σ1.1 15 = σ.1 15 ∧ M σ1 = some (w, σ2) ∧ σ2.1 7 5 = c ∧ (c = 0 → σ2.2 16 = w.toInt64) ∧ pSim σ2 ∧ σ2.1 15 = σ.1 15
theorem pSim.u75 (h : pSim σ) (v : Int32) : pSim (ky_u1 σ 7 5 v) :=
  h.fr (fun k _ _ h7 _ _ => ky_u1_ne h7) (by rw [ky_u1_ne (by decide)]) (by rw [ky_u1_row]; rfl) (by rw [ky_u1_row]; rfl)
theorem u75_v (σ : ky_St) (v : Int32) : (ky_u1 σ 7 5 v).1 7 5 = v := by rw [ky_u1_row]; exact if_pos rfl
/-- refused -/
theorem pStep.err {C M : ky_St → Option (Int32 × ky_St)} (h : pSim σ) {c : Int32} (hc : c ≠ 0) (hC : C σ = some (c, σ)) (hM : M σ = some (0, ky_u1 σ 7 5 c)) : pStep C M σ :=
  ⟨σ, _, c, 0, hC, rfl, hM, u75_v σ c, fun e => absurd e hc, h.u75 c, by rw [ky_u1_ne (by decide)]⟩
/-- asked -/
theorem pStep.ask {C M : ky_St → Option (Int32 × ky_St)} (h : pSim σ) {v : Int32} (hC : C σ = some (0, ky_uJ σ 16 v.toInt64)) (hM : M (ky_uJ σ 16 v.toInt64) = some (v, ky_u1 (ky_uJ σ 16 v.toInt64) 7 5 0)) : pStep C M σ :=
  ⟨_, _, 0, v, hC, rfl, hM, u75_v _ 0, fun _ => (if_pos rfl : (if (16 : Nat) = 16 then v.toInt64 else σ.2 16) = v.toInt64), (h.fr (σ' := ky_uJ σ 16 v.toInt64) (fun _ _ _ _ _ _ => rfl) rfl rfl rfl).u75 0, by rw [ky_u1_ne (by decide)]; rfl⟩
def pO (F Y : pY) : Prop := ∀ a, 13 ≤ a → F a = Y a
theorem pO.rfl' : pO Y Y := fun _ _ => rfl
theorem pO.u {F Y : pY} (h : pO F Y) {r i : Nat} {v : Int32} (hr : r < 13) : pO (pU F r i v) Y := fun a ha => by rw [pU_row (by omega)]; exact h a ha
theorem pO.tr {F Y X : pY} (h : pO F Y) (h2 : pO Y X) : pO F X := fun a ha => (h a ha).trans (h2 a ha)
/-- done: kept, done, saved, done -/
theorem pStep.mut (hS : pSim σ) (hR : pR n (pB σ 20) (σ.1 8)) {F : pY → pY} {v : pY → Int32} {n' : Nat} {Cl Mo : ky_St → Option (Int32 × ky_St)} (M : ky_St → Option (Int32 × ky_St))
    (hO : ∀ Y, pO (F Y) Y)
    (hL : ∀ σ1, pT σ1 → (∀ r, r < 13 → pB σ1 20 r = pB σ 20 r) → pR n (pB σ1 20) (σ.1 8) → fX1_keep σ = some ((), σ1) → Cl σ = some (0, ky_uJ (cS σ1 (F (pB σ1 20))) 16 (v (pB σ1 20)).toInt64))
    (hMo : ∀ σ' τ, σ'.1 8 = σ.1 8 → fX4_save (ky_u1 σ' 7 5 0) = some ((), τ) → Mo σ' = M τ)
    (hM : ∀ τ Y Z, (∀ r, r < 13 → Y r = pB σ 20 r) → pR n Y Z → ∃ Z', M (mS τ Z) = some (v Y, mS τ Z') ∧ pR n' (F Y) Z') : pStep Cl Mo σ := by
  obtain ⟨hT, _, hH, hX⟩ := hS
  obtain ⟨σ1, a1, a2, a3, a4⟩ := qC_keep hH hR
  have b1 : ∀ r, r < 13 → pB σ1 20 r = pB σ 20 r := fun r hr => a2 (20 + r) (by omega) (by omega)
  have hT1 : pT σ1 := by
    unfold pT
    rw [a2 13 (by omega) (by omega), a2 14 (by omega) (by omega)]
    exact hT
  have hR1 : pR n (pB σ1 20) (σ.1 8) := hR.ir (fun r i hr _ => congrFun (b1 r hr) i)
  have c1 := hL σ1 hT1 b1 hR1 a1
  generalize hv : v (pB σ1 20) = w at c1
  have lo : ∀ k, k < 20 → (cS σ1 (F (pB σ1 20))).1 k = σ1.1 k := fun k hk => if_pos hk
  have hi : ∀ k, 33 ≤ k → (cS σ1 (F (pB σ1 20))).1 k = σ1.1 k := fun k hk => by
    show (if k < 20 then _ else F (pB σ1 20) (k - 20)) = _
    rw [if_neg (by omega), hO _ (k - 20) (by omega)]
    show σ1.1 (20 + (k - 20)) = _
    rw [show 20 + (k - 20) = k by omega]
  have hk2 : pHk (ky_u1 (ky_uJ (cS σ1 (F (pB σ1 20))) 16 w.toInt64) 7 5 0) := by
    refine a4.fr ?_ ?_ ?_ ?_ (fun k hk => ?_)
    · rw [ky_u1_ne (by decide)]; exact lo 2 (by omega)
    · rw [ky_u1_row]; exact congrFun (lo 7 (by omega)) 1
    · rw [ky_u1_ne (by decide)]; exact lo 8 (by omega)
    · rw [ky_u1_ne (by decide)]; exact lo 9 (by omega)
    · rw [ky_u1_ne (by omega)]; exact hi k hk
  obtain ⟨τ, s1, s2, s3, s4, s5⟩ := qM_save hk2
  have e8 : τ.1 8 = σ.1 8 := by
    rw [s3 8 (by decide) (by decide), ky_u1_ne (by decide)]
    exact (lo 8 (by omega)).trans (a2 8 (by omega) (by omega))
  obtain ⟨Z', m1, m2⟩ := hM τ (pB σ1 20) (τ.1 8) b1 (by rw [e8]; exact hR1)
  rw [mS_id] at m1
  have t : ∀ k, k ≠ 7 → k ≠ 8 → k ≠ 9 → (mS τ Z').1 k = (cS σ1 (F (pB σ1 20))).1 k := fun k h7 h8 h9 => by
    rw [show (mS τ Z').1 k = τ.1 k from if_neg h8, s3 k h7 h9, ky_u1_ne h7]
    rfl
  have t7 : ∀ f, f ≠ 1 → (mS τ Z').1 7 f = (ky_u1 (ky_uJ (cS σ1 (F (pB σ1 20))) 16 w.toInt64) 7 5 0).1 7 f := fun f hf => s4 f hf
  rw [hv] at m1
  have e8' : (ky_uJ (cS σ1 (F (pB σ1 20))) 16 w.toInt64).1 8 = σ.1 8 := (lo 8 (by omega)).trans (a2 8 (by omega) (by omega))
  have hm : Mo (ky_uJ (cS σ1 (F (pB σ1 20))) 16 w.toInt64) = some (w, mS τ Z') := (hMo _ τ e8' s1).trans m1
  have h5 : (mS τ Z').1 7 5 = 0 := (t7 5 (by decide)).trans (u75_v _ 0)
  refine ⟨ky_uJ (cS σ1 (F (pB σ1 20))) 16 w.toInt64, mS τ Z', 0, w, c1, ?_, hm, h5, fun _ => ?_, ⟨?_, ⟨n', ?_⟩, ?_, ?_⟩, ?_⟩
  · exact (lo 15 (by omega)).trans (a2 15 (by omega) (by omega))
  · show τ.2 16 = _
    rw [s5]
    exact (if_pos rfl : (if (16 : Nat) = 16 then w.toInt64 else (cS σ1 (F (pB σ1 20))).2 16) = w.toInt64)
  · unfold pT
    rw [t 13 (by decide) (by decide) (by decide), t 14 (by decide) (by decide) (by decide), lo 13 (by omega), lo 14 (by omega)]
    exact hT1
  · rw [show (mS τ Z').1 8 = Z' from rfl]
    refine m2.ir (fun r i hr _ => ?_)
    show (mS τ Z').1 (20 + r) i = _
    rw [t (20 + r) (by omega) (by omega) (by omega), cS_row]
  · exact s2.fr rfl rfl rfl (fun k hk => if_neg (by omega))
  · refine hX.fr ?_ ?_ ?_ ?_
    · rw [t 3 (by decide) (by decide) (by decide), lo 3 (by omega), a2 3 (by omega) (by omega)]
    · rw [t7 3 (by decide), ky_u1_row]
      show (cS σ1 (F (pB σ1 20))).1 7 3 = _
      rw [lo 7 (by omega), a2 7 (by omega) (by omega)]
    · rw [t 6 (by decide) (by decide) (by decide), lo 6 (by omega), a2 6 (by omega) (by omega)]
    · rw [t 10 (by decide) (by decide) (by decide), lo 10 (by omega), a2 10 (by omega) (by omega)]
  · rw [t 15 (by decide) (by decide) (by decide), lo 15 (by omega), a2 15 (by omega) (by omega)]
end WG
