/-! ===== pure: the history ===== -/
section WF
variable {n : Nat} {σ : ky_St} {s : Nat} {Y : pY} {Z : Nat → Int32}
def pLn (r : Nat) : Nat := if r = 0 then 5 else if r = 1 then 2 else if r < 5 then 24 else if r = 5 then 72 else if r = 6 then 96 else if r < 9 then 4 else 6
/-- the books -/
def pBk (b : Nat) : Prop := b = 20 ∨ ∃ j, j < 6 ∧ b = 33 + 13 * j
theorem la_main : ∀ r, r < 13 → 1 ≤ r → ky_la (20 + r) = some (pLn r) ∧ ky_ro (20 + r) = false := by decide +kernel
theorem la_ring : ∀ j, j < 6 → ∀ r, r < 13 → 1 ≤ r → ky_la (33 + 13 * j + r) = some (pLn r) ∧ ky_ro (33 + 13 * j + r) = false := by decide +kernel
theorem la_bk {b : Nat} (hb : pBk b) {r : Nat} (h : r < 13) (h1 : 1 ≤ r) : ky_la (b + r) = some (pLn r) ∧ ky_ro (b + r) = false := by
  rcases hb with rfl | ⟨j, hj, rfl⟩
  · exact la_main r h h1
  · exact la_ring j hj r h h1
theorem cl_ring : ∀ j, j < 6 → ky_cl (33 + 13 * j) = 0 := by decide +kernel
theorem cl_bk {b : Nat} (hb : pBk b) : ky_cl b = 0 := by
  rcases hb with rfl | ⟨j, hj, rfl⟩
  · decide
  · exact cl_ring j hj
theorem pLn_le (r : Nat) : pLn r < 2 ^ 31 := by
  unfold pLn
  split
  · omega
  · split
    · omega
    · split
      · omega
      · split
        · omega
        · split
          · omega
          · split <;> omega
/-- rows of one book read into another's, up to a row -/
def pCy (b w m : Nat) (σ τ : ky_St) : Prop := pF (fun k => b ≤ k ∧ k < b + 13) σ τ ∧ ∀ r i, r < m → i < pLn r → τ.1 (b + r) i = σ.1 (w + r) i
theorem pCy_s {b w : Nat} (hb : pBk b) (hw : pBk w) (hne : b ≠ w) {r : Nat} (h : r < 13) (h1 : 1 ≤ r) {τ : ky_St} (hc : pCy b w r σ τ) : ∃ τ', fX3_copy (w + r) (b + r) τ = some ((), τ') ∧ pCy b w (r + 1) σ τ' := by
  have dj : b + 13 ≤ w ∨ w + 13 ≤ b := by
    rcases hb with rfl | ⟨j, hj, rfl⟩ <;> rcases hw with rfl | ⟨j2, hj2, rfl⟩ <;> omega
  obtain ⟨τ', a1, a2, a3⟩ := pa_copy (la_bk hw h h1).1 (la_bk hb h h1).1 (la_bk hw h h1).2 (la_bk hb h h1).2 rfl (pLn_le r) τ
  refine ⟨τ', a1, hc.1.tr (a2.wk (fun k hk => by subst hk; omega)), fun q i hq hi => ?_⟩
  by_cases e : q = r
  · subst e
    rw [a3 i hi, hc.1.1 (w + q) (by omega)]
  · rw [a2.1 (b + q) (by omega), hc.2 q i (by omega) hi]
theorem qC_copyFrom {b w : Nat} (hb : pBk b) (hw : pBk w) (hne : b ≠ w) (σ : ky_St) : ∃ σ', fX0_copyFrom b w σ = some ((), σ') ∧ pF (fun k => b ≤ k ∧ k < b + 13) σ σ' ∧ ∀ r i, r < 13 → i < pLn r → σ'.1 (b + r) i = σ.1 (w + r) i := by
  unfold fX0_copyFrom
  rw [ky_g_s ⟨cl_bk hb, cl_bk hw⟩, ky_bn_s, ky_bn_s, ky_bn_s, ky_bn_s, ky_bn_s]
  have hw' : ∀ (τ : ky_St) f v, (ky_u1 τ b f v).1 w = τ.1 w := fun τ f v => ky_u1_ne (fun e => hne e.symm)
  rw [hw', hw', hw', hw', hw', hw', hw', hw', hw', hw']
  have c0 : pCy b w 1 σ (ky_u1 (ky_u1 (ky_u1 (ky_u1 (ky_u1 σ b 0 (σ.1 w 0)) b 1 (σ.1 w 1)) b 2 (σ.1 w 2)) b 3 (σ.1 w 3)) b 4 (σ.1 w 4)) := by
    have hB : (fun k => b ≤ k ∧ k < b + 13) b := ⟨Nat.le_refl _, by omega⟩
    refine ⟨((((pF.u1 hB).tr (pF.u1 hB)).tr (pF.u1 hB)).tr (pF.u1 hB)).tr (pF.u1 hB), fun r i hr hi => ?_⟩
    have : r = 0 := by omega
    subst this
    have hi : i < 5 := hi
    rw [show b + 0 = b from rfl, show w + 0 = w from rfl, ky_u1_row, ky_u1_row, ky_u1_row, ky_u1_row, ky_u1_row]
    have : i = 0 ∨ i = 1 ∨ i = 2 ∨ i = 3 ∨ i = 4 := by omega
    rcases this with rfl | rfl | rfl | rfl | rfl <;> rfl
  obtain ⟨t1, a1, c1⟩ := pCy_s hb hw hne (by omega) (by omega) c0
  obtain ⟨t2, a2, c2⟩ := pCy_s hb hw hne (by omega) (by omega) c1
  obtain ⟨t3, a3, c3⟩ := pCy_s hb hw hne (by omega) (by omega) c2
  obtain ⟨t4, a4, c4⟩ := pCy_s hb hw hne (by omega) (by omega) c3
  obtain ⟨t5, a5, c5⟩ := pCy_s hb hw hne (by omega) (by omega) c4
  obtain ⟨t6, a6, c6⟩ := pCy_s hb hw hne (by omega) (by omega) c5
  obtain ⟨t7, a7, c7⟩ := pCy_s hb hw hne (by omega) (by omega) c6
  obtain ⟨t8, a8, c8⟩ := pCy_s hb hw hne (by omega) (by omega) c7
  obtain ⟨t9, a9, c9⟩ := pCy_s hb hw hne (by omega) (by omega) c8
  obtain ⟨t10, a10, c10⟩ := pCy_s hb hw hne (by omega) (by omega) c9
  obtain ⟨t11, a11, c11⟩ := pCy_s hb hw hne (by omega) (by omega) c10
  obtain ⟨t12, a12, c12⟩ := pCy_s hb hw hne (by omega) (by omega) c11
  refine ⟨t12, ?_, c12.1, c12.2⟩
  rw [ky_bd_s a1, ky_bd_s a2, ky_bd_s a3, ky_bd_s a4, ky_bd_s a5, ky_bd_s a6, ky_bd_s a7, ky_bd_s a8, ky_bd_s a9, ky_bd_s a10, ky_bd_s a11, ky_bd_s a12]
theorem dm_in (hn : n ≤ 24) : ∀ r i, dm n r i → r < 13 ∧ i < pLn r
  | 0, i, h => ⟨by omega, h⟩
  | 1, i, h => ⟨by omega, h⟩
  | 2, i, h => ⟨by omega, by have h : i < n := h; show i < 24; omega⟩
  | 3, i, h => ⟨by omega, by have h : i < n := h; show i < 24; omega⟩
  | 4, i, h => ⟨by omega, by have h : i < n := h; show i < 24; omega⟩
  | 5, i, h => ⟨by omega, by have h : i < 3 * n := h; show i < 72; omega⟩
  | 6, i, h => ⟨by omega, by have h : i < 4 * n := h; show i < 96; omega⟩
  | 7, i, h => ⟨by omega, h⟩
  | 8, i, h => ⟨by omega, h⟩
  | 9, i, h => ⟨by omega, h⟩
  | 10, i, h => ⟨by omega, h⟩
  | 11, i, h => ⟨by omega, h⟩
  | 12, i, h => ⟨by omega, h⟩
  | r + 13, i, h => absurd h id
/-- what a book holds in range is all that is asked -/
theorem pV.ir {Y' : pY} (h : pV n Y) (e : ∀ r i, r < 13 → i < pLn r → Y' r i = Y r i) : pV n Y' := by
  obtain ⟨h1, h2, h3, h4, h5⟩ := h
  refine ⟨h1, (e 0 0 (by omega) (by decide)).trans h2, fun t a b => ?_, fun t a => ?_, fun k hk => ?_⟩
  · obtain ⟨q1, q2, q3, q4⟩ := h3 t a b
    refine ⟨(e 2 t (by omega) b).trans q1, (e 3 t (by omega) b).trans q2, (e 4 t (by omega) b).trans q3, fun u hu => (e 5 (3 * t + u) (by omega) (show 3 * t + u < 72 by omega)).trans (q4 u hu)⟩
  · obtain ⟨q1, q2, q3, q4, q5⟩ := h4 t a
    have e5 : ∀ u, u < 3 → Y' 5 (3 * t + u) = Y 5 (3 * t + u) := fun u hu => e 5 (3 * t + u) (by omega) (show 3 * t + u < 72 by omega)
    rw [e 2 t (by omega) (show t < 24 by omega), show Y' 5 (3 * t) = Y 5 (3 * t) from e5 0 (by omega), e5 1 (by omega), e5 2 (by omega)]
    refine ⟨q1, fun k hk => ?_, fun u hu => ?_, q4, q5⟩
    · rw [e 6 (4 * t + k) (by omega) (show 4 * t + k < 96 by omega)]
      exact q2 k hk
    · rw [e5 u hu]
      exact q3 u hu
  · rw [e 7 k (by omega) hk]
    exact h5 k hk
theorem pR.ir {Y' : pY} (h : pR n Y Z) (e : ∀ r i, r < 13 → i < pLn r → Y' r i = Y r i) : pR n Y' Z :=
  h.cg (h.1.ir e) (fun r i hd => e r i (dm_in h.1.1 r i hd).1 (dm_in h.1.1 r i hd).2)
theorem pR.zc {Z' : Nat → Int32} (h : pR n Y Z) (e : ∀ p, p < 283 → Z' p = Z p) : pR n Y Z' := by
  have hn := h.1.1
  refine ⟨h.1, fun r i hd => ?_, fun k hk => (e (15 + k) (by omega)).trans (h.2.2 k hk)⟩
  refine (e _ ?_).trans (h.2.1 r i hd)
  match r, hd with
  | 0, hd =>
    have hd : i < 5 := hd
    show (if i = 0 then 3 else if i = 1 then 2 else i + 2) < 283
    split
    · omega
    · split <;> omega
  | 1, hd => have hd : i < 2 := hd; show i < 283; omega
  | 2, hd => have hd : i < n := hd; show 43 + 10 * i < 283; omega
  | 3, hd => have hd : i < n := hd; show 44 + 10 * i < 283; omega
  | 4, hd => have hd : i < n := hd; show 52 + 10 * i < 283; omega
  | 5, hd => have hd : i < 3 * n := hd; show 49 + 10 * (i / 3) + i % 3 < 283; omega
  | 6, hd => have hd : i < 4 * n := hd; show 45 + 10 * (i / 4) + i % 4 < 283; omega
  | 7, hd => have hd : i < 4 := hd; show 7 + i < 283; omega
  | 8, hd => have hd : i < 4 := hd; show 11 + i < 283; omega
  | 9, hd => have hd : i < 6 := hd; show 19 + 4 * i < 283; omega
  | 10, hd => have hd : i < 6 := hd; show 20 + 4 * i < 283; omega
  | 11, hd => have hd : i < 6 := hd; show 21 + 4 * i < 283; omega
  | 12, hd => have hd : i < 6 := hd; show 22 + 4 * i < 283; omega
  | r + 13, hd => exact absurd hd id
/-- the saved yards, on both sides -/
def pHi (σ : ky_St) : Prop := ∃ h q, h ≤ 6 ∧ q < 6 ∧ σ.1 2 1 = nI h ∧ σ.1 2 2 = nI q ∧ σ.1 7 1 = nI h ∧ ∀ j, j < h → ∃ m, pR m (pB σ (33 + 13 * ((q + 6 - h + j) % 6))) (fun p => σ.1 9 (283 * j + p))
/-- the class has kept, the model has not yet saved -/
def pHk (σ : ky_St) : Prop := ∃ h q, h ≤ 6 ∧ q < 6 ∧ σ.1 2 1 = nI (if h = 6 then 6 else h + 1) ∧ σ.1 2 2 = nI ((q + 1) % 6) ∧ σ.1 7 1 = nI h ∧ (∀ j, j < h → (h = 6 → j ≠ 0) → ∃ m, pR m (pB σ (33 + 13 * ((q + 6 - h + j) % 6))) (fun p => σ.1 9 (283 * j + p))) ∧ ∃ m, pR m (pB σ (33 + 13 * q)) (σ.1 8)
theorem nI_rem {a : Nat} (h : a < 2 ^ 31) : nI a - nI a / (6 : Int32) * (6 : Int32) = nI (a % 6) := by
  have e : nI a / (6 : Int32) = nI (a / 6) := by
    apply Int32.toInt_inj.mp
    rw [Int32.toInt_div, nI_toInt h, nI_toInt (by omega), show (6 : Int32).toInt = 6 from rfl]
    rw [Int.bmod_eq_of_le]
    · rw [Int.tdiv_eq_ediv_of_nonneg (by omega)]
      omega
    · rw [Int.tdiv_eq_ediv_of_nonneg (by omega)]
      omega
    · rw [Int.tdiv_eq_ediv_of_nonneg (by omega)]
      omega
  rw [e, show (6 : Int32) = nI 6 from rfl, pk_mul]
  have : nI a = nI (a % 6) + nI (a / 6 * 6) := by
    rw [nI_add]
    congr 1
    omega
  rw [this]
  grind
theorem qC_bookAt {q : Nat} (h : q < 6) (σ : ky_St) : fX1_bookAt (nI q) σ = some (33 + 13 * q, σ) := by
  unfold fX1_bookAt
  rw [if_neg (nI_pos (by omega)), if_neg (show ¬ (6 : Int32) ≤ nI q from nI_ge (a := q) (b := 6) h (by omega)), ky_g_s (nI_in h (by omega)), nI_clamp (by omega)]
theorem qC_keep (hH : pHi σ) (hR : pR n (pB σ 20) (σ.1 8)) : ∃ σ1, fX1_keep σ = some ((), σ1) ∧ (∀ k, k < 33 → k ≠ 2 → σ1.1 k = σ.1 k) ∧ σ1.2 = σ.2 ∧ pHk σ1 := by
  obtain ⟨h, q, h6, q6, e1, e2, e3, e4⟩ := hH
  obtain ⟨σ1, a1, a2, a3⟩ := qC_copyFrom (b := 33 + 13 * q) (w := 20) (Or.inr ⟨q, q6, rfl⟩) (Or.inl rfl) (by omega) σ
  have b1 : σ1.1 2 1 = nI h := by rw [a2.1 2 (by omega)]; exact e1
  have b2 : σ1.1 2 2 = nI q := by rw [a2.1 2 (by omega)]; exact e2
  refine ⟨ky_u1 (ky_u1 σ1 2 2 (nI ((q + 1) % 6))) 2 1 (nI (if h = 6 then 6 else h + 1)), ?_, ?_, ?_, ?_⟩
  · unfold fX1_keep
    rw [e2, ky_bd_s (qC_bookAt q6 σ), ky_g_s (cl_ring q q6), ky_bd_s a1, ky_g_s (by decide), b2, nI_1, nI_rem (by omega), ky_bn_s]
    rw [show (ky_u1 σ1 2 2 (nI ((q + 1) % 6))).1 2 1 = nI h from (congrFun ky_u1_row 1).trans b1, nI_1]
    by_cases e : h = 6
    · rw [if_pos e, if_pos (show (6 : Int32) < nI (h + 1) from by subst e; decide), ky_bn_s, ky_bn_s]
      rfl
    · rw [if_neg e, if_neg (show ¬ (6 : Int32) < nI (h + 1) from fun z => by
        rw [show (6 : Int32) = nI 6 from rfl, nI_ltI (by omega) (by omega)] at z
        omega), ky_bn_s, ky_bn_s]
  · intro k hk h2
    rw [ky_u1_ne h2, ky_u1_ne h2, a2.1 k (by omega)]
  · exact a2.2
  · have o : ∀ k, k ≠ 2 → (ky_u1 (ky_u1 σ1 2 2 (nI ((q + 1) % 6))) 2 1 (nI (if h = 6 then 6 else h + 1))).1 k = σ1.1 k := fun k hk => by rw [ky_u1_ne hk, ky_u1_ne hk]
    refine ⟨h, q, h6, q6, ?_, ?_, ?_, fun j hj h0 => ?_, n, ?_⟩
    · rw [ky_u1_row]
      exact if_pos rfl
    · rw [ky_u1_row, ky_u1_row]
      rfl
    · rw [o 7 (by decide), a2.1 7 (by omega)]
      exact e3
    · obtain ⟨m, hm⟩ := e4 j hj
      refine ⟨m, ?_⟩
      have hq : (q + 6 - h + j) % 6 ≠ q := by omega
      have e9 : (ky_u1 (ky_u1 σ1 2 2 (nI ((q + 1) % 6))) 2 1 (nI (if h = 6 then 6 else h + 1))).1 9 = σ.1 9 := by rw [o 9 (by decide), a2.1 9 (by omega)]
      rw [e9]
      refine hm.ir (fun r i hr hi => ?_)
      show (ky_u1 (ky_u1 σ1 2 2 _) 2 1 _).1 (33 + 13 * ((q + 6 - h + j) % 6) + r) i = _
      rw [o _ (by omega), a2.1 _ (by omega)]
      rfl
    · rw [o 8 (by decide), a2.1 8 (by omega)]
      refine hR.ir (fun r i hr hi => ?_)
      show (ky_u1 (ky_u1 σ1 2 2 _) 2 1 _).1 (33 + 13 * q + r) i = _
      rw [o _ (by omega)]
      exact a3 r i hr hi
end WF
