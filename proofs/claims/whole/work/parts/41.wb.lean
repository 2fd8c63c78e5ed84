/-! ===== pure: the model's writes keep the link ===== -/
section WB
variable {n : Nat} {σ : ky_St} {s : Nat} {Y : pY} {Z : Nat → Int32}
theorem pV.cg {Y' : pY} (h : pV n Y) (h0 : Y' 0 0 = Y 0 0) (h2 : Y' 2 = Y 2) (h3 : Y' 3 = Y 3) (h4 : Y' 4 = Y 4) (h5 : Y' 5 = Y 5) (h6 : Y' 6 = Y 6) (h7 : Y' 7 = Y 7) : pV n Y' := by
  unfold pV
  rw [h0, h2, h3, h4, h5, h6, h7]
  exact h
/-- writes that nothing asks about -/
theorem pV.w {r i : Nat} {v : Int32} (h : pV n Y) (hr : r = 1 ∨ 8 ≤ r ∨ (r = 0 ∧ i ≠ 0)) : pV n (pU Y r i v) :=
  h.cg (pU_ne (by omega)) (pU_row (by omega)) (pU_row (by omega)) (pU_row (by omega)) (pU_row (by omega)) (pU_row (by omega)) (pU_row (by omega))
theorem pV.w2 {v : Int32} (h : pV n Y) (hs : s < n) (hv : v = -1 ∨ ∃ i, i < 6 ∧ v = nI i) : pV n (pU Y 2 s v) := by
  obtain ⟨h1, h2, h3, h4, h5⟩ := h
  refine ⟨h1, h2, fun t a b => ?_, fun t a => ⟨?_, (h4 t a).2⟩, h5⟩
  · refine ⟨?_, (h3 t a b).2⟩
    rw [pU_ne (Or.inr (by omega))]
    exact (h3 t a b).1
  · by_cases e : t = s
    · subst e
      rw [pU_eq]
      exact hv
    · rw [pU_ne (Or.inr e)]
      exact (h4 t a).1
theorem pV.w3 {v : Int32} (h : pV n Y) (hs : s < n) : pV n (pU Y 3 s v) := by
  obtain ⟨h1, h2, h3, h4, h5⟩ := h
  refine ⟨h1, h2, fun t a b => ⟨(h3 t a b).1, ?_, (h3 t a b).2.2⟩, h4, h5⟩
  rw [pU_ne (Or.inr (by omega))]
  exact (h3 t a b).2.1
theorem pV.w4 {v : Int32} (h : pV n Y) (hs : s < n) : pV n (pU Y 4 s v) := by
  obtain ⟨h1, h2, h3, h4, h5⟩ := h
  refine ⟨h1, h2, fun t a b => ⟨(h3 t a b).1, (h3 t a b).2.1, ?_, (h3 t a b).2.2.2⟩, h4, h5⟩
  rw [pU_ne (Or.inr (by omega))]
  exact (h3 t a b).2.2.1
theorem pV.w6 {v : Int32} {k : Nat} (h : pV n Y) (hk : k < 4) (hv : ∃ c, c ≤ pWt k ∧ v = nI c) : pV n (pU Y 6 (4 * s + k) v) := by
  obtain ⟨h1, h2, h3, h4, h5⟩ := h
  refine ⟨h1, h2, h3, fun t a => ⟨(h4 t a).1, fun j hj => ?_, (h4 t a).2.2⟩, h5⟩
  by_cases e : 4 * t + j = 4 * s + k
  · have : j = k := by omega
    subst this
    rw [e, pU_eq]
    exact hv
  · rw [pU_ne (Or.inr e)]
    exact (h4 t a).2.1 j hj
theorem pV.w7 {v : Int32} {k : Nat} (h : pV n Y) (hv : ∃ c, c ≤ 999 ∧ v = nI c) : pV n (pU Y 7 k v) := by
  obtain ⟨h1, h2, h3, h4, h5⟩ := h
  refine ⟨h1, h2, h3, h4, fun j hj => ?_⟩
  by_cases e : j = k
  · subst e
    rw [pU_eq]
    exact hv
  · rw [pU_ne (Or.inr e)]
    exact h5 j hj
theorem pV.w5 {v : Int32} {u : Nat} (h : pV n Y) (hs : s < n) (hu : u < 3) (hv : v = -1 ∨ ∃ i, i < 6 ∧ v = nI i) (h01 : pU Y 5 (3 * s + u) v 5 (3 * s) = -1 → pU Y 5 (3 * s + u) v 5 (3 * s + 1) = -1) (h12 : pU Y 5 (3 * s + u) v 5 (3 * s + 1) = -1 → pU Y 5 (3 * s + u) v 5 (3 * s + 2) = -1) : pV n (pU Y 5 (3 * s + u) v) := by
  obtain ⟨h1, h2, h3, h4, h5⟩ := h
  refine ⟨h1, h2, fun t a b => ⟨(h3 t a b).1, (h3 t a b).2.1, (h3 t a b).2.2.1, fun w hw => ?_⟩, fun t a => ⟨(h4 t a).1, (h4 t a).2.1, fun w hw => ?_, ?_⟩, h5⟩
  · rw [pU_ne (Or.inr (by omega))]
    exact (h3 t a b).2.2.2 w hw
  · by_cases e : 3 * t + w = 3 * s + u
    · rw [e, pU_eq]
      exact hv
    · rw [pU_ne (Or.inr e)]
      exact (h4 t a).2.2.1 w hw
  · by_cases e : t = s
    · subst e
      exact ⟨h01, h12⟩
    · rw [pU_ne (Or.inr (by omega)), pU_ne (Or.inr (by omega)), pU_ne (Or.inr (by omega))]
      exact (h4 t a).2.2.2
theorem pIS_o {r i : Nat} {v : Int32} (h : r ≠ 6) (k m : Nat) : pIS (pU Y r i v) k m = pIS Y k m := by
  unfold pIS
  rw [pU_row (fun e => h e.symm)]
theorem pIS_6 {k : Nat} {v : Int32} (hs : s < n) (hk : k < 4) {j : Nat} (hj : j < 4) : pIS (pU Y 6 (4 * s + k) v) j n = if j = k then pIS Y k n - Y 6 (4 * s + k) + v else pIS Y j n := by
  unfold pIS
  by_cases e : j = k
  · subst e
    rw [if_pos rfl]
    refine Eq.trans (pS_congr n fun t ht => ?_) (pS_upd (g := fun t => Y 6 (4 * t + j)) (v := v) n hs)
    show pU Y 6 (4 * s + j) v 6 (4 * t + j) = if t = s then v else Y 6 (4 * t + j)
    by_cases e2 : t = s
    · subst e2; rw [if_pos rfl, pU_eq]
    · rw [if_neg e2, pU_ne (Or.inr (by omega))]
  · rw [if_neg e]
    exact pS_congr n fun t ht => pU_ne (Or.inr (by omega))
theorem pBo_upd {p : Nat} {v : Int32} (h : pBo n Y Z) (hp : p < 15 ∨ 19 ≤ p) : pBo n Y (upd Z p v) := by
  intro k hk
  show (if 15 + k = p then v else Z (15 + k)) = _
  rw [if_neg (by omega)]
  exact h k hk
theorem pBo_o {r i : Nat} {v : Int32} (h : pBo n Y Z) (hr : r ≠ 6 ∧ r ≠ 7 ∧ r ≠ 8) : pBo n (pU Y r i v) Z := by
  intro k hk
  rw [pIS_o hr.1, pU_row (fun e => hr.2.1 e.symm), pU_row (fun e => hr.2.2 e.symm)]
  exact h k hk
/-- a write of both sides -/
theorem pR.w {r i p : Nat} {v : Int32} (h : pR n Y Z) (hd : dm n r i) (hp : pA r i = p) (hr : r ≠ 6 ∧ r ≠ 7 ∧ r ≠ 8) (hV : pV n (pU Y r i v)) : pR n (pU Y r i v) (upd Z p v) :=
  ⟨hV, h.2.1.w hd hp v, pBo_o (pBo_upd h.2.2 (by rw [← hp]; exact pA_15 r i hd)) hr⟩
theorem pR.cg {Y' : pY} (h : pR n Y Z) (hV : pV n Y') (hY : ∀ r i, dm n r i → Y' r i = Y r i) : pR n Y' Z := by
  refine ⟨hV, fun r i hd => (h.2.1 r i hd).trans (hY r i hd).symm, fun k hk => ?_⟩
  rw [h.2.2 k hk, hY 7 k hk, hY 8 k hk]
  congr 2
  exact (pS_congr n fun t ht => hY 6 (4 * t + k) (show 4 * t + k < 4 * n by omega)).symm
theorem mG {w p : Nat} {x y : Int32} (hx : x = nI s) (hy : y = nI w) (hp : 43 + 10 * s + w = p) (h : p < 283) (σ : ky_St) (Z : Nat → Int32) : fX4_of x y (mS σ Z) = some (Z p, mS σ Z) := pa_of hx hy hp h (mS σ Z)
theorem mP {w p : Nat} {x y : Int32} (hx : x = nI s) (hy : y = nI w) (hp : 43 + 10 * s + w = p) (h : p < 283) (v : Int32) (σ : ky_St) (Z : Nat → Int32) : fX4_put x y v (mS σ Z) = some ((), mS σ (upd Z p v)) := by
  rw [pa_mput hx hy hp h, mS_u1]
theorem mB {w p : Nat} {x y : Int32} (hx : x = nI s) (hy : y = nI w) (hp : 19 + 4 * s + w = p) (h : p < 283) (v : Int32) (σ : ky_St) (Z : Nat → Int32) : fX4_bill x y v (mS σ Z) = some ((), mS σ (upd Z p (Z p + v))) := by
  rw [pa_bill hx hy hp h, mS_u1]
  rfl
theorem aU_V (h : pV n Y) (hs : s < n) {x : Nat} (hx : x < 6) : pV n (pU Y 5 (3 * s + 2) (Y 5 (3 * s + 1))) ∧ pV n (pU (pU Y 5 (3 * s + 2) (Y 5 (3 * s + 1))) 5 (3 * s + 1) (Y 5 (3 * s))) ∧ pV n (aU Y s (nI x)) := by
  have hu := (h.2.2.2.1 s hs).2.2
  have v1 : pV n (pU Y 5 (3 * s + 2) (Y 5 (3 * s + 1))) := by
    refine h.w5 hs (by omega) (hu.1 1 (by omega)) ?_ ?_
    · rw [pU_ne (Or.inr (by omega)), pU_ne (Or.inr (by omega))]
      exact hu.2.1
    · rw [pU_ne (Or.inr (by omega)), pU_eq]
      exact fun q => q
  have v2 : pV n (pU (pU Y 5 (3 * s + 2) (Y 5 (3 * s + 1))) 5 (3 * s + 1) (Y 5 (3 * s))) := by
    refine v1.w5 hs (by omega) (hu.1 0 (by omega)) ?_ ?_
    · rw [pU_ne (Or.inr (by omega)), pU_eq, pU_ne (Or.inr (by omega))]
      exact fun q => q
    · rw [pU_eq, pU_ne (Or.inr (by omega)), pU_eq]
      exact hu.2.1
  refine ⟨v1, v2, v2.w5 (u := 0) hs (by omega) (Or.inr ⟨x, hx, rfl⟩) ?_ ?_⟩
  · show pU _ 5 (3 * s) (nI x) 5 (3 * s) = -1 → _
    rw [pU_eq]
    exact fun q => absurd q (nI_m1 (by omega))
  · rw [pU_ne (Or.inr (by omega)), pU_eq, pU_ne (Or.inr (by omega)), pU_ne (Or.inr (by omega)), pU_eq]
    exact hu.2.1
theorem qX_comes (hR : pR n Y Z) (hs : s < n) {x : Nat} (hx : x < 6) (σ : ky_St) : ∃ Z', fX4_comes (nI s) (nI x) (mS σ Z) = some ((), mS σ Z') ∧ pR n (cCome Y s (nI x)) Z' := by
  have hn := hR.1.1
  have r1 := hR.w (r := 2) (i := s) hs rfl (by decide) (hR.1.w2 hs (Or.inr ⟨x, hx, rfl⟩))
  have r2 := r1.w (r := 3) (i := s) (v := Y 0 1) hs rfl (by decide) (r1.1.w3 hs)
  have r3 := r2.w (r := 4) (i := s) (v := Y 4 s + 1) hs rfl (by decide) (r2.1.w4 hs)
  obtain ⟨v4, v5, v6⟩ := aU_V r3.1 hs hx
  have r4 := r3.w (r := 5) (i := 3 * s + 2) (show 3 * s + 2 < 3 * n by omega) (pA_5 s (by omega)) (by decide) v4
  have r5 := r4.w (r := 5) (i := 3 * s + 1) (show 3 * s + 1 < 3 * n by omega) (pA_5 s (by omega)) (by decide) v5
  have r6 := r5.w (r := 5) (i := 3 * s + 0) (show 3 * s + 0 < 3 * n by omega) (pA_5 s (by omega)) (by decide) v6
  have r7 := r6.w (r := 0) (i := 2) (v := Y 0 2 + 1) (show 2 < 5 by omega) rfl (by decide) (r6.1.w (Or.inr (Or.inr ⟨rfl, by decide⟩)))
  refine ⟨_, ?_, r7⟩
  have d1 : upd Z (pA 2 s) (nI x) (2 : Int32).toNatClampNeg = Y 0 1 := by
    rw [z_2]
    exact r1.2.1 0 1 (show 1 < 5 by omega)
  have d2 : upd (upd Z (pA 2 s) (nI x)) (pA 3 s) (Y 0 1) (52 + 10 * s) = Y 4 s := r2.2.1 4 s hs
  have d3 := r3.2.1 5 (3 * s + 1) (show 3 * s + 1 < 3 * n by omega)
  rw [pA_5 s (by omega)] at d3
  have d4 := r4.2.1 5 (3 * s) (show 3 * s < 3 * n by omega)
  rw [show pA 5 (3 * s) = 49 + 10 * s from pA_5 s (u := 0) (by omega)] at d4
  have d6 := r6.2.1 0 2 (show 2 < 5 by omega)
  unfold fX4_comes
  rw [ky_bd_s (mP (x := nI s) (y := 0) (w := 0) (p := pA 2 s) rfl rfl (by show _ = 43 + 10 * s; omega) (by show 43 + 10 * s < 283; omega) _ σ Z), ky_g_s (by decide), show (mS σ (upd Z (pA 2 s) (nI x))).1 8 = upd Z (pA 2 s) (nI x) from rfl, d1]
  rw [ky_bd_s (mP (x := nI s) (y := 1) (w := 1) (p := pA 3 s) rfl rfl (by show _ = 44 + 10 * s; omega) (by show 44 + 10 * s < 283; omega) _ σ _)]
  rw [ky_bd_s (mG (x := nI s) (y := 9) (w := 9) (p := 52 + 10 * s) rfl rfl (by omega) (by omega) σ _), d2]
  rw [ky_bd_s (mP (x := nI s) (y := 9) (w := 9) (p := pA 4 s) rfl rfl (by show _ = 52 + 10 * s; omega) (by show 52 + 10 * s < 283; omega) _ σ _)]
  obtain ⟨fu, hfu⟩ : ∃ q, FU = q + 3 := ⟨3997, rfl⟩
  rw [hfu]
  rw [fX4_comes_L37, if_neg (by decide), ky_bd_s (mG (x := nI s) (y := (6 : Int32) + 2 - 1) (w := 7) (p := 49 + 10 * s + 1) rfl rfl (by omega) (by omega) σ _), d3, ky_bd_s (mP (x := nI s) (y := (6 : Int32) + 2) (w := 8) (p := 49 + 10 * s + 2) rfl rfl (by omega) (by omega) _ σ _), ky_bn_s, show (2 : Int32) + -1 = 1 from rfl]
  rw [fX4_comes_L37, if_neg (by decide), ky_bd_s (mG (x := nI s) (y := (6 : Int32) + 1 - 1) (w := 6) (p := 49 + 10 * s) rfl rfl (by omega) (by omega) σ _), d4, pU_ne (Or.inr (show 3 * s ≠ 3 * s + 2 by omega)), ky_bd_s (mP (x := nI s) (y := (6 : Int32) + 1) (w := 7) (p := 49 + 10 * s + 1) rfl rfl (by omega) (by omega) _ σ _), ky_bn_s, show (1 : Int32) + -1 = 0 from rfl]
  rw [fX4_comes_L37, if_pos (by decide), ky_bd_s (mP (x := nI s) (y := 6) (w := 6) (p := 49 + 10 * s + 0) rfl rfl (by omega) (by omega) _ σ _), ky_g_s (by decide), ky_g_s (by decide), ky_bn_s, z_4, mS_u1]
  exact congrArg (fun z => some ((), mS σ (upd _ 4 (z + 1)))) d6
end WB
