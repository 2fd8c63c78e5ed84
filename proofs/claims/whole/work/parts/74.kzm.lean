/-! ===== the loop's start: the layout, its numbers ===== -/
def od (k : Nat) : Nat := if k < 13 then (if k = 0 then 0 else if k = 2 then 14 else if k = 3 then 94 else if k = 4 then 96 else if k = 5 then 15 else if k = 6 then 95 else if k = 7 then 97 else k + 90) else if k < 20 then 103 else if k < 33 then k - 19 else k - 17
def ad (z a13 a14 a15 k : Nat) : Nat := if k = 13 then a13 else if k = 14 then a14 else if k = 15 then a15 else z + od k
def st0 (xs : Nat → Int32) : ky_St := (fun k => if k < 20 then (if k = 13 then pWi else if k = 14 then pCo else if k = 15 then xs else if k = 8 then mdA 0 else fun _ => 0) else if k < 111 then (if (k - 20) % 13 = 0 then fun _ => 0 else bkA ((k - 20) % 13)) else fun _ => 0, fun _ => 0)
/-- the layout out of the world -/
def gk (G : kz_G) (L a13 a14 a15 : Nat) : ky_G := (G.1, ad G.2.1 a13 a14 a15, G.2.1, L, G.2.2.1, G.2.2.2.1)
section KM
variable {G : kz_G} {L a13 a14 a15 z : Nat} {xs : Nat → Int32}
theorem ad_b {b r : Nat} (hb : pBk b) (hr : r < 13) : ad z a13 a14 a15 (b + r) = ad z a13 a14 a15 b + r := by
  unfold ad od
  rcases hb with rfl | ⟨j, hj, rfl⟩
  · rw [if_neg (by omega), if_neg (by omega), if_neg (by omega), if_neg (show ¬ 20 + r < 13 by omega), if_neg (show ¬ 20 + r < 20 by omega), if_pos (show 20 + r < 33 by omega)]
    show z + (20 + r - 19) = z + 1 + r
    omega
  · rw [if_neg (by omega), if_neg (by omega), if_neg (by omega), if_neg (show ¬ 33 + 13 * j + r < 13 by omega), if_neg (show ¬ 33 + 13 * j + r < 20 by omega), if_neg (show ¬ 33 + 13 * j + r < 33 by omega), if_neg (by omega), if_neg (by omega), if_neg (by omega), if_neg (show ¬ 33 + 13 * j < 13 by omega), if_neg (show ¬ 33 + 13 * j < 20 by omega), if_neg (show ¬ 33 + 13 * j < 33 by omega)]
    omega
theorem ad_r {j : Nat} : ad z a13 a14 a15 (33 + 13 * j) = z + 16 + 13 * j := by
  unfold ad od
  rw [if_neg (by omega), if_neg (by omega), if_neg (by omega), if_neg (show ¬ 33 + 13 * j < 13 by omega), if_neg (show ¬ 33 + 13 * j < 20 by omega), if_neg (show ¬ 33 + 13 * j < 33 by omega)]
  omega
theorem ad_20 : ad z a13 a14 a15 20 = z + 1 := rfl
theorem bk_cell {b r : Nat} (hb : pBk b) (hr : r < 13) : lwW G z (ad z a13 a14 a15 (b + r)) = some (bkCell G (ad z a13 a14 a15 b) r) := by
  rw [ad_b hb hr]
  rcases hb with rfl | ⟨j, hj, rfl⟩
  · exact lw_b hr
  · rw [ad_r]
    exact lw_r hj hr
theorem bk_of {k : Nat} (h1 : 20 ≤ k) (h2 : k < 111) : ∃ b r, pBk b ∧ r < 13 ∧ k = b + r ∧ (k - 20) % 13 = r := by
  by_cases h : k < 33
  · exact ⟨20, k - 20, Or.inl rfl, by omega, by omega, by omega⟩
  · exact ⟨33 + 13 * ((k - 33) / 13), (k - 33) % 13, Or.inr ⟨(k - 33) / 13, by omega, rfl⟩, by omega, by omega, by omega⟩
theorem st_b {b r : Nat} (hb : pBk b) (hr : r < 13) : (st0 xs).1 (b + r) = if r = 0 then fun _ => 0 else bkA r := by
  unfold st0
  have e : (b + r - 20) % 13 = r := by
    rcases hb with rfl | ⟨j, hj, rfl⟩ <;> omega
  have h1 : ¬ b + r < 20 := by
    rcases hb with rfl | ⟨j, hj, rfl⟩ <;> omega
  have h2 : b + r < 111 := by
    rcases hb with rfl | ⟨j, hj, rfl⟩ <;> omega
  show (if b + r < 20 then _ else if b + r < 111 then (if (b + r - 20) % 13 = 0 then _ else bkA ((b + r - 20) % 13)) else _) = _
  rw [if_neg h1, if_pos h2, e]
theorem pLn_bl {r : Nat} (h0 : r ≠ 0) (hr : r < 13) : ky_bl r = some (pLn r) := by
  have : ∀ r, r < 13 → r ≠ 0 → ky_bl r = some (pLn r) := by decide +kernel
  exact this r hr h0
/-- the fields of an object of the layout -/
theorem km_ob {H : Heap} (hP : kz_P G (lwW G G.2.1) H) {k c : Nat} {q : vw_C} {fs : List Value} (hc : ky_cl k = c) (hq : ky_cls[c]? = some q) (hw : lwW G G.2.1 (ad G.2.1 a13 a14 a15 k) = some (.inr (c, fs))) (hv : ∀ f, f < q.2.2 → vp_V fs f = ky_val (gk G L a13 a14 a15) (st0 xs) k f) : t_OB (ad G.2.1 a13 a14 a15 k) (G.2.2.1.1 (ky_cl k)) (ky_N (ky_cl k)) (G.2.2.1.2 (ky_cl k)) H (ky_val (gk G L a13 a14 a15) (st0 xs) k) := by
  subst hc
  obtain ⟨r, r1, r2⟩ := hP _ _ hw
  have hr : r = q := Option.some.inj (r1.symm.trans hq)
  subst hr
  rw [(ky_cq hq).2.1]
  exact r2.to hv
theorem km_bkv {b : Nat} (hb : pBk b) : ∀ f, f < 17 → vp_V (bkF (ad G.2.1 a13 a14 a15 b + 1)) f = ky_val (gk G L a13 a14 a15) (st0 xs) b f := by
  intro f hf
  have hi : ∀ f, ky_ty 0 f = 0 → ky_val (gk G L a13 a14 a15) (st0 xs) b f = .int 0 := fun f h => by
    unfold ky_val
    rw [cl_bk hb, if_pos h, show (st0 xs).1 b = _ from st_b (r := 0) hb (by omega), if_pos rfl]
  have hr : ∀ f, 5 ≤ f → f < 17 → ky_val (gk G L a13 a14 a15) (st0 xs) b f = .ref (ad G.2.1 a13 a14 a15 b + 1 + (f - 5)) := fun f h1 h2 => by
    unfold ky_val
    rw [cl_bk hb, if_neg (by unfold ky_ty; rw [if_pos rfl, if_neg (by omega)]; decide), if_pos (by unfold ky_ty; rw [if_pos rfl, if_neg (by omega)])]
    unfold ky_lk
    rw [if_neg (by rcases hb with rfl | ⟨j, hj, rfl⟩ <;> omega), if_neg (by rcases hb with rfl | ⟨j, hj, rfl⟩ <;> omega), if_neg (by rcases hb with rfl | ⟨j, hj, rfl⟩ <;> omega), if_neg (by rcases hb with rfl | ⟨j, hj, rfl⟩ <;> omega)]
    show Value.ref (ad G.2.1 a13 a14 a15 (b + (f - 4))) = _
    rw [ad_b hb (by omega)]
    exact congrArg Value.ref (show ad G.2.1 a13 a14 a15 b + (f - 4) = ad G.2.1 a13 a14 a15 b + 1 + (f - 5) by omega)
  have : f = 0 ∨ f = 1 ∨ f = 2 ∨ f = 3 ∨ f = 4 ∨ 5 ≤ f := by omega
  rcases this with rfl | rfl | rfl | rfl | rfl | h
  · rw [hi 0 rfl]; rfl
  · rw [hi 1 rfl]; rfl
  · rw [hi 2 rfl]; rfl
  · rw [hi 3 rfl]; rfl
  · rw [hi 4 rfl]; rfl
  · rw [hr f h hf]
    have : f = 5 ∨ f = 6 ∨ f = 7 ∨ f = 8 ∨ f = 9 ∨ f = 10 ∨ f = 11 ∨ f = 12 ∨ f = 13 ∨ f = 14 ∨ f = 15 ∨ f = 16 := by omega
    rcases this with rfl | rfl | rfl | rfl | rfl | rfl | rfl | rfl | rfl | rfl | rfl | rfl <;> rfl
theorem km_obs {H : Heap} (hP : kz_P G (lwW G G.2.1) H) : ∀ k, ky_cl k < 5 → t_OB (ad G.2.1 a13 a14 a15 k) (G.2.2.1.1 (ky_cl k)) (ky_N (ky_cl k)) (G.2.2.1.2 (ky_cl k)) H (ky_val (gk G L a13 a14 a15) (st0 xs) k) := by
  intro k hk
  by_cases h0 : k = 0
  · subst h0
    refine km_ob hP (q := (RX3, TX3, 4)) rfl rfl lw_0 (fun f hf => ?_)
    have : f = 0 ∨ f = 1 ∨ f = 2 ∨ f = 3 := by have hf : f < 4 := hf; omega
    rcases this with rfl | rfl | rfl | rfl <;> rfl
  by_cases h2 : k = 2
  · subst h2
    refine km_ob hP (q := (RX1, TX1, 3)) rfl rfl lw_14 (fun f hf => ?_)
    have : f = 0 ∨ f = 1 ∨ f = 2 := by have hf : f < 3 := hf; omega
    rcases this with rfl | rfl | rfl <;> rfl
  by_cases h3 : k = 3
  · subst h3
    refine km_ob hP (q := (RX2, TX2, 6)) rfl rfl lw_94 (fun f hf => ?_)
    have : f = 0 ∨ f = 1 ∨ f = 2 ∨ f = 3 ∨ f = 4 ∨ f = 5 := by have hf : f < 6 := hf; omega
    rcases this with rfl | rfl | rfl | rfl | rfl | rfl <;> rfl
  by_cases h7 : k = 7
  · subst h7
    refine km_ob hP (q := (RX4, TX4, 12)) rfl rfl lw_97 (fun f hf => ?_)
    have : f = 0 ∨ f = 1 ∨ f = 2 ∨ f = 3 ∨ f = 4 ∨ f = 5 ∨ f = 6 ∨ f = 7 ∨ f = 8 ∨ f = 9 ∨ f = 10 ∨ f = 11 := by have hf : f < 12 := hf; omega
    rcases this with rfl | rfl | rfl | rfl | rfl | rfl | rfl | rfl | rfl | rfl | rfl | rfl <;> rfl
  have hb : ky_bk k = true := by
    unfold ky_cl at hk
    rw [if_neg h0, if_neg h2, if_neg h3, if_neg h7] at hk
    by_cases hb : ky_bk k = true
    · exact hb
    · rw [if_neg hb] at hk
      omega
  simp only [ky_bk, Bool.and_eq_true, decide_eq_true_eq] at hb
  obtain ⟨b, r, hpb, hr, hkr, hm⟩ := bk_of hb.1 hb.2.1
  have hr0 : r = 0 := by omega
  subst hr0
  have hkb : k = b := by omega
  subst hkb
  exact km_ob hP (q := (RX0, TX0, 17)) (cl_bk hpb) rfl ((bk_cell (r := 0) hpb (by omega)).trans (congrArg some (if_pos rfl))) (km_bkv hpb)
theorem km_arr {U : State} {H : Heap} (hP : kz_P G (lwW G G.2.1) H) (h13 : va_X a13 4 pWi U H) (h14 : va_X a14 4 pCo U H) (h15 : va_X a15 L xs U H) : ∀ k n, ky_len L k = some n → ky_arr (gk G L a13 a14 a15) U (st0 xs) H k n := by
  intro k n h
  have one : ∀ f : Nat → Int32, ky_ro k = false → lwW G G.2.1 (ad G.2.1 a13 a14 a15 k) = some (.inl (G.2.2.2.1, n, .inl f)) → (st0 xs).1 k = f → ky_arr (gk G L a13 a14 a15) U (st0 xs) H k n := fun f h1 h2 h3 => Or.inr ⟨h1, by
    rw [h3]
    exact hP _ _ h2⟩
  by_cases h4 : k = 4
  · subst h4
    cases h
    exact one _ rfl lw_96 rfl
  by_cases h6 : k = 6
  · subst h6
    cases h
    exact one _ rfl lw_95 rfl
  by_cases h8 : k = 8
  · subst h8
    cases h
    exact one _ rfl (lw_m (r := 0) (by omega)) rfl
  by_cases h9 : k = 9
  · subst h9
    cases h
    exact one _ rfl (lw_m (r := 1) (by omega)) rfl
  by_cases h10 : k = 10
  · subst h10
    cases h
    exact one _ rfl (lw_m (r := 2) (by omega)) rfl
  by_cases h11 : k = 11
  · subst h11
    cases h
    exact one _ rfl (lw_m (r := 3) (by omega)) rfl
  by_cases h12 : k = 12
  · subst h12
    cases h
    exact one _ rfl (lw_m (r := 4) (by omega)) rfl
  by_cases h13' : k = 13
  · subst h13'
    cases h
    exact Or.inl ⟨rfl, h13⟩
  by_cases h14' : k = 14
  · subst h14'
    cases h
    exact Or.inl ⟨rfl, h14⟩
  by_cases h15' : k = 15
  · subst h15'
    cases h
    exact Or.inl ⟨rfl, h15⟩
  unfold ky_len at h
  rw [if_neg h4, if_neg h6, if_neg h8, if_neg h9, if_neg h10, if_neg h11, if_neg h12, if_neg h13', if_neg h14', if_neg h15'] at h
  by_cases hk : 20 ≤ k ∧ k < 111
  · rw [if_pos hk] at h
    obtain ⟨b, r, hpb, hr, rfl, hm⟩ := bk_of hk.1 hk.2
    rw [hm] at h
    by_cases hr0 : r = 0
    · subst hr0
      cases h
    · rw [pLn_bl hr0 hr] at h
      cases h
      refine one (bkA r) ?_ ((bk_cell hpb hr).trans (congrArg some (if_neg hr0))) ((st_b hpb hr).trans (if_neg hr0))
      simp only [ky_ro, Bool.or_eq_false_iff, beq_eq_false_iff_ne, ne_eq]
      omega
  · rw [if_neg hk] at h
    cases h
/-- the loop's start holds the layout -/
theorem km {U : State} {H : Heap} (hE : kz_E G U) (hP : kz_P G (lwW G G.2.1) H) (h13 : va_X a13 4 pWi U H) (h14 : va_X a14 4 pCo U H) (h15 : va_X a15 L xs U H) : ky_M (gk G L a13 a14 a15) U (st0 xs) H := by
  refine ⟨km_obs hP, km_arr hP h13 h14 h15, ?_, ?_⟩
  · refine ⟨_, hP _ _ lw_15, (hE.1.2 2 (G.2.2.2.2.2, .object RX0) rfl).1 6 (fun j => va_rf (hsR (G.2.1 + 15) 6 j)), fun q => (by cases q), arrV_size _ _ _, fun j hj => ?_⟩
    refine (arrV_read _ _ hj).trans ?_
    show some (va_rf (if j < 6 then some (G.2.1 + 15 + 1 + 13 * j) else none)) = some (.ref (ad G.2.1 a13 a14 a15 (33 + 13 * j)))
    rw [if_pos hj, ad_r]
    rfl
  · exact ⟨_, hP _ _ lw_103, (hE.1.2 1 (G.2.2.2.2.1, .long) rfl).1 1 (fun j => .long 0), fun q => (by cases q), arrV_size _ _ _, arrV_read _ _ (Nat.lt_succ_self 0)⟩
theorem od_inj0 : ∀ j, j < 111 → ∀ k, k < 111 → (ky_us j && (ky_us k && (!ky_ro j && (!ky_ro k && decide (od j = od k))))) = true → j = k := by decide +kernel
theorem od_inj (j : Nat) (hj : j < 111) (k : Nat) (hk : k < 111) (h1 : ky_us j = true) (h2 : ky_us k = true) (h3 : ky_ro j = false) (h4 : ky_ro k = false) (h5 : od j = od k) : j = k := od_inj0 j hj k hk (by rw [h1, h2, h3, h4, decide_eq_true h5]; rfl)
theorem us_111 {k : Nat} (h : ky_us k = true) : k < 111 := by
  simp only [ky_us, Bool.or_eq_true, Bool.and_eq_true, decide_eq_true_eq] at h
  omega
theorem ad_w {k : Nat} (h : ky_ro k = false) : ad z a13 a14 a15 k = z + od k := by
  simp only [ky_ro, Bool.or_eq_false_iff, beq_eq_false_iff_ne, ne_eq] at h
  unfold ad
  rw [if_neg h.1, if_neg h.2.1, if_neg h.2.2]
theorem ki (hst : G.1.stackTraces = false) (h13 : a13 < G.2.1) (h14 : a14 < G.2.1) (h15 : a15 < G.2.1) : ky_I (gk G L a13 a14 a15) := by
  refine ⟨hst, fun j k hj hk hro e => ?_, fun k hk hro => ?_⟩
  · have e : ad G.2.1 a13 a14 a15 j = ad G.2.1 a13 a14 a15 k := e
    rw [ad_w hro] at e
    by_cases hj2 : ky_ro j = false
    · rw [ad_w hj2] at e
      exact od_inj j (us_111 hj) k (us_111 hk) hj hk hj2 hro (by omega)
    · have hj3 : j = 13 ∨ j = 14 ∨ j = 15 := by
        simp only [ky_ro, Bool.or_eq_false_iff, beq_eq_false_iff_ne, ne_eq] at hj2
        omega
      rcases hj3 with rfl | rfl | rfl
      · exact absurd (show a13 = _ from e) (by omega)
      · exact absurd (show a14 = _ from e) (by omega)
      · exact absurd (show a15 = _ from e) (by omega)
  · show G.2.1 ≤ ad G.2.1 a13 a14 a15 k
    rw [ad_w hro]
    omega
end KM
