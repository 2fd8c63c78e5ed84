/-! ===== pure: the model's reader, a letter at a time ===== -/
section WU
variable {τ : ky_St} {P : Nat → Int32} {k : Nat} {nm du c : Int32}
theorem nI_3k (k j : Nat) : (3 : Int32) * nI k + nI j = nI (3 * k + j) := by rw [show (3 : Int32) = nI 3 from rfl, pk_mul, nI_add]
theorem nI_3k0 (k : Nat) : (3 : Int32) * nI k = nI (3 * k) := by rw [show (3 : Int32) = nI 3 from rfl, pk_mul]
theorem ended_no (h3 : du ≠ 3) (h5 : du ≠ 5) : fX4_isEnded (qS τ P k nm du) = some (0, qS τ P k nm du) := by
  unfold fX4_isEnded
  rw [show (qS τ P k nm du).1 7 9 = du from rfl, if_neg h5, if_neg h3]
theorem ended_5 : fX4_isEnded (qS τ P k nm 5) = some (1, qS τ P k nm 5) := by
  unfold fX4_isEnded
  rw [if_pos (show (qS τ P k nm 5).1 7 9 = 5 from rfl)]
theorem ended_3 (hk : 3 * k < 66) : fX4_isEnded (qS τ P k nm 3) = some (if nm = -1 then 0 else if P (3 * k) = 109 then 0 else 1, qS τ P k nm 3) := by
  unfold fX4_isEnded
  rw [show (qS τ P k nm 3).1 7 9 = 3 from rfl, if_neg (by decide), if_pos rfl, show (qS τ P k nm 3).1 7 8 = nm from rfl, show (qS τ P k nm 3).1 7 7 = nI k from rfl, nI_3k0, nI_clamp (by omega), show (qS τ P k nm 3).1 11 (3 * k) = P (3 * k) from rfl]
  by_cases h : nm = -1
  · rw [if_pos h, if_pos h]
  · have g := nI_in (c := 3 * k) (N := 66) hk (by omega)
    rw [nI_clamp (by omega)] at g
    rw [if_neg h, if_neg h, ky_g_s g]
    by_cases h2 : P (3 * k) = 109
    · rw [if_pos h2, if_pos h2]
    · rw [if_neg h2, if_neg h2]
theorem takes_75 (hk : 3 * k < 66) (hE : c = 59 → fX4_isEnded (qS τ P k nm du) = some (0, qS τ P k nm du)) (h62 : c = 62 → du ≠ 3 ∨ nm = -1 ∨ P (3 * k) ≠ 109) : fX4_takes c (qS τ P k nm du) = fX4_takes_L75 c (qS τ P k nm du) := by
  have key : fX4_takes_L30 c (qS τ P k nm du) = fX4_takes_L75 c (qS τ P k nm du) := by
    unfold fX4_takes_L30
    rw [show (qS τ P k nm du).1 7 9 = du from rfl, show (qS τ P k nm du).1 7 8 = nm from rfl, show (qS τ P k nm du).1 7 7 = nI k from rfl, nI_3k0, nI_clamp (by omega), show (qS τ P k nm du).1 11 (3 * k) = P (3 * k) from rfl]
    have g := nI_in (c := 3 * k) (N := 66) hk (by omega)
    rw [nI_clamp (by omega)] at g
    by_cases h : c = 62
    · rw [if_pos h]
      by_cases h3 : du = 3
      · rw [if_pos h3]
        by_cases h4 : nm = -1
        · rw [if_pos h4]
        · rw [if_neg h4, ky_g_s g, if_neg (((h62 h).resolve_left (fun q => q h3)).resolve_left h4)]
      · rw [if_neg h3]
    · rw [if_neg h]
  unfold fX4_takes
  by_cases h : c = 59
  · rw [if_pos h, ky_bd_s (hE h), if_pos rfl, key]
  · rw [if_neg h, key]
/-- the first letter of an order -/
abbrev pKd (c : Int32) : Prop := c = 104 ∨ c = 109 ∨ c = 98 ∨ c = 100
theorem tk0 (hk : 3 * k < 66) (c : Int32) : fX4_takes c (qS τ P k nm 0) = some (bI (pKd c), qS τ (upd P (3 * k) c) k (-1) (if c = 104 then 1 else 3)) := by
  rw [takes_75 hk (fun _ => ended_no (by decide) (by decide)) (fun _ => Or.inl (by decide))]
  have e : fX4_begins c (qS τ P k nm 0) = some (bI (pKd c), qS τ (upd P (3 * k) c) k (-1) (if c = 104 then 1 else 3)) := by
    unfold fX4_begins
    rw [show (qS τ P k nm 0).1 7 7 = nI k from rfl, nI_3k0, ky_g_s (nI_in hk (by omega)), nI_clamp (by omega), qS_11, ky_bn_s, qS_8, ky_bn_s]
    have key : ∀ y : Int32, fX4_begins_L29 c y (qS τ (upd P (3 * k) c) k (-1) 0) = some (bI (pKd c), qS τ (upd P (3 * k) c) k (-1) y) := by
      intro y
      unfold fX4_begins_L29
      rw [qS_9, ky_bn_s]
      by_cases h1 : c = 104
      · rw [if_pos h1, bI_t (Or.inl h1)]
      · rw [if_neg h1]
        by_cases h2 : c = 109
        · rw [if_pos h2, bI_t (Or.inr (Or.inl h2))]
        · rw [if_neg h2]
          by_cases h3 : c = 98
          · rw [if_pos h3, bI_t (Or.inr (Or.inr (Or.inl h3)))]
          · rw [if_neg h3]
            by_cases h4 : c = 100
            · rw [if_pos h4, bI_t (Or.inr (Or.inr (Or.inr h4)))]
            · rw [if_neg h4, bI_f]
              rintro (q | q | q | q)
              · exact h1 q
              · exact h2 q
              · exact h3 q
              · exact h4 q
    by_cases h : c = 104
    · rw [if_pos h, if_pos h, key]
    · rw [if_neg h, if_neg h, key]
  unfold fX4_takes_L75
  rw [show (qS τ P k nm 0).1 7 9 = 0 from rfl, ky_bn_s, if_pos rfl, ky_bd_s e, ky_g_s bI_01]
theorem tkS (hk : 3 * k + 2 < 66) {j : Nat} (hj : j < 3) (v : Int32) : fX4_takesSite c (nI j) v (qS τ P k nm du) = some (bI (0 ≤ c - 48 ∧ c - 48 ≤ 5), qS τ (upd P (3 * k + j) (c - 48)) k nm v) := by
  unfold fX4_takesSite
  rw [show (qS τ P k nm du).1 7 7 = nI k from rfl, nI_3k, ky_g_s (nI_in (by omega) (by omega)), nI_clamp (by omega), qS_11, ky_bn_s, qS_9, ky_bn_s, ky_bd_s (qM_isSite _), ky_g_s bI_01]
theorem tk1 (hk : 3 * k + 2 < 66) (c : Int32) : fX4_takes c (qS τ P k nm 1) = some (bI (0 ≤ c - 48 ∧ c - 48 ≤ 5), qS τ (upd P (3 * k + 1) (c - 48)) k nm 2) := by
  rw [takes_75 (by omega) (fun _ => ended_no (by decide) (by decide)) (fun _ => Or.inl (by decide))]
  unfold fX4_takes_L75
  rw [show (qS τ P k nm 1).1 7 9 = 1 from rfl, ky_bn_s, if_neg (by decide), if_pos rfl, ky_bd_s (show fX4_takesSite c (1 : Int32) 2 (qS τ P k nm 1) = _ from tkS (j := 1) hk (by omega) 2), ky_g_s bI_01]
theorem tk2 (hk : 3 * k + 2 < 66) (c : Int32) : fX4_takes c (qS τ P k nm 2) = some (bI (c = 42), qS τ P k nm 3) := by
  rw [takes_75 (by omega) (fun _ => ended_no (by decide) (by decide)) (fun _ => Or.inl (by decide))]
  unfold fX4_takes_L75
  rw [show (qS τ P k nm 2).1 7 9 = 2 from rfl, ky_bn_s, if_neg (by decide), if_neg (by decide), if_pos rfl, qS_9, ky_bn_s]
  by_cases h : c = 42
  · rw [if_pos h, bI_t h]
  · rw [if_neg h, bI_f h]
theorem tk4 (hk : 3 * k + 2 < 66) (c : Int32) : fX4_takes c (qS τ P k nm 4) = some (bI (0 ≤ c - 48 ∧ c - 48 ≤ 5), qS τ (upd P (3 * k + 2) (c - 48)) k nm 5) := by
  rw [takes_75 (by omega) (fun _ => ended_no (by decide) (by decide)) (fun _ => Or.inl (by decide))]
  unfold fX4_takes_L75
  rw [show (qS τ P k nm 4).1 7 9 = 4 from rfl, ky_bn_s, if_neg (by decide), if_neg (by decide), if_neg (by decide), if_neg (by decide), if_pos rfl, ky_bd_s (show fX4_takesSite c (2 : Int32) 5 (qS τ P k nm 4) = _ from tkS (j := 2) hk (by omega) 5), ky_g_s bI_01]
theorem tk5 (hk : 3 * k + 2 < 66) (h : c ≠ 59) : fX4_takes c (qS τ P k nm 5) = some (0, qS τ P k nm 5) := by
  rw [takes_75 (by omega) (fun q => absurd q h) (fun _ => Or.inl (by decide))]
  unfold fX4_takes_L75
  rw [show (qS τ P k nm 5).1 7 9 = 5 from rfl, ky_bn_s, if_neg (by decide), if_neg (by decide), if_neg (by decide), if_neg (by decide), if_neg (by decide)]
/-- the sign between two orders -/
theorem tkE (hE : fX4_isEnded (qS τ P k nm du) = some (1, qS τ P k nm du)) : fX4_takes 59 (qS τ P k nm du) = some (1, qS τ P (k + 1) nm 0) := by
  unfold fX4_takes
  rw [if_pos rfl, ky_bd_s hE, if_neg (by decide), show (qS τ P k nm du).1 7 7 = nI k from rfl, nI_1, qS_7, ky_bn_s, qS_9, ky_bn_s]
theorem tkM (hk : 3 * k < 66) (hn : nm ≠ -1) (hP : P (3 * k) = 109) : fX4_takes 62 (qS τ P k nm 3) = some (1, qS τ P k nm 4) := by
  have g := nI_in (c := 3 * k) (N := 66) hk (by omega)
  rw [nI_clamp (by omega)] at g
  unfold fX4_takes
  rw [if_neg (by decide)]
  unfold fX4_takes_L30
  rw [if_pos rfl, if_pos (show (qS τ P k nm 3).1 7 9 = 3 from rfl), show (qS τ P k nm 3).1 7 8 = nm from rfl, if_neg hn, show (qS τ P k nm 3).1 7 7 = nI k from rfl, nI_3k0, nI_clamp (by omega), ky_g_s g, if_pos (show (qS τ P k nm 3).1 11 (3 * k) = 109 from hP), qS_9, ky_bn_s]
/-- a digit of a number -/
def pLo (a : Int32) : Int32 := if a = 109 then 0 else if a = 98 then 0 else 1
def pHiN (a : Int32) : Int32 := if a = 109 then 23 else if a = 98 then 23 else if a = 104 then 24 else 99
def pWh2 (a : Int32) : Nat := if a = 109 then 1 else if a = 98 then 1 else 2
def pVal (nm d : Int32) : Int32 := if nm = -1 then d else (10 : Int32) * nm + d
abbrev pDg (a nm d : Int32) : Prop := (0 ≤ d ∧ d ≤ 9) ∧ ¬ nm = 0 ∧ pLo a ≤ pVal nm d ∧ pVal nm d ≤ pHiN a
theorem tkD (hk : 3 * k + 2 < 66) (d : Int32) : fX4_takesDigit d (qS τ P k nm 3) = some (bI (pDg (P (3 * k)) nm d), qS τ (upd P (3 * k + pWh2 (P (3 * k))) (if pDg (P (3 * k)) nm d then pVal nm d else nm)) k (if pDg (P (3 * k)) nm d then pVal nm d else nm) 3) := by
  generalize hA : P (3 * k) = a
  have k139 : ∀ (x3 : Int32) (j : Nat) (x7 y : Int32) (nm' : Int32), ((x3 = 0 ∧ j = 2) ∨ (¬ x3 = 0 ∧ j = 1)) → (x7 = 0 ∨ x7 = 1) → fX4_takesDigit_L139 x3 x7 y (qS τ P k nm' 3) = some (x7, qS τ (upd P (3 * k + j) y) k y 3) := by
    intro x3 j x7 y nm' hj h7
    unfold fX4_takesDigit_L139
    rw [qS_8, ky_bn_s, show (qS τ P k y 3).1 7 7 = nI k from rfl, show (qS τ P k y 3).1 7 8 = y from rfl]
    rcases hj with ⟨h3, rfl⟩ | ⟨h3, rfl⟩
    · rw [if_pos h3, show (2 : Int32) = nI 2 from rfl, nI_3k, ky_g_s (nI_in (by omega) (by omega)), nI_clamp (by omega), qS_11, ky_bn_s, ky_g_s h7]
    · rw [if_neg h3, show (1 : Int32) = nI 1 from rfl, nI_3k, ky_g_s (nI_in (by omega) (by omega)), nI_clamp (by omega), qS_11, ky_bn_s, ky_g_s (show x7 = 0 ∨ x7 = nI 1 from h7)]
  have k86 : ∀ (x3 lo hi y0 : Int32) (j : Nat), ((x3 = 0 ∧ j = 2) ∨ (¬ x3 = 0 ∧ j = 1)) → fX4_takesDigit_L86 d x3 lo hi y0 (qS τ P k nm 3) = some (bI ((0 ≤ d ∧ d ≤ 9) ∧ ¬ nm = 0 ∧ lo ≤ y0 ∧ y0 ≤ hi), qS τ (upd P (3 * k + j) (if ((0 ≤ d ∧ d ≤ 9) ∧ ¬ nm = 0 ∧ lo ≤ y0 ∧ y0 ≤ hi) then y0 else nm)) k (if ((0 ≤ d ∧ d ≤ 9) ∧ ¬ nm = 0 ∧ lo ≤ y0 ∧ y0 ≤ hi) then y0 else nm) 3) := by
    intro x3 lo hi y0 j hj
    have no : ¬ ((0 ≤ d ∧ d ≤ 9) ∧ ¬ nm = 0 ∧ lo ≤ y0 ∧ y0 ≤ hi) → fX4_takesDigit_L121 x3 y0 (qS τ P k nm 3) = some (bI ((0 ≤ d ∧ d ≤ 9) ∧ ¬ nm = 0 ∧ lo ≤ y0 ∧ y0 ≤ hi), qS τ (upd P (3 * k + j) (if ((0 ≤ d ∧ d ≤ 9) ∧ ¬ nm = 0 ∧ lo ≤ y0 ∧ y0 ≤ hi) then y0 else nm)) k (if ((0 ≤ d ∧ d ≤ 9) ∧ ¬ nm = 0 ∧ lo ≤ y0 ∧ y0 ≤ hi) then y0 else nm) 3) := by
      intro h
      rw [bI_f h, if_neg h]
      unfold fX4_takesDigit_L121 fX4_takesDigit_L122
      rw [if_pos rfl]
      exact k139 x3 j 0 nm nm hj (Or.inl rfl)
    unfold fX4_takesDigit_L86
    rw [ky_bd_s qM_within]
    by_cases h1 : 0 ≤ d ∧ d ≤ 9
    · rw [bI_t h1, if_neg (by decide), show (qS τ P k nm 3).1 7 8 = nm from rfl]
      by_cases h2 : nm = 0
      · rw [if_pos h2]
        exact no (fun q => q.2.1 h2)
      · rw [if_neg h2, ky_bd_s qM_within]
        by_cases h3 : lo ≤ y0 ∧ y0 ≤ hi
        · rw [bI_t h3, if_neg (by decide), bI_t (show (0 ≤ d ∧ d ≤ 9) ∧ ¬ nm = 0 ∧ lo ≤ y0 ∧ y0 ≤ hi from ⟨h1, h2, h3⟩), if_pos (show (0 ≤ d ∧ d ≤ 9) ∧ ¬ nm = 0 ∧ lo ≤ y0 ∧ y0 ≤ hi from ⟨h1, h2, h3⟩)]
          unfold fX4_takesDigit_L122
          rw [if_neg (by decide)]
          exact k139 x3 j 1 y0 nm hj (Or.inr rfl)
        · rw [bI_f h3, if_pos rfl]
          exact no (fun q => h3 q.2.2)
    · rw [bI_f h1, if_pos rfl]
      exact no (fun q => h1 q.1)
  have k63 : ∀ (x3 lo hi : Int32) (j : Nat), ((x3 = 0 ∧ j = 2) ∨ (¬ x3 = 0 ∧ j = 1)) → fX4_takesDigit_L63 d x3 lo hi (qS τ P k nm 3) = some (bI ((0 ≤ d ∧ d ≤ 9) ∧ ¬ nm = 0 ∧ lo ≤ pVal nm d ∧ pVal nm d ≤ hi), qS τ (upd P (3 * k + j) (if ((0 ≤ d ∧ d ≤ 9) ∧ ¬ nm = 0 ∧ lo ≤ pVal nm d ∧ pVal nm d ≤ hi) then pVal nm d else nm)) k (if ((0 ≤ d ∧ d ≤ 9) ∧ ¬ nm = 0 ∧ lo ≤ pVal nm d ∧ pVal nm d ≤ hi) then pVal nm d else nm) 3) := by
    intro x3 lo hi j hj
    unfold fX4_takesDigit_L63 pVal
    rw [show (qS τ P k nm 3).1 7 8 = nm from rfl]
    by_cases h : nm = -1
    · simp only [if_pos h]
      exact k86 x3 lo hi d j hj
    · simp only [if_neg h]
      exact k86 x3 lo hi _ j hj
  unfold fX4_takesDigit
  rw [show (qS τ P k nm 3).1 7 7 = nI k from rfl, nI_3k0, ky_g_s (nI_in (by omega) (by omega)), nI_clamp (by omega), show (qS τ P k nm 3).1 11 (3 * k) = a from hA, ky_bn_s]
  have fin : ∀ (x3 lo hi : Int32), pLo a = lo → pHiN a = hi → ((x3 = 0 ∧ pWh2 a = 2) ∨ (¬ x3 = 0 ∧ pWh2 a = 1)) → fX4_takesDigit_L63 d x3 lo hi (qS τ P k nm 3) = some (bI (pDg a nm d), qS τ (upd P (3 * k + pWh2 a) (if pDg a nm d then pVal nm d else nm)) k (if pDg a nm d then pVal nm d else nm) 3) := by
    intro x3 lo hi e1 e2 hj
    subst e1
    subst e2
    exact k63 x3 (pLo a) (pHiN a) (pWh2 a) hj
  by_cases h1 : a = 109
  · rw [if_pos h1]
    unfold fX4_takesDigit_L24 fX4_takesDigit_L29
    rw [if_neg (by decide)]
    unfold fX4_takesDigit_L39
    rw [if_neg (by decide)]
    exact fin 1 0 23 (if_pos h1) (if_pos h1) (Or.inr ⟨by decide, if_pos h1⟩)
  · rw [if_neg h1]
    by_cases h2 : a = 98
    · rw [if_pos h2]
      unfold fX4_takesDigit_L24 fX4_takesDigit_L29
      rw [if_neg (by decide)]
      unfold fX4_takesDigit_L39
      rw [if_neg (by decide)]
      exact fin 1 0 23 ((if_neg h1).trans (if_pos h2)) ((if_neg h1).trans (if_pos h2)) (Or.inr ⟨by decide, (if_neg h1).trans (if_pos h2)⟩)
    · rw [if_neg h2]
      unfold fX4_takesDigit_L29
      rw [if_pos rfl]
      unfold fX4_takesDigit_L39
      rw [if_pos rfl]
      by_cases h3 : a = 104
      · rw [if_pos h3]
        exact fin 0 1 24 ((if_neg h1).trans (if_neg h2)) (((if_neg h1).trans (if_neg h2)).trans (if_pos h3)) (Or.inl ⟨rfl, (if_neg h1).trans (if_neg h2)⟩)
      · rw [if_neg h3]
        exact fin 0 1 99 ((if_neg h1).trans (if_neg h2)) (((if_neg h1).trans (if_neg h2)).trans (if_neg h3)) (Or.inl ⟨rfl, (if_neg h1).trans (if_neg h2)⟩)
theorem tk3 (hk : 3 * k + 2 < 66) (c : Int32) (hE : c = 59 → nm = -1 ∨ P (3 * k) = 109) (hM : c = 62 → nm = -1 ∨ P (3 * k) ≠ 109) : fX4_takes c (qS τ P k nm 3) = some (bI (pDg (P (3 * k)) nm (c - 48)), qS τ (upd P (3 * k + pWh2 (P (3 * k))) (if pDg (P (3 * k)) nm (c - 48) then pVal nm (c - 48) else nm)) k (if pDg (P (3 * k)) nm (c - 48) then pVal nm (c - 48) else nm) 3) := by
  rw [takes_75 (by omega) (fun q => by
    rw [ended_3 (by omega)]
    rcases hE q with h | h
    · rw [if_pos h]
    · by_cases h2 : nm = -1
      · rw [if_pos h2]
      · rw [if_neg h2, if_pos h]) (fun q => Or.inr (hM q))]
  unfold fX4_takes_L75
  rw [show (qS τ P k nm 3).1 7 9 = 3 from rfl, ky_bn_s, if_neg (by decide), if_neg (by decide), if_neg (by decide), if_pos rfl, ky_bd_s (tkD hk _), ky_g_s bI_01]
end WU
