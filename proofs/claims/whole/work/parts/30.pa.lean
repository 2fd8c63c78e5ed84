/-! ===== pure: rows, places, reads and writes ===== -/
abbrev pY : Type := Nat → Nat → Int32
def pB (σ : ky_St) (b : Nat) : pY := fun i => σ.1 (b + i)
theorem ky_bd_s {α β : Type} {x : Option (α × ky_St)} {f : α → ky_St → Option β} {a : α} {s : ky_St} (h : x = some (a, s)) : ky_bd x f = f a s := by rw [h]; rfl
theorem ky_bx_s {α β : Type} {x : Option ((String ⊕ α) × ky_St)} {f : α → ky_St → Option ((String ⊕ β) × ky_St)} {a : α} {s : ky_St} (h : x = some (.inr a, s)) : ky_bx x f = f a s := by rw [h]; rfl
theorem ky_bx_x {α β : Type} {x : Option ((String ⊕ α) × ky_St)} {f : α → ky_St → Option ((String ⊕ β) × ky_St)} {E : String} {s : ky_St} (h : x = some (.inl E, s)) : ky_bx x f = some (.inl E, s) := by rw [h]; rfl
theorem ky_bn_s {α β : Type} (x : α) (f : α → β) : ky_bn x f = f x := rfl
theorem ky_g_s {β : Type} {c : Prop} [Decidable c] (h : c) (x : Option β) : ky_g c x = x := if_pos h
theorem pa_ring (a b c : Int32) : a + b - (a + c) = b - c := by grind
theorem pa_at {k N i : Nat} (hk : ky_la k = some N) (hi : i < N) (hN : N < 2 ^ 31) (σ : ky_St) : fX3_at k (nI i) σ = some (σ.1 k i, σ) := by
  have h1 := nI_ge hi hN
  have h2 := nI_in hi hN
  unfold fX3_at
  rw [if_neg (nI_pos (by omega)), hk]
  show (if nI N ≤ nI i then _ else _) = _
  rw [if_neg h1]
  show ky_g _ _ = _
  rw [ky_g_s h2, nI_clamp (by omega)]
theorem pa_atE {k N i : Nat} {a : Int32} (ha : a = nI i) (hk : ky_la k = some N) (hi : i < N) (hN : N < 2 ^ 31) (σ : ky_St) : fX3_at k a σ = some (σ.1 k i, σ) := by subst ha; exact pa_at hk hi hN σ
theorem pa_put {k N i : Nat} (hk : ky_la k = some N) (hr : ky_ro k = false) (hi : i < N) (hN : N < 2 ^ 31) (v : Int32) (σ : ky_St) : fX3_put k (nI i) v σ = some ((), ky_u1 σ k i v) := by
  have h1 := nI_ge hi hN
  have h2 := nI_in hi hN
  unfold fX3_put
  rw [if_neg (nI_pos (by omega)), hk]
  show (if nI N ≤ nI i then _ else _) = _
  rw [if_neg h1]
  show ky_g _ _ = _
  rw [ky_g_s hr, ky_g_s h2, nI_clamp (by omega)]
  rfl
theorem pa_add {k N i : Nat} (hk : ky_la k = some N) (hr : ky_ro k = false) (hi : i < N) (hN : N < 2 ^ 31) (v : Int32) (σ : ky_St) : fX3_add k (nI i) v σ = some ((), ky_u1 σ k i (σ.1 k i + v)) := by
  unfold fX3_add
  rw [ky_bd_s (pa_at hk hi hN σ), ky_bd_s (pa_put hk hr hi hN _ σ)]
theorem pa_of {s w p : Nat} {a b : Int32} (ha : a = nI s) (hb : b = nI w) (hp : 43 + 10 * s + w = p) (h : p < 283) (σ : ky_St) : fX4_of a b σ = some (σ.1 8 p, σ) := by
  subst ha; subst hb
  have e : (43 : Int32) + (10 : Int32) * nI s + nI w = nI p := by
    rw [show (43 : Int32) = nI 43 from rfl, show (10 : Int32) = nI 10 from rfl, pk_mul, nI_add, nI_add, hp]
  unfold fX4_of
  rw [e, ky_g_s (nI_in h (by decide)), nI_clamp (by omega)]
theorem pa_mput {s w p : Nat} {a b : Int32} (ha : a = nI s) (hb : b = nI w) (hp : 43 + 10 * s + w = p) (h : p < 283) (v : Int32) (σ : ky_St) : fX4_put a b v σ = some ((), ky_u1 σ 8 p v) := by
  subst ha; subst hb
  have e : (43 : Int32) + (10 : Int32) * nI s + nI w = nI p := by
    rw [show (43 : Int32) = nI 43 from rfl, show (10 : Int32) = nI 10 from rfl, pk_mul, nI_add, nI_add, hp]
  unfold fX4_put
  rw [e, ky_g_s (nI_in h (by decide)), nI_clamp (by omega)]
  rfl
theorem pa_ofSite {s w p : Nat} {a b : Int32} (ha : a = nI s) (hb : b = nI w) (hp : 19 + 4 * s + w = p) (h : p < 283) (σ : ky_St) : fX4_ofSite a b σ = some (σ.1 8 p, σ) := by
  subst ha; subst hb
  have e : (19 : Int32) + (4 : Int32) * nI s + nI w = nI p := by
    rw [show (19 : Int32) = nI 19 from rfl, show (4 : Int32) = nI 4 from rfl, pk_mul, nI_add, nI_add, hp]
  unfold fX4_ofSite
  rw [e, ky_g_s (nI_in h (by decide)), nI_clamp (by omega)]
theorem pa_bill {s w p : Nat} {a b : Int32} (ha : a = nI s) (hb : b = nI w) (hp : 19 + 4 * s + w = p) (h : p < 283) (v : Int32) (σ : ky_St) : fX4_bill a b v σ = some ((), ky_u1 σ 8 p (σ.1 8 p + v)) := by
  subst ha; subst hb
  have e : (19 : Int32) + (4 : Int32) * nI s + nI w = nI p := by
    rw [show (19 : Int32) = nI 19 from rfl, show (4 : Int32) = nI 4 from rfl, pk_mul, nI_add, nI_add, hp]
  unfold fX4_bill
  rw [e, ky_g_s (nI_in h (by decide)), ky_g_s (nI_in h (by decide)), nI_clamp (by omega)]
  rfl
/-- writing -/
def pU (Y : pY) (r i : Nat) (v : Int32) : pY := fun a b => if a = r ∧ b = i then v else Y a b
theorem pB_u1 {σ : ky_St} {b r i : Nat} {v : Int32} : pB (ky_u1 σ (b + r) i v) b = pU (pB σ b) r i v := by
  funext a j
  unfold pB ky_u1 pU
  by_cases h : a = r
  · subst h; simp
  · have : ¬ b + a = b + r := by omega
    simp [h, this]
theorem pB_o {σ : ky_St} {b k i : Nat} {v : Int32} (h : k < b ∨ b + 13 ≤ k) : ∀ a, a < 13 → pB (ky_u1 σ k i v) b a = pB σ b a := by
  intro a ha
  funext j
  unfold pB ky_u1
  have : ¬ b + a = k := by omega
  simp [this]
theorem pU_eq {Y : pY} {r i : Nat} {v : Int32} : pU Y r i v r i = v := by simp [pU]
theorem pU_ne {Y : pY} {r i a b : Nat} {v : Int32} (h : a ≠ r ∨ b ≠ i) : pU Y r i v a b = Y a b := by
  unfold pU
  rw [if_neg]
  rintro ⟨h1, h2⟩
  rcases h with h | h
  · exact h h1
  · exact h h2
/-- sums from the start -/
def pS (g : Nat → Int32) : Nat → Int32
  | 0 => 0
  | n + 1 => pS g n + g n
theorem pS_congr {g h : Nat → Int32} : ∀ n, (∀ i, i < n → g i = h i) → pS g n = pS h n
  | 0, _ => rfl
  | n + 1, e => by rw [pS, pS, pS_congr n (fun i hi => e i (by omega)), e n (by omega)]
theorem pS_upd {g : Nat → Int32} {i : Nat} {v : Int32} : ∀ n, i < n → pS (fun j => if j = i then v else g j) n = pS g n - g i + v
  | 0, h => absurd h (Nat.not_lt_zero _)
  | n + 1, h => by
    rw [pS, pS]
    by_cases e : i = n
    · subst e
      rw [pS_congr (h := g) i (fun j hj => if_neg (by omega)), if_pos rfl]
      grind
    · rw [pS_upd n (by omega), if_neg (by omega)]
      grind
