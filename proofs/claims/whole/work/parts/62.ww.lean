/-! ===== pure: the model's reader, an order at a time; both readers ===== -/
section WW
variable {τ : ky_St} {t p q lo hi v w k : Nat} {r : Nat → Nat} {P : Nat → Int32} {nm du a : Int32} {S S1 S2 : ky_St} {q2 : Nat}
/-- the model's text -/
def hM (t : Nat) (r : Nat → Nat) (τ : ky_St) : Prop := τ.1 7 3 = nI t ∧ ∀ i, i < t → τ.1 10 i = nI (r i)
/-- the model's reader goes on -/
def mGo (t p : Nat) (S : ky_St) (q : Nat) (S1 : ky_St) : Prop := ∀ fu, t - p < fu → ∃ fu', t - q < fu' ∧ fX4_rightUpTo_L12 fu (nI p) S = fX4_rightUpTo_L12 fu' (nI q) S1
/-- it stops -/
def mSt (t p : Nat) (S : ky_St) (q : Nat) (S1 : ky_St) : Prop := ∀ fu, t - p < fu → fX4_rightUpTo_L12 fu (nI p) S = some (nI q, S1)
theorem mGo.tr (h : mGo t p S q S1) (h2 : mGo t q S1 q2 S2) : mGo t p S q2 S2 := fun fu hf => by
  obtain ⟨f1, a1, a2⟩ := h fu hf
  obtain ⟨f2, b1, b2⟩ := h2 f1 a1
  exact ⟨f2, b1, a2.trans b2⟩
theorem mGo.te (h : mGo t p S q S1) (h2 : mSt t q S1 q2 S2) : mSt t p S q2 S2 := fun fu hf => by
  obtain ⟨f1, a1, a2⟩ := h fu hf
  exact a2.trans (h2 f1 a1)
/-- the same, whatever else the state holds -/
def gA (t : Nat) (r : Nat → Nat) (p : Nat) (P : Nat → Int32) (k : Nat) (nm du : Int32) (q : Nat) (P' : Nat → Int32) (k' : Nat) (nm' du' : Int32) : Prop := ∀ τ, hM t r τ → mGo t p (qS τ P k nm du) q (qS τ P' k' nm' du')
def eA (t : Nat) (r : Nat → Nat) (p : Nat) (P : Nat → Int32) (k : Nat) (nm du : Int32) (q : Nat) (P' : Nat → Int32) (k' : Nat) (nm' du' : Int32) : Prop := ∀ τ, hM t r τ → mSt t p (qS τ P k nm du) q (qS τ P' k' nm' du')
def dA (P : Nat → Int32) (k : Nat) (nm du b : Int32) : Prop := ∀ τ, fX4_isEnded (qS τ P k nm du) = some (b, qS τ P k nm du)
theorem gA.tr {P1 P2 P3 : Nat → Int32} {k1 k2 k3 : Nat} {x1 x2 x3 y1 y2 y3 : Int32} (h : gA t r p P1 k1 x1 y1 q P2 k2 x2 y2) (h2 : gA t r q P2 k2 x2 y2 q2 P3 k3 x3 y3) : gA t r p P1 k1 x1 y1 q2 P3 k3 x3 y3 := fun τ ht => (h τ ht).tr (h2 τ ht)
theorem gA.te {P1 P2 P3 : Nat → Int32} {k1 k2 k3 : Nat} {x1 x2 x3 y1 y2 y3 : Int32} (h : gA t r p P1 k1 x1 y1 q P2 k2 x2 y2) (h2 : eA t r q P2 k2 x2 y2 q2 P3 k3 x3 y3) : eA t r p P1 k1 x1 y1 q2 P3 k3 x3 y3 := fun τ ht => (h τ ht).te (h2 τ ht)
theorem mG_1 {P' : Nat → Int32} {k' : Nat} {nm' du' : Int32} (hl : hL t r) (hp : p < t) (e : ∀ τ, fX4_takes (nI (r p)) (qS τ P k nm du) = some (1, qS τ P' k' nm' du')) : gA t r p P k nm du (p + 1) P' k' nm' du' := fun τ h fu hf => by
  obtain ⟨fu, rfl⟩ : ∃ q, fu = q + 1 := ⟨fu - 1, by omega⟩
  have h60 := hl.1
  refine ⟨fu, by omega, ?_⟩
  rw [fX4_rightUpTo_L12, show (qS τ P k nm du).1 7 3 = nI t from h.1, if_neg (nI_ge hp (by omega)), ky_g_s (nI_in (show p < 60 by omega) (by omega)), nI_clamp (by omega), show (qS τ P k nm du).1 10 p = nI (r p) from h.2 p hp, ky_bd_s (e τ), if_neg (by decide), ky_bn_s, nI_1]
theorem mE_0 {P' : Nat → Int32} {k' : Nat} {nm' du' : Int32} (hl : hL t r) (hp : p < t) (e : ∀ τ, fX4_takes (nI (r p)) (qS τ P k nm du) = some (0, qS τ P' k' nm' du')) : eA t r p P k nm du p P' k' nm' du' := fun τ h fu hf => by
  obtain ⟨fu, rfl⟩ : ∃ q, fu = q + 1 := ⟨fu - 1, by omega⟩
  have h60 := hl.1
  rw [fX4_rightUpTo_L12, show (qS τ P k nm du).1 7 3 = nI t from h.1, if_neg (nI_ge hp (by omega)), ky_g_s (nI_in (show p < 60 by omega) (by omega)), nI_clamp (by omega), show (qS τ P k nm du).1 10 p = nI (r p) from h.2 p hp, ky_bd_s (e τ), if_pos rfl]
theorem mE_t (hl : hL t r) : eA t r t P k nm du t P k nm du := fun τ h fu hf => by
  obtain ⟨fu, rfl⟩ : ∃ q, fu = q + 1 := ⟨fu - 1, by omega⟩
  have h60 := hl.1
  rw [fX4_rightUpTo_L12, show (qS τ P k nm du).1 7 3 = nI t from h.1, if_pos (nI_le (Nat.le_refl _) (by omega))]
/-- letters and digits -/
theorem dg_v {c : Nat} (h : 48 ≤ c) : nI c - (48 : Int32) = nI (c - 48) := pk_sub (b := 48) h
theorem dg_no {c m : Nat} (hm : m < 100) (hc : c < 1000) (h : ¬ (48 ≤ c ∧ c ≤ m + 48)) : ¬ (0 ≤ nI c - (48 : Int32) ∧ nI c - (48 : Int32) ≤ nI m) := by
  by_cases e : c < 48
  · intro z
    have := pk_sneg (a := c) (b := 48) (by omega) e
    exact nlt_le.mp z.1 this
  · intro z
    rw [dg_v (by omega)] at z
    exact nI_ge (a := m) (b := c - 48) (by omega) (by omega) z.2
theorem dg_yes {c m : Nat} (hm : m < 100) (h : 48 ≤ c ∧ c ≤ m + 48) : 0 ≤ nI c - (48 : Int32) ∧ nI c - (48 : Int32) ≤ nI m := by
  rw [dg_v h.1]
  exact ⟨nI_pos' (by omega), nI_le (by omega) (by omega)⟩
theorem pVal_1 (d : Int32) : pVal (-1) d = d := if_pos rfl
theorem pVal_v {v d : Nat} (h : v < 1000) : pVal (nI v) (nI d) = nI (10 * v + d) := by
  unfold pVal
  rw [if_neg (nI_m1 (by omega)), show (10 : Int32) = nI 10 from rfl, pk_mul, nI_add]
theorem dg_n1 {c : Nat} (hc : c < 1000) (e1 : pLo a = nI lo) (e2 : pHiN a = nI hi) (hhi : hi < 100) (hlo : lo < 100) (h : ¬ ((48 ≤ c ∧ c ≤ 57) ∧ lo ≤ c - 48 ∧ c - 48 ≤ hi)) : ¬ pDg a (-1) (nI c - (48 : Int32)) := by
  rintro ⟨z1, z2, z3, z4⟩
  by_cases e : 48 ≤ c ∧ c ≤ 57
  · rw [pVal_1, dg_v e.1, e1] at z3
    rw [pVal_1, dg_v e.1, e2] at z4
    rw [nI_leI (by omega) (by omega)] at z3 z4
    exact h ⟨e, z3, z4⟩
  · exact dg_no (m := 9) (by omega) hc e z1
theorem dg_n2 {c : Nat} (hc : c < 1000) (e2 : pHiN a = nI hi) (hhi : hi < 100) (hv : v < 1000) (h : ¬ ((48 ≤ c ∧ c ≤ 57) ∧ v ≠ 0 ∧ 10 * v + (c - 48) ≤ hi)) : ¬ pDg a (nI v) (nI c - (48 : Int32)) := by
  rintro ⟨z1, z2, z3, z4⟩
  by_cases e : 48 ≤ c ∧ c ≤ 57
  · rw [dg_v e.1, pVal_v hv, e2, nI_leI (by omega) (by omega)] at z4
    exact h ⟨e, fun q => z2 (nI_z0 q), z4⟩
  · exact dg_no (m := 9) (by omega) hc e z1
theorem dg_y1 {c : Nat} (e1 : pLo a = nI lo) (e2 : pHiN a = nI hi) (h : (48 ≤ c ∧ c ≤ 57) ∧ lo ≤ c - 48 ∧ c - 48 ≤ hi) (hhi : hi < 100) : pDg a (-1) (nI c - (48 : Int32)) := by
  refine ⟨dg_yes (m := 9) (by omega) h.1, by decide, ?_, ?_⟩
  · rw [pVal_1, dg_v h.1.1, e1]
    exact nI_le h.2.1 (by omega)
  · rw [pVal_1, dg_v h.1.1, e2]
    exact nI_le h.2.2 (by omega)
theorem dg_y2 {c : Nat} (e1 : pLo a = nI lo) (e2 : pHiN a = nI hi) (hlo : lo ≤ 1) (h : (48 ≤ c ∧ c ≤ 57) ∧ v ≠ 0 ∧ 10 * v + (c - 48) ≤ hi) (hhi : hi < 100) : pDg a (nI v) (nI c - (48 : Int32)) := by
  refine ⟨dg_yes (m := 9) (by omega) h.1, nI_ne0 (by omega) (by omega), ?_, ?_⟩
  · rw [dg_v h.1.1, pVal_v (by omega), e1]
    exact nI_le (by omega) (by omega)
  · rw [dg_v h.1.1, pVal_v (by omega), e2]
    exact nI_le h.2.2 (by omega)
theorem pWh2_12 (a : Int32) : pWh2 a = 1 ∨ pWh2 a = 2 := by
  unfold pWh2
  by_cases h : a = 109
  · rw [if_pos h]
    exact Or.inl rfl
  · rw [if_neg h]
    by_cases h2 : a = 98
    · rw [if_pos h2]
      exact Or.inl rfl
    · rw [if_neg h2]
      exact Or.inr rfl
/-- no number here -/
theorem mN_F (hl : hL t r) (hk : 3 * k + 2 < 66) (hp : p ≤ t) (ha : P (3 * k) = a) (e1 : pLo a = nI lo) (e2 : pHiN a = nI hi) (hlo : lo < 100) (hhi : hi < 100) (hn : nF t r p lo hi) : ∃ P' nm' du', eA t r p P k (-1) 3 p P' k nm' du' ∧ (p = t → dA P' k nm' du' 0) := by
  by_cases e : p < t
  · have hr := hl.2 p e
    have hd : ¬ pDg (P (3 * k)) (-1) (nI (r p) - 48) := by
      rw [ha]
      exact dg_n1 (by omega) e1 e2 hhi hlo (hn e)
    have tk := fun τ => tk3 (τ := τ) (P := P) (k := k) (nm := -1) hk (nI (r p)) (fun _ => Or.inl rfl) (fun _ => Or.inl rfl)
    simp only [bI_f hd] at tk
    exact ⟨_, _, _, mE_0 hl e tk, fun z => absurd z (by omega)⟩
  · have : p = t := by omega
    subst this
    refine ⟨P, -1, 3, mE_t hl, fun _ τ => ?_⟩
    rw [ended_3 (by omega), if_pos rfl]
/-- a number -/
theorem mN_S (hl : hL t r) (hk : 3 * k + 2 < 66) (ha : P (3 * k) = a) (e1 : pLo a = nI lo) (e2 : pHiN a = nI hi) (hlo : lo ≤ 1) (hhi : hi < 100) (hn : nQ t r p lo hi v q) : ∃ P', gA t r p P k (-1) 3 q P' k (nI v) 3 ∧ P' (3 * k + pWh2 a) = nI v ∧ (∀ j, j ≠ 3 * k + pWh2 a → P' j = P j) ∧ (q < t → (r q = 59 → a = 109) → (r q = 62 → a ≠ 109) → ∃ P2 nm2 du2, eA t r q P' k (nI v) 3 q P2 k nm2 du2) := by
  have hw := pWh2_12 a
  have keep : ∀ x, upd P (3 * k + pWh2 a) x (3 * k) = a := fun x => by rw [pk_un (by omega)]; exact ha
  have stop : ∀ (P' : Nat → Int32) (v' q' : Nat), P' (3 * k) = a → v' < 100 → q' < t → (q' < t → ¬ ((48 ≤ r q' ∧ r q' ≤ 57) ∧ v' ≠ 0 ∧ 10 * v' + (r q' - 48) ≤ hi)) → (r q' = 59 → a = 109) → (r q' = 62 → a ≠ 109) → ∃ P2 nm2 du2, eA t r q' P' k (nI v') 3 q' P2 k nm2 du2 := by
    intro P' v' q' hP hv hq hd h59 h62
    have hr := hl.2 q' hq
    have hd2 : ¬ pDg (P' (3 * k)) (nI v') (nI (r q') - 48) := by
      rw [hP]
      exact dg_n2 (by omega) e2 hhi (by omega) (hd hq)
    have tk := fun τ => tk3 (τ := τ) (P := P') (k := k) (nm := nI v') hk (nI (r q')) (fun z => Or.inr (by rw [hP]; exact h59 ((nI_eq (a := r q') (b := 59) (by omega) (by omega)).mp z))) (fun z => Or.inr (by rw [hP]; exact h62 ((nI_eq (a := r q') (b := 62) (by omega) (by omega)).mp z)))
    simp only [bI_f hd2] at tk
    exact ⟨_, _, _, mE_0 hl hq tk⟩
  have one : ∀ v', p < t → (48 ≤ r p ∧ r p ≤ 57) → v' = r p - 48 → lo ≤ v' → v' ≤ hi → gA t r p P k (-1) 3 (p + 1) (upd P (3 * k + pWh2 a) (nI v')) k (nI v') 3 := by
    intro v' h1 h2 h3 h4 h5
    subst h3
    have hd : pDg (P (3 * k)) (-1) (nI (r p) - 48) := by
      rw [ha]
      exact dg_y1 e1 e2 ⟨h2, h4, h5⟩ hhi
    refine mG_1 hl h1 (fun τ => ?_)
    have tk := tk3 (τ := τ) (P := P) (k := k) (nm := -1) hk (nI (r p)) (fun _ => Or.inl rfl) (fun _ => Or.inl rfl)
    rw [bI_t hd, if_pos hd, pVal_1, dg_v h2.1, ha] at tk
    exact tk
  rcases hn with ⟨rfl, a1, a2, a3, a4, a5, a6⟩ | ⟨rfl, a1, a2, a3, a4, a5, a6, a7, a8⟩
  · exact ⟨_, one v a1 a2 a3 a4 a5, pk_us, fun j hj => pk_un hj, fun b1 b2 b3 => stop _ v (p + 1) (keep _) (by omega) b1 a6 b2 b3⟩
  · have hr1 := hl.2 (p + 1) a1
    have hd : pDg ((upd P (3 * k + pWh2 a) (nI (r p - 48))) (3 * k)) (nI (r p - 48)) (nI (r (p + 1)) - 48) := by
      rw [keep]
      exact dg_y2 e1 e2 hlo ⟨a3, by omega, by omega⟩ hhi
    have tk : ∀ τ, fX4_takes (nI (r (p + 1))) (qS τ (upd P (3 * k + pWh2 a) (nI (r p - 48))) k (nI (r p - 48)) 3) = some (1, qS τ (upd (upd P (3 * k + pWh2 a) (nI (r p - 48))) (3 * k + pWh2 a) (nI v)) k (nI v) 3) := fun τ => by
      have tk := tk3 (τ := τ) (P := upd P (3 * k + pWh2 a) (nI (r p - 48))) (k := k) (nm := nI (r p - 48)) hk (nI (r (p + 1))) (fun z => absurd ((nI_eq (a := r (p + 1)) (b := 59) (by omega) (by omega)).mp z) (by omega)) (fun z => absurd ((nI_eq (a := r (p + 1)) (b := 62) (by omega) (by omega)).mp z) (by omega))
      rw [bI_t hd, if_pos hd, dg_v a3.1, pVal_v (by omega), keep, ← a7] at tk
      exact tk
    refine ⟨_, (one (r p - 48) (by omega) a2 rfl a5 a6).tr (mG_1 hl a1 tk), pk_us, fun j hj => ?_, fun b1 b2 b3 => stop _ v (p + 2) ?_ (by omega) b1 (fun _ => by omega) b2 b3⟩
    · rw [pk_un hj, pk_un hj]
    · rw [pk_un (by omega)]
      exact keep _
/-- a site's digit -/
theorem site_F (hn : nF t r p 0 5) (hp : p < t) : ¬ (48 ≤ r p ∧ r p ≤ 5 + 48) := fun z => hn hp ⟨⟨z.1, by omega⟩, by omega, by omega⟩
theorem site_S (hn : nQ t r p 0 5 v q) : q = p + 1 ∧ p < t ∧ 48 ≤ r p ∧ r p ≤ 5 + 48 ∧ v = r p - 48 := by
  rcases hn with ⟨rfl, a1, a2, a3, a4, a5, a6⟩ | ⟨rfl, a1, a2, a3, a4, a5, a6, a7, a8⟩
  · exact ⟨rfl, a1, a2.1, by omega, a3⟩
  · omega
/-- what an order may say -/
def oVal (a f s : Int32) : Prop := (a = 98 ∧ ∃ x, x < 24 ∧ f = nI x) ∨ (a = 100 ∧ ∃ d, d < 100 ∧ f = nI d) ∨ (a = 104 ∧ (∃ i, i < 6 ∧ f = nI i) ∧ ∃ m, m ≤ 24 ∧ s = nI m) ∨ (a = 109 ∧ (∃ x, x < 24 ∧ f = nI x) ∧ ∃ i, i < 6 ∧ s = nI i)
/-- the model's row of an order -/
def oMt (P : Nat → Int32) (k : Nat) (a f s : Int32) : Prop := P (3 * k) = a ∧ (a = 98 → P (3 * k + 1) = f) ∧ (a = 100 → P (3 * k + 2) = f) ∧ (a = 104 ∨ a = 109 → P (3 * k + 1) = f ∧ P (3 * k + 2) = s)
/-- the class reads an order here -/
def oAt (t : Nat) (r : Nat → Nat) (p q : Nat) (a f s : Int32) : Prop := ∀ σ, hC t r σ → ∀ c0 f0 s0, ∃ s1, fX2_readOrder (cT σ p c0 f0 s0) = some (1, cT σ q a f s1) ∧ (a = 104 ∨ a = 109 → s1 = s)
/-- the class finds none -/
def oNo (t : Nat) (r : Nat → Nat) (p q : Nat) : Prop := ∀ σ, hC t r σ → ∀ c0 f0 s0, ∃ c1 f1 s1, fX2_readOrder (cT σ p c0 f0 s0) = some (0, cT σ q c1 f1 s1)
def oBad (t : Nat) (r : Nat → Nat) (P : Nat → Int32) (k p : Nat) (nm : Int32) : Prop := ∃ q, p ≤ q ∧ q ≤ t ∧ oNo t r p q ∧ ∃ P' nm' du', eA t r p P k nm 0 q P' k nm' du' ∧ (q = t → dA P' k nm' du' 0)
def oGood (t : Nat) (r : Nat → Nat) (P : Nat → Int32) (k p : Nat) (nm : Int32) : Prop := ∃ q a f s, p + 2 ≤ q ∧ q ≤ t ∧ oAt t r p q a f s ∧ oVal a f s ∧ ∃ P' nm' du', gA t r p P k nm 0 q P' k nm' du' ∧ dA P' k nm' du' 1 ∧ oMt P' k a f s ∧ (∀ j, j < 3 * k → P' j = P j) ∧ (q < t → r q ≠ 59 → ∃ P2 nm2 du2, eA t r q P' k nm' du' q P2 k nm2 du2)
theorem oc_E (hl : hL t r) : oBad t r P k t nm :=
  ⟨t, Nat.le_refl _, Nat.le_refl _, fun σ hs c0 f0 s0 => ⟨_, _, _, rd_oE hs hl.1⟩, P, nm, 0, mE_t hl, fun _ τ => ended_no (by decide) (by decide)⟩
theorem oc_N (hl : hL t r) (hk : 3 * k + 2 < 66) (hp : p < t) (hr : r p ≠ 98 ∧ r p ≠ 100 ∧ r p ≠ 104 ∧ r p ≠ 109) : oBad t r P k p nm := by
  have hb := hl.2 p hp
  have e := fun τ => tk0 (τ := τ) (P := P) (k := k) (nm := nm) (by omega) (nI (r p))
  simp only [bI_f (show ¬ pKd (nI (r p)) from by
    rintro (z | z | z | z)
    · exact hr.2.2.1 ((nI_eq (a := r p) (b := 104) (by omega) (by omega)).mp z)
    · exact hr.2.2.2 ((nI_eq (a := r p) (b := 109) (by omega) (by omega)).mp z)
    · exact hr.1 ((nI_eq (a := r p) (b := 98) (by omega) (by omega)).mp z)
    · exact hr.2.1 ((nI_eq (a := r p) (b := 100) (by omega) (by omega)).mp z))] at e
  exact ⟨p, Nat.le_refl _, by omega, fun σ hs c0 f0 s0 => ⟨_, _, _, rd_oN hl hs hp hr⟩, _, _, _, mE_0 hl hp e, fun z => absurd z (by omega)⟩
theorem oc_b (hl : hL t r) (hk : 3 * k + 2 < 66) (hp : p < t) (hr : r p = 98) : oBad t r P k p nm ∨ oGood t r P k p nm := by
  have h60 := hl.1
  have g0 : gA t r p P k nm 0 (p + 1) (upd P (3 * k) 98) k (-1) 3 := mG_1 hl hp (fun τ => by
    rw [hr]
    exact tk0 (τ := τ) (P := P) (k := k) (nm := nm) (by omega) 98)
  rcases n_tri t r (p + 1) 0 23 with hn | ⟨v, q, hn⟩
  · obtain ⟨P', nm', du', m1, m2⟩ := mN_F (P := upd P (3 * k) 98) (k := k) (a := 98) hl hk (show p + 1 ≤ t from hp) pk_us (lo := 0) (hi := 23) (by decide) (by decide) (by omega) (by omega) hn
    exact Or.inl ⟨p + 1, by omega, hp, fun σ hs c0 f0 s0 => ⟨_, _, _, rd_ob hl hs hp hr (rd_numF hl hs hp hn (by omega) (by omega) rfl rfl)⟩, P', nm', du', g0.te m1, m2⟩
  · obtain ⟨P', m1, m2, m3, m4⟩ := mN_S (P := upd P (3 * k) 98) (k := k) (a := 98) hl hk pk_us (lo := 0) (hi := 23) (by decide) (by decide) (by omega) (by omega) hn
    have hv := nQ_le hn
    have e0 : P' (3 * k) = 98 := (m3 (3 * k) (by have := pWh2_12 98; omega)).trans pk_us
    refine Or.inr ⟨q, 98, nI v, 0, by omega, hv.2.1, fun σ hs c0 f0 s0 => ⟨s0, ?_, fun z => absurd z (by decide)⟩, Or.inl ⟨rfl, v, by omega, rfl⟩, P', nI v, 3, g0.tr m1, fun τ => ?_, ⟨e0, fun _ => m2, fun z => absurd z (by decide), fun z => absurd z (by decide)⟩, fun j hj => ?_, fun b1 b2 => m4 b1 (fun z => absurd z b2) (fun _ => by decide)⟩
    · have := rd_ob (c := c0) hl hs hp hr (rd_num (c := 98) (f := f0) (s := s0) hl hs hn (by omega) (by omega) rfl rfl)
      rw [if_neg (nI_m1 (by omega))] at this
      exact this
    · rw [ended_3 (by omega), if_neg (nI_m1 (by omega)), e0, if_neg (by decide)]
    · rw [m3 j (by omega), pk_un (by omega)]
theorem oc_d (hl : hL t r) (hk : 3 * k + 2 < 66) (hp : p < t) (hr : r p = 100) : oBad t r P k p nm ∨ oGood t r P k p nm := by
  have h60 := hl.1
  have g0 : gA t r p P k nm 0 (p + 1) (upd P (3 * k) 100) k (-1) 3 := mG_1 hl hp (fun τ => by
    rw [hr]
    exact tk0 (τ := τ) (P := P) (k := k) (nm := nm) (by omega) 100)
  rcases n_tri t r (p + 1) 1 99 with hn | ⟨v, q, hn⟩
  · obtain ⟨P', nm', du', m1, m2⟩ := mN_F (P := upd P (3 * k) 100) (k := k) (a := 100) hl hk (show p + 1 ≤ t from hp) pk_us (lo := 1) (hi := 99) (by decide) (by decide) (by omega) (by omega) hn
    exact Or.inl ⟨p + 1, by omega, hp, fun σ hs c0 f0 s0 => ⟨_, _, _, rd_od hl hs hp hr (rd_numF hl hs hp hn (by omega) (by omega) rfl rfl)⟩, P', nm', du', g0.te m1, m2⟩
  · obtain ⟨P', m1, m2, m3, m4⟩ := mN_S (P := upd P (3 * k) 100) (k := k) (a := 100) hl hk pk_us (lo := 1) (hi := 99) (by decide) (by decide) (by omega) (by omega) hn
    have hv := nQ_le hn
    have e0 : P' (3 * k) = 100 := (m3 (3 * k) (by have := pWh2_12 100; omega)).trans pk_us
    refine Or.inr ⟨q, 100, nI v, 0, by omega, hv.2.1, fun σ hs c0 f0 s0 => ⟨s0, ?_, fun z => absurd z (by decide)⟩, Or.inr (Or.inl ⟨rfl, v, by omega, rfl⟩), P', nI v, 3, g0.tr m1, fun τ => ?_, ⟨e0, fun z => absurd z (by decide), fun _ => m2, fun z => absurd z (by decide)⟩, fun j hj => ?_, fun b1 b2 => m4 b1 (fun z => absurd z b2) (fun _ => by decide)⟩
    · have := rd_od (c := c0) hl hs hp hr (rd_num (c := 100) (f := f0) (s := s0) hl hs hn (by omega) (by omega) rfl rfl)
      rw [if_neg (nI_m1 (by omega))] at this
      exact this
    · rw [ended_3 (by omega), if_neg (nI_m1 (by omega)), e0, if_neg (by decide)]
    · rw [m3 j (by omega), pk_un (by omega)]
theorem oc_h (hl : hL t r) (hk : 3 * k + 2 < 66) (hp : p < t) (hr : r p = 104) : oBad t r P k p nm ∨ oGood t r P k p nm := by
  have h60 := hl.1
  have g0 : gA t r p P k nm 0 (p + 1) (upd P (3 * k) 104) k (-1) 1 := mG_1 hl hp (fun τ => by
    rw [hr]
    exact tk0 (τ := τ) (P := P) (k := k) (nm := nm) (by omega) 104)
  rcases n_tri t r (p + 1) 0 5 with hn | ⟨v, q, hn⟩
  · have cl : oNo t r p (p + 1) := fun σ hs c0 f0 s0 => ⟨_, _, _, rd_oh hl hs hp hr (Or.inl rfl) (rd_pair0 hl hs hp hn (by omega) (by omega) rfl rfl)⟩
    by_cases e : p + 1 < t
    · have hb := hl.2 (p + 1) e
      have m1 := fun τ => tk1 (τ := τ) (P := upd P (3 * k) 104) (k := k) (nm := -1) hk (nI (r (p + 1)))
      simp only [bI_f (show ¬ (0 ≤ nI (r (p + 1)) - (48 : Int32) ∧ nI (r (p + 1)) - (48 : Int32) ≤ 5) from dg_no (m := 5) (by omega) (by omega) (site_F hn e))] at m1
      exact Or.inl ⟨p + 1, by omega, hp, cl, _, _, _, g0.te (mE_0 hl e m1), fun z => absurd z (by omega)⟩
    · have et : p + 1 = t := by omega
      exact Or.inl ⟨p + 1, by omega, hp, cl, _, _, _, g0.te (by rw [et]; exact mE_t hl), fun _ τ => ended_no (by decide) (by decide)⟩
  · obtain ⟨rfl, s1, s2, s3, rfl⟩ := site_S hn
    have g1 : gA t r (p + 1) (upd P (3 * k) 104) k (-1) 1 (p + 1 + 1) (upd (upd P (3 * k) 104) (3 * k + 1) (nI (r (p + 1) - 48))) k (-1) 2 := mG_1 hl s1 (fun τ => by
      have m1 := tk1 (τ := τ) (P := upd P (3 * k) 104) (k := k) (nm := -1) hk (nI (r (p + 1)))
      rw [bI_t (show 0 ≤ nI (r (p + 1)) - (48 : Int32) ∧ nI (r (p + 1)) - (48 : Int32) ≤ 5 from dg_yes (m := 5) (by omega) ⟨s2, s3⟩), dg_v s2] at m1
      exact m1)
    have g01 := g0.tr g1
    by_cases c42 : p + 1 + 1 < t ∧ r (p + 1 + 1) = 42
    · have g2 : gA t r (p + 1 + 1) (upd (upd P (3 * k) 104) (3 * k + 1) (nI (r (p + 1) - 48))) k (-1) 2 (p + 1 + 1 + 1) (upd (upd P (3 * k) 104) (3 * k + 1) (nI (r (p + 1) - 48))) k (-1) 3 := mG_1 hl c42.1 (fun τ => by
        rw [c42.2]
        exact tk2 (τ := τ) (k := k) (nm := -1) hk 42)
      have g02 := g01.tr g2
      have ha : (upd (upd P (3 * k) 104) (3 * k + 1) (nI (r (p + 1) - 48))) (3 * k) = 104 := by rw [pk_un (by omega), pk_us]
      rcases n_tri t r (p + 1 + 1 + 1) 1 24 with hn2 | ⟨v2, q2, hn2⟩
      · obtain ⟨P', nm', du', m1, m2⟩ := mN_F (P := upd (upd P (3 * k) 104) (3 * k + 1) (nI (r (p + 1) - 48))) (k := k) (a := 104) hl hk (show p + 1 + 1 + 1 ≤ t from c42.1) ha (lo := 1) (hi := 24) (by decide) (by decide) (by omega) (by omega) hn2
        exact Or.inl ⟨p + 1 + 1 + 1, by omega, c42.1, fun σ hs c0 f0 s0 => ⟨_, _, _, rd_oh hl hs hp hr (Or.inl rfl) (rd_pair2 hl hs hn (by omega) (by omega) rfl rfl c42.1 c42.2 rfl hn2 (by omega) (by omega) rfl rfl)⟩, P', nm', du', g02.te m1, m2⟩
      · obtain ⟨P', m1, m2, m3, m4⟩ := mN_S (P := upd (upd P (3 * k) 104) (3 * k + 1) (nI (r (p + 1) - 48))) (k := k) (a := 104) hl hk ha (lo := 1) (hi := 24) (by decide) (by decide) (by omega) (by omega) hn2
        have hv := nQ_le hn2
        have w2 : pWh2 104 = 2 := by decide
        have e0 : P' (3 * k) = 104 := (m3 (3 * k) (by omega)).trans ha
        refine Or.inr ⟨q2, 104, nI (r (p + 1) - 48), nI v2, by omega, hv.2.1, fun σ hs c0 f0 s0 => ⟨nI v2, rd_oh hl hs hp hr (Or.inr rfl) (rd_pair3 hl hs hn (by omega) (by omega) rfl rfl c42.1 c42.2 rfl hn2 (by omega) (by omega) rfl rfl), fun _ => rfl⟩, Or.inr (Or.inr (Or.inl ⟨rfl, ⟨_, by omega, rfl⟩, v2, by omega, rfl⟩)), P', nI v2, 3, g02.tr m1, fun τ => ?_, ⟨e0, fun z => absurd z (by decide), fun z => absurd z (by decide), fun _ => ⟨?_, ?_⟩⟩, fun j hj => ?_, fun b1 b2 => m4 b1 (fun z => absurd z b2) (fun _ => by decide)⟩
        · rw [ended_3 (by omega), if_neg (nI_m1 (by omega)), e0, if_neg (by decide)]
        · rw [m3 (3 * k + 1) (by omega), pk_us]
        · rw [← w2]
          exact m2
        · rw [m3 j (by omega), pk_un (by omega), pk_un (by omega)]
    · have cl : oNo t r p (p + 1 + 1) := fun σ hs c0 f0 s0 => ⟨_, _, _, rd_oh hl hs hp hr (Or.inl rfl) (rd_pair1 (w := 42) hl hs hn (by omega) (by omega) rfl rfl (fun z z2 => c42 ⟨z, z2⟩) (by omega) rfl)⟩
      by_cases e : p + 1 + 1 < t
      · have hb := hl.2 (p + 1 + 1) e
        have m1 := fun τ => tk2 (τ := τ) (P := upd (upd P (3 * k) 104) (3 * k + 1) (nI (r (p + 1) - 48))) (k := k) (nm := -1) hk (nI (r (p + 1 + 1)))
        simp only [bI_f (show ¬ nI (r (p + 1 + 1)) = (42 : Int32) from pLit (b := 42) (fun z => c42 ⟨e, z⟩) (by omega) (by omega))] at m1
        exact Or.inl ⟨p + 1 + 1, by omega, s1, cl, _, _, _, g01.te (mE_0 hl e m1), fun z => absurd z (by omega)⟩
      · have et : p + 1 + 1 = t := by omega
        exact Or.inl ⟨p + 1 + 1, by omega, s1, cl, _, _, _, g01.te (by rw [et]; exact mE_t hl), fun _ τ => ended_no (by decide) (by decide)⟩
theorem oc_m (hl : hL t r) (hk : 3 * k + 2 < 66) (hp : p < t) (hr : r p = 109) : oBad t r P k p nm ∨ oGood t r P k p nm := by
  have h60 := hl.1
  have g0 : gA t r p P k nm 0 (p + 1) (upd P (3 * k) 109) k (-1) 3 := mG_1 hl hp (fun τ => by
    rw [hr]
    exact tk0 (τ := τ) (P := P) (k := k) (nm := nm) (by omega) 109)
  rcases n_tri t r (p + 1) 0 23 with hn | ⟨v, q, hn⟩
  · obtain ⟨P', nm', du', m1, m2⟩ := mN_F (P := upd P (3 * k) 109) (k := k) (a := 109) hl hk (show p + 1 ≤ t from hp) pk_us (lo := 0) (hi := 23) (by decide) (by decide) (by omega) (by omega) hn
    exact Or.inl ⟨p + 1, by omega, hp, fun σ hs c0 f0 s0 => ⟨_, _, _, rd_om hl hs hp hr (Or.inl rfl) (rd_pair0 hl hs hp hn (by omega) (by omega) rfl rfl)⟩, P', nm', du', g0.te m1, m2⟩
  · obtain ⟨P', m1, m2, m3, m4⟩ := mN_S (P := upd P (3 * k) 109) (k := k) (a := 109) hl hk pk_us (lo := 0) (hi := 23) (by decide) (by decide) (by omega) (by omega) hn
    have hv := nQ_le hn
    have w1 : pWh2 109 = 1 := by decide
    have e0 : P' (3 * k) = 109 := (m3 (3 * k) (by omega)).trans pk_us
    have g01 := g0.tr m1
    by_cases c62 : q < t ∧ r q = 62
    · have g2 : gA t r q P' k (nI v) 3 (q + 1) P' k (nI v) 4 := mG_1 hl c62.1 (fun τ => by
        rw [c62.2]
        exact tkM (τ := τ) (k := k) (by omega) (nI_m1 (by omega)) e0)
      have g02 := g01.tr g2
      rcases n_tri t r (q + 1) 0 5 with hn2 | ⟨v2, q2, hn2⟩
      · have cl : oNo t r p (q + 1) := fun σ hs c0 f0 s0 => ⟨_, _, _, rd_om hl hs hp hr (Or.inl rfl) (rd_pair2 hl hs hn (by omega) (by omega) rfl rfl c62.1 c62.2 rfl hn2 (by omega) (by omega) rfl rfl)⟩
        by_cases e : q + 1 < t
        · have hb := hl.2 (q + 1) e
          have m5 := fun τ => tk4 (τ := τ) (P := P') (k := k) (nm := nI v) hk (nI (r (q + 1)))
          simp only [bI_f (show ¬ (0 ≤ nI (r (q + 1)) - (48 : Int32) ∧ nI (r (q + 1)) - (48 : Int32) ≤ 5) from dg_no (m := 5) (by omega) (by omega) (site_F hn2 e))] at m5
          exact Or.inl ⟨q + 1, by omega, c62.1, cl, _, _, _, g02.te (mE_0 hl e m5), fun z => absurd z (by omega)⟩
        · have et : q + 1 = t := by omega
          exact Or.inl ⟨q + 1, by omega, c62.1, cl, _, _, _, g02.te (by rw [et]; exact mE_t hl), fun _ τ => ended_no (by decide) (by decide)⟩
      · obtain ⟨rfl, s1, s2, s3, rfl⟩ := site_S hn2
        have g3 : gA t r (q + 1) P' k (nI v) 4 (q + 1 + 1) (upd P' (3 * k + 2) (nI (r (q + 1) - 48))) k (nI v) 5 := mG_1 hl s1 (fun τ => by
          have m5 := tk4 (τ := τ) (P := P') (k := k) (nm := nI v) hk (nI (r (q + 1)))
          rw [bI_t (show 0 ≤ nI (r (q + 1)) - (48 : Int32) ∧ nI (r (q + 1)) - (48 : Int32) ≤ 5 from dg_yes (m := 5) (by omega) ⟨s2, s3⟩), dg_v s2] at m5
          exact m5)
        refine Or.inr ⟨q + 1 + 1, 109, nI v, nI (r (q + 1) - 48), by omega, s1, fun σ hs c0 f0 s0 => ⟨_, rd_om hl hs hp hr (Or.inr rfl) (rd_pair3 hl hs hn (by omega) (by omega) rfl rfl c62.1 c62.2 rfl hn2 (by omega) (by omega) rfl rfl), fun _ => rfl⟩, Or.inr (Or.inr (Or.inr ⟨rfl, ⟨v, by omega, rfl⟩, _, by omega, rfl⟩)), _, _, _, g02.tr g3, fun τ => ended_5, ⟨?_, fun z => absurd z (by decide), fun z => absurd z (by decide), fun _ => ⟨?_, pk_us⟩⟩, fun j hj => ?_, fun b1 b2 => ?_⟩
        · rw [pk_un (by omega)]
          exact e0
        · rw [pk_un (by omega), ← w1]
          exact m2
        · rw [pk_un (by omega), m3 j (by omega), pk_un (by omega)]
        · have hb := hl.2 (q + 1 + 1) b1
          exact ⟨_, _, _, mE_0 hl b1 (fun τ => tk5 hk (show ¬ nI (r (q + 1 + 1)) = (59 : Int32) from pLit (b := 59) b2 (by omega) (by omega)))⟩
    · have cl : oNo t r p q := fun σ hs c0 f0 s0 => ⟨_, _, _, rd_om hl hs hp hr (Or.inl rfl) (rd_pair1 (w := 62) hl hs hn (by omega) (by omega) rfl rfl (fun z z2 => c62 ⟨z, z2⟩) (by omega) rfl)⟩
      by_cases e : q < t
      · obtain ⟨P2, nm2, du2, m5⟩ := m4 e (fun _ => rfl) (fun z => absurd ⟨e, z⟩ c62)
        exact Or.inl ⟨q, by omega, hv.2.1, cl, P2, nm2, du2, g01.te m5, fun z => absurd z (by omega)⟩
      · have et : q = t := by omega
        subst et
        refine Or.inl ⟨q, by omega, hv.2.1, cl, _, _, _, g01.te (mE_t hl), fun _ τ => ?_⟩
        rw [ended_3 (by omega), if_neg (nI_m1 (by omega)), if_pos e0]
/-- one order, on both sides -/
theorem oc (hl : hL t r) (hk : 3 * k + 2 < 66) (hp : p ≤ t) : oBad t r P k p nm ∨ oGood t r P k p nm := by
  by_cases e : p < t
  · by_cases h1 : r p = 98
    · exact oc_b hl hk e h1
    · by_cases h2 : r p = 100
      · exact oc_d hl hk e h2
      · by_cases h3 : r p = 104
        · exact oc_h hl hk e h3
        · by_cases h4 : r p = 109
          · exact oc_m hl hk e h4
          · exact Or.inl (oc_N hl hk e ⟨h1, h2, h3, h4⟩)
  · have : p = t := by omega
    subst this
    exact Or.inl (oc_E hl)
end WW
