/-! ===== pure: the class's writes ===== -/
def cS (σ : ky_St) (Y : pY) : ky_St := (fun k => if k < 20 then σ.1 k else Y (k - 20), σ.2)
def mS (σ : ky_St) (Z : Nat → Int32) : ky_St := (fun k => if k = 8 then Z else σ.1 k, σ.2)
section WA
variable {n : Nat} {σ : ky_St} {s : Nat} {Y : pY} {Z : Nat → Int32}
theorem cS_row (σ : ky_St) (Y : pY) (a : Nat) : (cS σ Y).1 (20 + a) = Y a := by
  show (if 20 + a < 20 then σ.1 (20 + a) else Y (20 + a - 20)) = Y a
  rw [if_neg (by omega), Nat.add_sub_cancel_left]
theorem cS_pB (σ : ky_St) (Y : pY) : pB (cS σ Y) 20 = Y := funext fun a => cS_row σ Y a
theorem cS_id (σ : ky_St) : cS σ (pB σ 20) = σ := by
  refine Prod.ext (funext fun k => ?_) rfl
  show (if k < 20 then σ.1 k else σ.1 (20 + (k - 20))) = σ.1 k
  by_cases h : k < 20
  · rw [if_pos h]
  · rw [if_neg h, show 20 + (k - 20) = k by omega]
theorem cS_u1 (r : Nat) (i : Nat) (v : Int32) : ky_u1 (cS σ Y) (20 + r) i v = cS σ (pU Y r i v) := by
  refine Prod.ext (funext fun k => funext fun j => ?_) rfl
  show (if k = 20 + r ∧ j = i then v else (if k < 20 then σ.1 k else Y (k - 20)) j) = (if k < 20 then σ.1 k else pU Y r i v (k - 20)) j
  by_cases h : k < 20
  · rw [if_neg (by omega), if_pos h, if_pos h]
  · rw [if_neg h, if_neg h]
    show _ = if k - 20 = r ∧ j = i then v else Y (k - 20) j
    by_cases h2 : k - 20 = r ∧ j = i
    · rw [if_pos h2, if_pos (by omega)]
    · rw [if_neg h2, if_neg (by omega)]
theorem cS_uR (r : Nat) (R : Nat → Int32) : ky_uR (cS σ Y) (20 + r) R = cS σ (fun a => if a = r then R else Y a) := by
  refine Prod.ext (funext fun k => ?_) rfl
  show (if k = 20 + r then R else if k < 20 then σ.1 k else Y (k - 20)) = (if k < 20 then σ.1 k else if k - 20 = r then R else Y (k - 20))
  by_cases h : k < 20
  · rw [if_neg (by omega), if_pos h, if_pos h]
  · rw [if_neg h, if_neg h]
    by_cases h2 : k - 20 = r
    · rw [if_pos h2, if_pos (by omega)]
    · rw [if_neg h2, if_neg (by omega)]
theorem cS_T (h : pT σ) (Y : pY) : pT (cS σ Y) := h
theorem mS_id (σ : ky_St) : mS σ (σ.1 8) = σ := by
  refine Prod.ext (funext fun k => ?_) rfl
  show (if k = 8 then σ.1 8 else σ.1 k) = σ.1 k
  by_cases h : k = 8
  · rw [if_pos h, h]
  · rw [if_neg h]
theorem mS_u1 (p : Nat) (v : Int32) : ky_u1 (mS σ Z) 8 p v = mS σ (upd Z p v) := by
  refine Prod.ext (funext fun k => funext fun j => ?_) rfl
  show (if k = 8 ∧ j = p then v else (if k = 8 then Z else σ.1 k) j) = (if k = 8 then upd Z p v else σ.1 k) j
  by_cases h : k = 8
  · rw [if_pos h, if_pos h]
    show _ = if j = p then v else Z j
    by_cases h2 : j = p
    · rw [if_pos h2, if_pos ⟨h, h2⟩]
    · rw [if_neg h2, if_neg (fun q => h2 q.2)]
  · rw [if_neg (fun q => h q.1), if_neg h, if_neg h]
/-- reads and writes of the class -/
theorem cG {k r N i : Nat} (hk : k = 20 + r) (hl : ky_la k = some N) (hi : i < N) (hN : N < 2 ^ 31) (σ : ky_St) (Y : pY) : fX3_at k (nI i) (cS σ Y) = some (Y r i, cS σ Y) := by
  rw [pa_at hl hi hN, hk, cS_row]
theorem cP {k r N i : Nat} (hk : k = 20 + r) (hl : ky_la k = some N) (hr : ky_ro k = false) (hi : i < N) (hN : N < 2 ^ 31) (v : Int32) (σ : ky_St) (Y : pY) : fX3_put k (nI i) v (cS σ Y) = some ((), cS σ (pU Y r i v)) := by
  rw [pa_put hl hr hi hN, hk, cS_u1]
theorem cA {k r N i : Nat} (hk : k = 20 + r) (hl : ky_la k = some N) (hr : ky_ro k = false) (hi : i < N) (hN : N < 2 ^ 31) (v : Int32) (σ : ky_St) (Y : pY) : fX3_add k (nI i) v (cS σ Y) = some ((), cS σ (pU Y r i (Y r i + v))) := by
  rw [pa_add hl hr hi hN, hk, cS_u1, cS_row]
/-- what a row written elsewhere says -/
theorem pU_row {Y : pY} {r i a : Nat} {v : Int32} (h : a ≠ r) : pU Y r i v a = Y a := funext fun b => pU_ne (Or.inl h)
theorem pU_sw {Y : pY} {r i r' i' : Nat} {v v' : Int32} (h : r ≠ r' ∨ i ≠ i') : pU (pU Y r i v) r' i' v' = pU (pU Y r' i' v') r i v := by
  funext a b
  unfold pU
  by_cases h1 : a = r' ∧ b = i'
  · rw [if_pos h1, if_pos h1]
    rw [if_neg (by omega)]
  · rw [if_neg h1, if_neg h1]
theorem pU_pU {Y : pY} {r i : Nat} {v v' : Int32} : pU (pU Y r i v) r i v' = pU Y r i v' := by
  funext a b
  unfold pU
  by_cases h1 : a = r ∧ b = i
  · rw [if_pos h1, if_pos h1]
  · rw [if_neg h1, if_neg h1, if_neg h1]
/-- a set's users after a site is put before them -/
def aU (Y : pY) (s : Nat) (x : Int32) : pY := pU (pU (pU Y 5 (3 * s + 2) (Y 5 (3 * s + 1))) 5 (3 * s + 1) (Y 5 (3 * s))) 5 (3 * s) x
/-- a set comes to a site -/
def cCome (Y : pY) (s : Nat) (x : Int32) : pY := pU (aU (pU (pU (pU Y 2 s x) 3 s (Y 0 1)) 4 s (Y 4 s + 1)) s x) 0 2 (Y 0 2 + 1)
def cHome (Y : pY) (s : Nat) : pY := pU (pU Y 2 s (-1)) 3 s (Y 0 1)
theorem nI_m (a b : Nat) (h : a = b + 1) : nI a - 1 = nI b := by
  subst h
  rw [← nI_1]
  grind
theorem qW_addUser (hs : s < 24) (x : Int32) (σ : ky_St) (Y : pY) : fX0_addUser (nI s) x (cS σ Y) = some ((), cS σ (aU Y s x)) := by
  unfold fX0_addUser
  obtain ⟨fu, hfu⟩ : ∃ q, FU = q + 3 := ⟨3997, rfl⟩
  rw [hfu]
  have e3 : nI s * (3 : Int32) = nI (3 * s) := by rw [show (3 : Int32) = nI 3 from rfl, pk_mul, Nat.mul_comm]
  rw [fX0_addUser_L2, if_neg (by decide), e3, show nI (3 * s) + (2 : Int32) - 1 = nI (3 * s + 1) from by rw [show (2 : Int32) = nI 2 from rfl, nI_add]; exact nI_m _ _ rfl, ky_bd_s (cG (r := 5) (N := 72) rfl rfl (by omega) (by omega) σ Y), show nI (3 * s) + (2 : Int32) = nI (3 * s + 2) from nI_add _ 2, ky_bd_s (cP (r := 5) (N := 72) rfl rfl rfl (by omega) (by omega) _ σ Y), ky_bn_s, show (2 : Int32) + -1 = 1 from rfl]
  rw [fX0_addUser_L2, if_neg (by decide), e3, show nI (3 * s) + (1 : Int32) - 1 = nI (3 * s) from by rw [nI_1]; exact nI_m _ _ rfl, ky_bd_s (cG (r := 5) (N := 72) rfl rfl (by omega) (by omega) σ _), show nI (3 * s) + (1 : Int32) = nI (3 * s + 1) from nI_1 _, ky_bd_s (cP (r := 5) (N := 72) rfl rfl rfl (by omega) (by omega) _ σ _), ky_bn_s, show (1 : Int32) + -1 = 0 from rfl]
  rw [fX0_addUser_L2, if_pos (by decide), e3, ky_bd_s (cP (r := 5) (N := 72) rfl rfl rfl (by omega) (by omega) _ σ _), pU_ne (Or.inr (by omega))]
  rfl
theorem cS_r (hk : s = 20 + n) : (cS σ Y).1 s = Y n := by rw [hk]; exact cS_row σ Y n
theorem qW_comeTo (hs : s < 24) (x : Int32) (σ : ky_St) (Y : pY) : fX0_comeTo (nI s) x (cS σ Y) = some ((), cS σ (cCome Y s x)) := by
  unfold fX0_comeTo
  rw [ky_bd_s (cP (r := 2) (N := 24) rfl rfl rfl hs (by omega) _ σ Y), ky_bd_s (cP (r := 3) (N := 24) rfl rfl rfl hs (by omega) _ σ _), ky_bd_s (cA (r := 4) (N := 24) rfl rfl rfl hs (by omega) _ σ _), ky_bd_s (qW_addUser hs x σ _), ky_bn_s]
  rw [show (20 : Nat) = 20 + 0 from rfl, cS_u1, cS_row, cS_row]
  congr 3
theorem qW_billForHire (hs : s < 24) {i : Nat} (hi : i < 6) (σ : ky_St) (Y : pY) (h2 : Y 2 s = nI i) : fX0_billForHire (nI s) (cS σ Y) = some (pDue Y s 0, cS σ (pU Y 9 i (Y 9 i + pDue Y s 0))) := by
  unfold fX0_billForHire
  have e : fX0_hireBill (nI s) 0 (cS σ Y) = some (pDue Y s 0, cS σ Y) := by rw [qC_hireBill hs, cS_pB]
  rw [ky_bd_s e, ky_bd_s (cG (r := 2) (N := 24) rfl rfl hs (by omega) σ Y), h2, ky_bd_s (cA (r := 9) (N := 6) rfl rfl rfl hi (by omega) _ σ Y)]
theorem qW_comeHome (hs : s < 24) (σ : ky_St) (Y : pY) : fX0_comeHome (nI s) (cS σ Y) = some ((), cS σ (cHome Y s)) := by
  unfold fX0_comeHome
  rw [ky_bd_s (cP (r := 2) (N := 24) rfl rfl rfl hs (by omega) _ σ Y), ky_bd_s (cP (r := 3) (N := 24) rfl rfl rfl hs (by omega) _ σ _)]
  rw [show (20 : Nat) = 20 + 0 from rfl, cS_row]
  rfl
/-- a set leaves a site for the yard; for a site -/
def cBack (Y : pY) (s i : Nat) : pY := cHome (pU Y 9 i (Y 9 i + pDue Y s 0)) s
def cMove (Y : pY) (s i : Nat) (x : Int32) : pY := cCome (pU Y 9 i (Y 9 i + pDue Y s 0)) s x
theorem qW_takeBack (hs : s < 24) {i : Nat} (hi : i < 6) (σ : ky_St) (Y : pY) (h2 : Y 2 s = nI i) : fX0_takeBack (nI s) (cS σ Y) = some (pDue Y s 0, cS σ (cBack Y s i)) := by
  unfold fX0_takeBack
  rw [ky_bd_s (qW_billForHire hs hi σ Y h2), ky_bd_s (qW_comeHome hs σ _)]
  rfl
theorem qW_moveTo (hs : s < 24) {i : Nat} (hi : i < 6) (x : Int32) (σ : ky_St) (Y : pY) (h2 : Y 2 s = nI i) : fX0_moveTo (nI s) x (cS σ Y) = some (pDue Y s 0, cS σ (cMove Y s i x)) := by
  unfold fX0_moveTo
  rw [ky_bd_s (qW_billForHire hs hi σ Y h2), ky_bd_s (qW_comeTo hs x σ _)]
  rfl
/-- parts are taken and charged -/
def cChg (Y : pY) (s k : Nat) (m : Int32) : pY := pU (pU Y 6 (4 * s + k) (Y 6 (4 * s + k) - m)) 8 k (Y 8 k + m)
theorem qW_charge (hT : pT σ) (hs : s < 24) {k : Nat} (hk : k < 4) (m : Int32) (Y : pY) : fX0_charge (nI s) (nI k) m (cS σ Y) = some (m * pCo k, cS σ (cChg Y s k m)) := by
  unfold fX0_charge
  rw [nI_ix, ky_bd_s (cA (r := 6) (N := 96) rfl rfl rfl (by omega) (by omega) _ σ Y), ky_bd_s (cA (r := 8) (N := 4) rfl rfl rfl hk (by omega) _ σ _), ky_bd_s (pa_at (k := 14) (N := 4) rfl hk (by omega) _)]
  rw [show (cS σ (pU (pU Y 6 (4 * s + k) (Y 6 (4 * s + k) + -m)) 8 k (pU Y 6 (4 * s + k) (Y 6 (4 * s + k) + -m) 8 k + m))).1 14 k = pCo k from hT.2 k hk, ← Int32.sub_eq_add_neg]
  rfl
def cShort (Y : pY) (s k i : Nat) (m : Int32) : pY := cBack (pU (cChg Y s k m) 10 i (Y 10 i + m * pCo k)) s i
theorem pDue_cg {Y Y' : pY} (h : Y' 2 s = Y 2 s) (h1 : Y' 0 1 = Y 0 1) (h2 : Y' 3 s = Y 3 s) (h3 : Y' 1 = Y 1) (d : Int32) : pDue Y' s d = pDue Y s d := by unfold pDue; rw [h, h1, h2, h3]
theorem qW_takeBackShort (hT : pT σ) (hs : s < 24) {k : Nat} (hk : k < 4) {i : Nat} (hi : i < 6) (m : Int32) (Y : pY) (h2 : Y 2 s = nI i) : fX0_takeBackShort (nI s) (nI k) m (cS σ Y) = some (pDue Y s 0 + m * pCo k, cS σ (cShort Y s k i m)) := by
  unfold fX0_takeBackShort
  rw [ky_bd_s (qW_charge hT hs hk m Y), ky_bd_s (cG (r := 2) (N := 24) rfl rfl hs (by omega) σ _)]
  rw [show cChg Y s k m 2 s = nI i from h2, ky_bd_s (cA (r := 10) (N := 6) rfl rfl rfl hi (by omega) _ σ _), ky_bd_s (qW_takeBack hs hi σ _ (by rw [pU_row (by decide)]; exact h2))]
  congr 2
/-- damage -/
def cDm (Y : pY) (s : Nat) (c : Int32) (j : Nat) : pY := fun r i => if r = 11 ∧ i < j then Y 11 i + pSh Y s c (nI i) else Y r i
def cBo (Y : pY) (s : Nat) (c : Int32) : pY := if pUs Y s = 0 then pU Y 0 3 (Y 0 3 + c) else Y
theorem qW_dm_L (hs : s < 24) (c : Int32) (Y : pY) : ∀ (m i fu : Nat), i + m = 6 → m < fu → fX0_chargeDamage_L31 fu (nI s) c (nI i) (cS σ (cDm Y s c i)) = some (c, cS σ (cDm Y s c 6)) := by
  intro m
  induction m with
  | zero =>
    intro i fu h hf
    obtain ⟨fu, rfl⟩ : ∃ q, fu = q + 1 := ⟨fu - 1, by omega⟩
    have : i = 6 := by omega
    subst this
    rw [fX0_chargeDamage_L31, if_pos (show (6 : Int32) ≤ nI 6 from nI_le (a := 6) (b := 6) (Nat.le_refl _) (by omega))]
  | succ m ih =>
    intro i fu h hf
    obtain ⟨fu, rfl⟩ : ∃ q, fu = q + 1 := ⟨fu - 1, by omega⟩
    have e : fX0_shareOf (nI s) c (nI i) (cS σ (cDm Y s c i)) = some (pSh Y s c (nI i), cS σ (cDm Y s c i)) := by
      rw [qC_shareOf hs, cS_pB]
      congr 2
    have e2 : pU (cDm Y s c i) 11 i (cDm Y s c i 11 i + pSh Y s c (nI i)) = cDm Y s c (i + 1) := by
      funext a b
      unfold pU cDm
      by_cases h1 : a = 11 ∧ b = i
      · obtain ⟨rfl, rfl⟩ := h1
        rw [if_pos ⟨rfl, rfl⟩, if_neg (by omega), if_pos ⟨rfl, by omega⟩]
      · rw [if_neg h1]
        by_cases h2 : a = 11 ∧ b < i
        · rw [if_pos h2, if_pos (by omega)]
        · rw [if_neg h2, if_neg (by omega)]
    rw [fX0_chargeDamage_L31, if_neg (show ¬ (6 : Int32) ≤ nI i from nI_ge (a := i) (b := 6) (by omega) (by omega)), ky_bd_s e, ky_bd_s (cA (r := 11) (N := 6) rfl rfl rfl (by omega) (by omega) _ σ _), e2, ky_bn_s, nI_1]
    exact ih (i + 1) fu (by omega) (by omega)
def cDmg (Y : pY) (s k : Nat) (m : Int32) : pY := cDm (cBo (cChg Y s k m) s (m * pCo k)) s (m * pCo k) 6
theorem cDm_0 (Y : pY) (c : Int32) : cDm Y s c 0 = Y := by
  funext a b
  unfold cDm
  rw [if_neg (by omega)]
theorem qW_chargeDamage (hT : pT σ) (hs : s < 24) {k : Nat} (hk : k < 4) (m : Int32) (Y : pY) : fX0_chargeDamage (nI s) (nI k) m (cS σ Y) = some (m * pCo k, cS σ (cDmg Y s k m)) := by
  unfold fX0_chargeDamage
  have e : fX0_usersOf (nI s) (cS σ (cChg Y s k m)) = some (pUs (cChg Y s k m) s, cS σ (cChg Y s k m)) := by rw [qC_usersOf hs, cS_pB]
  rw [ky_bd_s (qW_charge hT hs hk m Y), ky_bd_s e]
  have key := fun Y' => qW_dm_L (σ := σ) hs (m * pCo k) Y' 6 0 FU rfl (by decide)
  unfold cDmg cBo
  by_cases h : pUs (cChg Y s k m) s = 0
  · rw [if_pos h, if_pos h, ky_bn_s, show (20 : Nat) = 20 + 0 from rfl, cS_u1, cS_row]
    have := key (pU (cChg Y s k m) 0 3 (cChg Y s k m 0 3 + m * pCo k))
    rw [cDm_0] at this
    exact this
  · rw [if_neg h, if_neg h]
    have := key (cChg Y s k m)
    rw [cDm_0] at this
    exact this
/-- two sets' parts change places -/
def cSw (Y : pY) (s t k : Nat) : pY := pU (pU Y 6 (4 * s + k) (Y 6 (4 * t + k))) 6 (4 * t + k) (Y 6 (4 * s + k))
def cSwp (Y : pY) (s t : Nat) : Nat → pY
  | 0 => Y
  | k + 1 => cSw (cSwp Y s t k) s t k
theorem qW_exchange_L (hs : s < 24) {t : Nat} (ht : t < 24) (Y : pY) : ∀ (m i fu : Nat), i + m = 4 → m < fu → fX0_exchangeParts_L2 fu (nI s) (nI t) (nI i) (cS σ (cSwp Y s t i)) = some ((), cS σ (cSwp Y s t 4)) := by
  intro m
  induction m with
  | zero =>
    intro i fu h hf
    obtain ⟨fu, rfl⟩ : ∃ q, fu = q + 1 := ⟨fu - 1, by omega⟩
    have : i = 4 := by omega
    subst this
    rw [fX0_exchangeParts_L2, if_pos (show (4 : Int32) ≤ nI 4 from nI_le (a := 4) (b := 4) (Nat.le_refl _) (by omega))]
  | succ m ih =>
    intro i fu h hf
    obtain ⟨fu, rfl⟩ : ∃ q, fu = q + 1 := ⟨fu - 1, by omega⟩
    have e (z : Nat) (hz : z < 24) : fX0_stockOf (nI z) (nI i) (cS σ (cSwp Y s t i)) = some (cSwp Y s t i 6 (4 * z + i), cS σ (cSwp Y s t i)) := by rw [qC_stockOf hz (by omega), cS_pB]
    rw [fX0_exchangeParts_L2, if_neg (show ¬ (4 : Int32) ≤ nI i from nI_ge (a := i) (b := 4) (by omega) (by omega)), ky_bd_s (e s hs), ky_bd_s (e t ht), nI_ix, nI_ix, ky_bd_s (cP (r := 6) (N := 96) rfl rfl rfl (by omega) (by omega) _ σ _), ky_bd_s (cP (r := 6) (N := 96) rfl rfl rfl (by omega) (by omega) _ σ _), ky_bn_s, nI_1]
    exact ih (i + 1) fu (by omega) (by omega)
theorem qW_exchange (hs : s < 24) {t : Nat} (ht : t < 24) (Y : pY) : fX0_exchangeParts (nI s) (nI t) (cS σ Y) = some ((), cS σ (cSwp Y s t 4)) :=
  qW_exchange_L hs ht Y 4 0 FU rfl (by decide)
/-- a set is filled from the spare parts -/
def cTk (Y : pY) (s k : Nat) : Int32 := if Y 7 k < pWi k - Y 6 (4 * s + k) then Y 7 k else pWi k - Y 6 (4 * s + k)
def cFi (Y : pY) (s k : Nat) : pY := pU (pU Y 7 k (Y 7 k - cTk Y s k)) 6 (4 * s + k) (Y 6 (4 * s + k) + cTk Y s k)
def cFil (Y : pY) (s : Nat) : Nat → pY × Int32
  | 0 => (Y, 0)
  | k + 1 => (cFi (cFil Y s k).1 s k, (cFil Y s k).2 + cTk (cFil Y s k).1 s k)
theorem qW_fillUp_L (hT : pT σ) (hs : s < 24) (Y : pY) : ∀ (m i fu : Nat), i + m = 4 → m < fu → fX0_fillUp_L4 fu (nI s) (cFil Y s i).2 (nI i) (cS σ (cFil Y s i).1) = some ((cFil Y s 4).2, cS σ (cFil Y s 4).1) := by
  intro m
  induction m with
  | zero =>
    intro i fu h hf
    obtain ⟨fu, rfl⟩ : ∃ q, fu = q + 1 := ⟨fu - 1, by omega⟩
    have : i = 4 := by omega
    subst this
    rw [fX0_fillUp_L4, if_pos (show (4 : Int32) ≤ nI 4 from nI_le (a := 4) (b := 4) (Nat.le_refl _) (by omega))]
  | succ m ih =>
    intro i fu h hf
    obtain ⟨fu, rfl⟩ : ∃ q, fu = q + 1 := ⟨fu - 1, by omega⟩
    have hi4 : i < 4 := by omega
    have e : fX0_lackOf (nI s) (nI i) (cS σ (cFil Y s i).1) = some (pWi i - (cFil Y s i).1 6 (4 * s + i), cS σ (cFil Y s i).1) := by rw [qC_lackOf (cS_T hT _) hs hi4, cS_pB]
    rw [fX0_fillUp_L4, if_neg (show ¬ (4 : Int32) ≤ nI i from nI_ge (a := i) (b := 4) (by omega) (by omega)), ky_bd_s e, ky_bd_s (cG (r := 7) (N := 4) rfl rfl hi4 (by omega) σ _), ky_bn_s, ky_bd_s (cA (r := 7) (N := 4) rfl rfl rfl hi4 (by omega) _ σ _), nI_ix, ky_bd_s (cA (r := 6) (N := 96) rfl rfl rfl (by omega) (by omega) _ σ _), ky_bn_s, ky_bn_s, nI_1, ← Int32.sub_eq_add_neg]
    exact ih (i + 1) fu (by omega) (by omega)
theorem qW_fillUp (hT : pT σ) (hs : s < 24) (Y : pY) : fX0_fillUp (nI s) (cS σ Y) = some ((cFil Y s 4).2, cS σ (cFil Y s 4).1) :=
  qW_fillUp_L hT hs Y 4 0 FU rfl (by decide)
/-- spare parts are bought -/
def cSpa (Y : pY) (k : Nat) (c : Int32) : pY := pU (pU Y 7 k (Y 7 k + c)) 0 4 (Y 0 4 + c * pCo k)
theorem qW_addSpare (hT : pT σ) {k : Nat} (hk : k < 4) (c : Int32) (Y : pY) : fX0_addSpare (nI k) c (cS σ Y) = some ((), cS σ (cSpa Y k c)) := by
  unfold fX0_addSpare
  rw [ky_bd_s (cA (r := 7) (N := 4) rfl rfl rfl hk (by omega) _ σ Y), ky_bd_s (pa_at (k := 14) (N := 4) rfl hk (by omega) _), ky_bn_s, show (20 : Nat) = 20 + 0 from rfl, cS_u1, cS_row]
  rw [show (cS σ (pU Y 7 k (Y 7 k + c))).1 14 k = pCo k from hT.2 k hk]
  rfl
/-- sets are bought -/
def cNk (Y : pY) (s : Nat) (k : Nat) : pY := pU (pU Y 6 (4 * s + k) (pWi k)) 0 4 (Y 0 4 + pWi k * pCo k)
def cNks (Y : pY) (s : Nat) : Nat → pY
  | 0 => Y
  | k + 1 => cNk (cNks Y s k) s k
def cNew (Y : pY) (s : Nat) : pY := pU (cNks Y s 4) 0 0 (nI (s + 1))
def cNews (Y : pY) (s : Nat) : Nat → pY
  | 0 => Y
  | m + 1 => cNew (cNews Y s m) (s + m)
theorem cNks_00 (Y : pY) : ∀ k, cNks Y s k 0 0 = Y 0 0
  | 0 => rfl
  | k + 1 => by
    unfold cNks cNk
    rw [pU_ne (Or.inr (by decide)), pU_ne (Or.inl (by decide))]
    exact cNks_00 Y k
theorem cNews_00 (Y : pY) (h : Y 0 0 = nI s) : ∀ m, cNews Y s m 0 0 = nI (s + m)
  | 0 => h
  | m + 1 => (pU_eq : pU (cNks (cNews Y s m) (s + m) 4) 0 0 (nI (s + m + 1)) 0 0 = nI (s + m + 1))
theorem qW_addSets_in (hT : pT σ) (hs : s < 24) (rec2 : Int32 → Int32 → ky_St → Option (Unit × ky_St)) (x j : Int32) (Y : pY) (h0 : Y 0 0 = nI s) : ∀ (m i fu : Nat), i + m = 4 → m < fu → fX0_addSets_L18 rec2 fu x j (nI i) (cS σ (cNks Y s i)) = rec2 x (j + 1) (cS σ (cNew Y s)) := by
  intro m
  induction m with
  | zero =>
    intro i fu h hf
    obtain ⟨fu, rfl⟩ : ∃ q, fu = q + 1 := ⟨fu - 1, by omega⟩
    have : i = 4 := by omega
    subst this
    rw [fX0_addSets_L18, if_pos (show (4 : Int32) ≤ nI 4 from nI_le (a := 4) (b := 4) (Nat.le_refl _) (by omega)), ky_bn_s, ky_bn_s, show (20 : Nat) = 20 + 0 from rfl, cS_u1, cS_row, cNks_00, h0, nI_1]
    rfl
  | succ m ih =>
    intro i fu h hf
    obtain ⟨fu, rfl⟩ : ∃ q, fu = q + 1 := ⟨fu - 1, by omega⟩
    have hi4 : i < 4 := by omega
    rw [fX0_addSets_L18, if_neg (show ¬ (4 : Int32) ≤ nI i from nI_ge (a := i) (b := 4) (by omega) (by omega)), ky_bd_s (pa_at (k := 13) (N := 4) rfl hi4 (by omega) _), show (cS σ (cNks Y s i)).1 13 i = pWi i from hT.1 i hi4]
    rw [show (cS σ (cNks Y s i)).1 20 0 = nI s from ((congrFun (cS_row σ _ 0) 0).trans (cNks_00 Y i)).trans h0, nI_ix, ky_bd_s (cP (r := 6) (N := 96) rfl rfl rfl (by omega) (by omega) _ σ _), ky_bd_s (pa_at (k := 13) (N := 4) rfl hi4 (by omega) _), ky_bd_s (pa_at (k := 14) (N := 4) rfl hi4 (by omega) _), ky_bn_s, show (20 : Nat) = 20 + 0 from rfl, cS_u1, cS_row, ky_bn_s, nI_1]
    rw [show (cS σ (pU (cNks Y s i) 6 (4 * s + i) (pWi i))).1 13 i = pWi i from hT.1 i hi4, show (cS σ (pU (cNks Y s i) 6 (4 * s + i) (pWi i))).1 14 i = pCo i from hT.2 i hi4]
    exact ih (i + 1) fu (by omega) (by omega)
theorem qW_addSets_L (hT : pT σ) {c : Nat} (hc : s + c ≤ 24) (Y : pY) (h0 : Y 0 0 = nI s) : ∀ (m i fu : Nat), i + m = c → m < fu → fX0_addSets_L2 fu (nI c) (nI i) (cS σ (cNews Y s i)) = some ((), cS σ (cNews Y s c)) := by
  intro m
  induction m with
  | zero =>
    intro i fu h hf
    obtain ⟨fu, rfl⟩ : ∃ q, fu = q + 1 := ⟨fu - 1, by omega⟩
    have : i = c := by omega
    subst this
    rw [fX0_addSets_L2, if_pos (nI_le (Nat.le_refl _) (by omega))]
  | succ m ih =>
    intro i fu h hf
    obtain ⟨fu, rfl⟩ : ∃ q, fu = q + 1 := ⟨fu - 1, by omega⟩
    have h00 := cNews_00 Y h0 i
    rw [fX0_addSets_L2, if_neg (nI_ge (by omega) (by omega)), show (cS σ (cNews Y s i)).1 20 0 = nI (s + i) from (congrFun (cS_row σ _ 0) 0).trans h00, if_neg (show ¬ (24 : Int32) ≤ nI (s + i) from nI_ge (a := s + i) (b := 24) (by omega) (by omega))]
    have := qW_addSets_in hT (s := s + i) (by omega) (fX0_addSets_L2 fu) (nI c) (nI i) (cNews Y s i) h00 4 0 FU rfl (by decide)
    refine Eq.trans this ?_
    rw [nI_1]
    exact ih (i + 1) fu (by omega) (by omega)
theorem qW_addSets (hT : pT σ) {c : Nat} (hc : s + c ≤ 24) (Y : pY) (h0 : Y 0 0 = nI s) : fX0_addSets (nI c) (cS σ Y) = some ((), cS σ (cNews Y s c)) :=
  qW_addSets_L hT hc Y h0 c 0 FU (by omega) (by show c < 4000; omega)
end WA
