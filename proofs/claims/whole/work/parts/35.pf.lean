/-! ===== pure: what would be if all were repaired; the share ===== -/
def pF (S : Nat → Prop) (σ σ' : ky_St) : Prop := (∀ k, ¬ S k → σ'.1 k = σ.1 k) ∧ σ'.2 = σ.2
theorem pF.rfl' {S : Nat → Prop} {σ : ky_St} : pF S σ σ := ⟨fun _ _ => rfl, rfl⟩
theorem pF.tr {S : Nat → Prop} {a b c : ky_St} (h : pF S a b) (h2 : pF S b c) : pF S a c := ⟨fun k hk => (h2.1 k hk).trans (h.1 k hk), h2.2.trans h.2⟩
theorem pF.wk {S T : Nat → Prop} {a b : ky_St} (h : pF S a b) (hST : ∀ k, S k → T k) : pF T a b := ⟨fun k hk => h.1 k (fun q => hk (hST k q)), h.2⟩
theorem pF.u1 {S : Nat → Prop} {σ : ky_St} {k f : Nat} {v : Int32} (h : S k) : pF S σ (ky_u1 σ k f v) := ⟨fun a ha => ky_u1_ne (fun e => ha (by rw [e]; exact h)), rfl⟩
/-- what a repair takes of a kind -/
def pTk (Y : pY) (s : Nat) (Sp : Nat → Int32) (k : Nat) : Int32 := if Sp k < pWi k - Y 6 (4 * s + k) then Sp k else pWi k - Y 6 (4 * s + k)
def pLe (Y : pY) (s : Nat) (Sp : Nat → Int32) : Nat → Nat → Int32 := fun m k => if k < m then Sp k - pTk Y s Sp k else Sp k
def pOk (Y : pY) (s : Nat) (Sp : Nat → Int32) : Nat → Int32
  | 0 => 1
  | m + 1 => if pOk Y s Sp m = 0 then 0 else if Sp m < pWi m - Y 6 (4 * s + m) then 0 else 1
theorem pOk_01 {Y : pY} {s : Nat} {Sp : Nat → Int32} : ∀ m, pOk Y s Sp m = 0 ∨ pOk Y s Sp m = 1
  | 0 => Or.inr rfl
  | m + 1 => by
    unfold pOk
    split
    · exact Or.inl rfl
    · split
      · exact Or.inl rfl
      · exact Or.inr rfl
def pRS (Y : pY) : Nat → (Nat → Int32) × Int32
  | 0 => (Y 7, 0)
  | m + 1 => if Y 2 m = -1 then (pLe Y m (pRS Y m).1 4, (pRS Y m).2 + pOk Y m (pRS Y m).1 4) else pRS Y m
section PFS
variable {n : Nat} {σ : ky_St} {s : Nat} {Y : pY}
theorem pB_pF {S : Nat → Prop} {σ σ' : ky_St} {b : Nat} (h : pF S σ σ') (hS : ∀ k, S k → k < b ∨ b + 13 ≤ k) (a : Nat) (ha : a < 13) : pB σ' b a = pB σ b a := h.1 (b + a) (fun q => by have := hS _ q; omega)
theorem pT.pF {S : Nat → Prop} {σ σ' : ky_St} (hT : pT σ) (h : pF S σ σ') (h13 : ¬ S 13) (h14 : ¬ S 14) : pT σ' := by
  refine ⟨fun k hk => ?_, fun k hk => ?_⟩
  · rw [h.1 13 h13]; exact hT.1 k hk
  · rw [h.1 14 h14]; exact hT.2 k hk
theorem qC_wouldBeWhole_L (Y : pY) (Sp : Nat → Int32) (hs : s < 24) : ∀ (m i fu : Nat) (σ : ky_St), i + m = 4 → m < fu → pT σ → pB σ 20 6 = Y 6 → (∀ k, k < 4 → σ.1 4 k = pLe Y s Sp i k) → ∃ σ', fX3_wouldBeWhole_L4 fu (nI s) (pOk Y s Sp i) (nI i) σ = some (pOk Y s Sp 4, σ') ∧ pF (fun k => k = 4) σ σ' ∧ ∀ k, k < 4 → σ'.1 4 k = pLe Y s Sp 4 k := by
  intro m
  induction m with
  | zero =>
    intro i fu σ h hf hT hY hSp
    obtain ⟨fu, rfl⟩ : ∃ q, fu = q + 1 := ⟨fu - 1, by omega⟩
    have : i = 4 := by omega
    subst this
    refine ⟨σ, ?_, pF.rfl', hSp⟩
    rw [fX3_wouldBeWhole_L4, if_pos (show (4 : Int32) ≤ nI 4 from nI_le (a := 4) (b := 4) (Nat.le_refl _) (by omega)), ky_g_s (pOk_01 4)]
  | succ m ih =>
    intro i fu σ h hf hT hY hSp
    obtain ⟨fu, rfl⟩ : ∃ q, fu = q + 1 := ⟨fu - 1, by omega⟩
    have hi4 : i < 4 := by omega
    have hli : pLe Y s Sp i i = Sp i := if_neg (Nat.lt_irrefl _)
    have h4 : σ.1 4 i = Sp i := (hSp i hi4).trans hli
    rw [fX3_wouldBeWhole_L4, if_neg (show ¬ (4 : Int32) ≤ nI i from nI_ge (a := i) (b := 4) (by omega) (by omega)), ky_bd_s (qC_lackOf hT hs hi4), ky_bd_s (pa_at (k := 4) (N := 4) rfl hi4 (by omega) σ), ky_bn_s, hY, h4, ky_bd_s (pa_add (k := 4) (N := 4) rfl rfl hi4 (by omega) _ σ), h4]
    have hrow : ∀ k, k < 4 → (ky_u1 σ 4 i (Sp i + -(if Sp i < pWi i - Y 6 (4 * s + i) then Sp i else pWi i - Y 6 (4 * s + i)))).1 4 k = pLe Y s Sp (i + 1) k := by
      intro k hk
      rw [ky_u1_row]
      unfold upd pLe
      by_cases e : k = i
      · subst e
        rw [if_pos rfl, if_pos (show k < k + 1 by omega)]
        exact (Int32.sub_eq_add_neg _ _).symm
      · rw [if_neg e, hSp k hk]
        unfold pLe
        by_cases e2 : k < i
        · rw [if_pos e2, if_pos (show k < i + 1 by omega)]
        · rw [if_neg e2, if_neg (show ¬ k < i + 1 by omega)]
    have hF : pF (fun k => k = 4) σ (ky_u1 σ 4 i (Sp i + -(if Sp i < pWi i - Y 6 (4 * s + i) then Sp i else pWi i - Y 6 (4 * s + i)))) := pF.u1 rfl
    obtain ⟨σ', r1, r2, r3⟩ := ih (i + 1) fu _ (by omega) (by omega) (hT.pF hF (by decide) (by decide)) ((pB_pF hF (fun k hk => by subst hk; omega) 6 (by omega)).trans hY) hrow
    refine ⟨σ', ?_, hF.tr r2, r3⟩
    rw [← r1]
    have hk : pOk Y s Sp (i + 1) = if pOk Y s Sp i = 0 then 0 else if Sp i < pWi i - Y 6 (4 * s + i) then 0 else 1 := rfl
    rw [hk]
    by_cases h0 : pOk Y s Sp i = 0
    · rw [if_pos h0, if_pos h0, ky_bn_s, nI_1]
    · rw [if_neg h0, if_neg h0]
      by_cases hc : Sp i < pWi i - Y 6 (4 * s + i)
      · have hne : ¬ Sp i = pWi i - Y 6 (4 * s + i) := fun e => by rw [e] at hc; exact Int32.lt_irrefl hc
        rw [if_pos hc, if_pos hc, if_neg hne, ky_bn_s, nI_1]
      · rw [if_neg hc, if_neg hc, if_pos rfl, ky_bn_s, nI_1]
theorem qC_wouldBeWhole (Y : pY) (Sp : Nat → Int32) (hs : s < 24) (hT : pT σ) (hY : pB σ 20 6 = Y 6) (hSp : ∀ k, k < 4 → σ.1 4 k = Sp k) : ∃ σ', fX3_wouldBeWhole (nI s) σ = some (pOk Y s Sp 4, σ') ∧ pF (fun k => k = 4) σ σ' ∧ ∀ k, k < 4 → σ'.1 4 k = pLe Y s Sp 4 k :=
  qC_wouldBeWhole_L Y Sp hs 4 0 FU σ (by omega) (by decide) hT hY (fun k hk => (hSp k hk).trans (if_neg (by omega)).symm)
theorem qC_ifRepaired_L (Y : pY) (hn : n ≤ 24) : ∀ (m i fu : Nat) (σ : ky_St), i + m = n → m < fu → pT σ → (∀ a, a < 13 → pB σ 20 a = Y a) → σ.1 20 0 = nI n → (∀ k, k < 4 → σ.1 4 k = (pRS Y i).1 k) → ∃ σ', fX3_ifRepaired_L18 fu (pRS Y i).2 (nI i) σ = some ((pRS Y n).2, σ') ∧ pF (fun k => k = 4) σ σ' := by
  intro m
  induction m with
  | zero =>
    intro i fu σ h hf hT hY h0 hSp
    obtain ⟨fu, rfl⟩ : ∃ q, fu = q + 1 := ⟨fu - 1, by omega⟩
    have : i = n := by omega
    subst this
    refine ⟨σ, ?_, pF.rfl'⟩
    rw [fX3_ifRepaired_L18, h0, if_pos (nI_le (Nat.le_refl _) (by omega))]
  | succ m ih =>
    intro i fu σ h hf hT hY h0 hSp
    obtain ⟨fu, rfl⟩ : ∃ q, fu = q + 1 := ⟨fu - 1, by omega⟩
    rw [fX3_ifRepaired_L18, h0, if_neg (nI_ge (by omega) (by omega)), ky_bd_s (qC_isInYard hn h0 (by omega)), hY 2 (by omega)]
    have hr : pRS Y (i + 1) = if Y 2 i = -1 then (pLe Y i (pRS Y i).1 4, (pRS Y i).2 + pOk Y i (pRS Y i).1 4) else pRS Y i := rfl
    by_cases hw : Y 2 i = -1
    · rw [if_pos hw] at hr
      obtain ⟨σ1, r1, r2, r3⟩ := qC_wouldBeWhole (σ := σ) Y (pRS Y i).1 (s := i) (by omega) hT (hY 6 (by omega)) hSp
      rw [bI_t hw, if_neg (by decide), ky_bd_s r1]
      obtain ⟨σ', q1, q2⟩ := ih (i + 1) fu σ1 (by omega) (by omega) (hT.pF r2 (by decide) (by decide)) (fun a ha => (pB_pF r2 (fun k hk => by subst hk; omega) a ha).trans (hY a ha)) (by rw [r2.1 20 (by decide)]; exact h0) (fun k hk => by rw [hr]; exact r3 k hk)
      refine ⟨σ', ?_, r2.tr q2⟩
      rw [hr] at q1
      rw [← q1]
      rcases @pOk_01 Y i (pRS Y i).1 4 with e | e
      · rw [if_pos e, ky_bn_s, nI_1, e, Int32.add_zero]
      · rw [if_neg (by rw [e]; decide), ky_bn_s, ky_bn_s, nI_1, e]
    · rw [if_neg hw] at hr
      rw [bI_f hw, if_pos rfl, ky_bn_s, nI_1]
      have := ih (i + 1) fu σ (by omega) (by omega) hT hY h0 (by rw [hr]; exact hSp)
      rw [hr] at this
      exact this
theorem pa_copy {k t n0 n1 : Nat} (h0 : ky_la k = some n0) (h1 : ky_la t = some n1) (r0 : ky_ro k = false) (r1 : ky_ro t = false) (hl : n0 = n1) (hN : n0 < 2 ^ 31) (σ : ky_St) : ∃ σ', fX3_copy k t σ = some ((), σ') ∧ pF (fun a => a = t) σ σ' ∧ ∀ j, j < n0 → σ'.1 t j = σ.1 k j := by
  subst hl
  have e : (if Int32.ofNat n0 < Int32.ofNat n0 then Int32.ofNat n0 else Int32.ofNat n0) = nI n0 := by split <;> rfl
  refine ⟨ky_uR σ t (va_cpy (σ.1 k) (σ.1 t) 0 0 n0), ?_, ⟨fun a ha => ky_uR_ne ha, rfl⟩, fun j hj => ?_⟩
  · unfold fX3_copy
    rw [h0, h1]
    simp only [Option.bind_some, e, ky_bn_s]
    rw [ky_g_s ⟨⟨r0, r1⟩, nI_pos hN, by rw [nI_clamp hN]; exact ⟨Nat.le_refl _, Nat.le_refl _⟩⟩, nI_clamp hN]
  · rw [ky_uR_row]
    unfold va_cpy
    rw [if_pos (by omega)]
    simp
theorem qC_ifRepaired (hT : pT σ) (hV : pV n (pB σ 20)) : ∃ σ', fX3_ifRepaired σ = some ((pRS (pB σ 20) n).2, σ') ∧ pF (fun k => k = 4) σ σ' := by
  unfold fX3_ifRepaired
  obtain ⟨σ1, r1, r2, r3⟩ := pa_copy (k := 27) (t := 4) (n0 := 4) (n1 := 4) rfl rfl rfl rfl rfl (by omega) σ
  rw [ky_bd_s r1]
  have hY : ∀ a, a < 13 → pB σ1 20 a = pB σ 20 a := pB_pF r2 (fun k hk => by subst hk; omega)
  obtain ⟨σ', q1, q2⟩ := qC_ifRepaired_L (pB σ 20) hV.1 n 0 FU σ1 (by omega) (by have := hV.1; show n < 4000; omega) (hT.pF r2 (by decide) (by decide)) hY (by rw [r2.1 20 (by decide)]; exact hV.2.1) (fun k hk => r3 k hk)
  exact ⟨σ', q1, r2.tr q2⟩
/-! the model -/
theorem pr_k4 {k : Nat} (hk : k < 4) : (nI k).toNatClampNeg = k ∧ ¬ (nI k < 0 ∨ 4 ≤ (nI k).toNatClampNeg) := ⟨nI_clamp (by omega), nI_in hk (by omega)⟩
theorem pr_k4' {k : Nat} (hk : k < 4) : ¬ (nI k < 0 ∨ 4 ≤ k) := fun q => q.elim (nI_pos (by omega)) (fun z => by omega)
theorem qM_L44 (rec4 : Int32 → Int32 → Int32 → ky_St → Option (Int32 × ky_St)) (x y lack : Int32) {k : Nat} (hk : k < 4) : fX4_repairsThen_L44 rec4 x (nI k) lack y σ = rec4 x y (nI (k + 1)) (ky_u1 σ 12 k (σ.1 12 k - (if σ.1 12 k < lack then σ.1 12 k else lack))) := by
  unfold fX4_repairsThen_L44
  rw [(pr_k4 hk).1, ky_g_s (pr_k4' hk), ky_g_s (pr_k4' hk)]
  by_cases h : σ.1 12 k < lack
  · by_cases h2 : σ.1 12 k ≤ lack
    · rw [if_pos h2, if_pos h, ky_g_s (pr_k4' hk), ky_g_s (pr_k4' hk), ky_bn_s, ky_bn_s, nI_1]
    · exact absurd (Int32.le_of_lt h) h2
  · rw [if_neg h]
    by_cases h2 : σ.1 12 k ≤ lack
    · have e : σ.1 12 k = lack := Int32.le_antisymm h2 (nlt_le.mpr h)
      rw [if_pos h2, ky_g_s (pr_k4' hk), ky_g_s (pr_k4' hk), ky_bn_s, ky_bn_s, nI_1, e]
    · rw [if_neg h2, ky_g_s (pr_k4' hk), ky_bn_s, ky_bn_s, nI_1]
theorem qM_repairsThen_L (Sp : Nat → Int32) (hs : s < n) : ∀ (m i fu : Nat) (σ : ky_St), i + m = 4 → m < fu → pR n Y (σ.1 8) → (∀ k, k < 4 → σ.1 12 k = pLe Y s Sp i k) → ∃ σ', fX4_repairsThen_L4 fu (nI s) (pOk Y s Sp i) (nI i) σ = some (pOk Y s Sp 4, σ') ∧ pF (fun k => k = 12) σ σ' ∧ ∀ k, k < 4 → σ'.1 12 k = pLe Y s Sp 4 k := by
  intro m
  induction m with
  | zero =>
    intro i fu σ h hf hR hSp
    obtain ⟨fu, rfl⟩ : ∃ q, fu = q + 1 := ⟨fu - 1, by omega⟩
    have : i = 4 := by omega
    subst this
    refine ⟨σ, ?_, pF.rfl', hSp⟩
    rw [fX4_repairsThen_L4, if_pos (show (4 : Int32) ≤ nI 4 from nI_le (a := 4) (b := 4) (Nat.le_refl _) (by omega)), ky_g_s (pOk_01 4)]
  | succ m ih =>
    intro i fu σ h hf hR hSp
    obtain ⟨fu, rfl⟩ : ∃ q, fu = q + 1 := ⟨fu - 1, by omega⟩
    have hi4 : i < 4 := by omega
    have h4 : σ.1 12 i = Sp i := (hSp i hi4).trans (if_neg (Nat.lt_irrefl _))
    rw [fX4_repairsThen_L4, if_neg (show ¬ (4 : Int32) ≤ nI i from nI_ge (a := i) (b := 4) (by omega) (by omega)), ky_bd_s (qM_wholeOf hi4), ky_bd_s (qM_k hR hs hi4), ky_bn_s]
    have hF : pF (fun k => k = 12) σ (ky_u1 σ 12 i (σ.1 12 i - (if σ.1 12 i < pWi i - Y 6 (4 * s + i) then σ.1 12 i else pWi i - Y 6 (4 * s + i)))) := pF.u1 rfl
    have hrow : ∀ k, k < 4 → (ky_u1 σ 12 i (σ.1 12 i - (if σ.1 12 i < pWi i - Y 6 (4 * s + i) then σ.1 12 i else pWi i - Y 6 (4 * s + i)))).1 12 k = pLe Y s Sp (i + 1) k := by
      intro k hk
      rw [ky_u1_row]
      unfold upd pLe
      by_cases e : k = i
      · subst e
        rw [if_pos rfl, if_pos (show k < k + 1 by omega), h4]
        rfl
      · rw [if_neg e, hSp k hk]
        unfold pLe
        by_cases e2 : k < i
        · rw [if_pos e2, if_pos (show k < i + 1 by omega)]
        · rw [if_neg e2, if_neg (show ¬ k < i + 1 by omega)]
    obtain ⟨σ', r1, r2, r3⟩ := ih (i + 1) fu _ (by omega) (by omega) (by rw [hF.1 8 (by decide)]; exact hR) hrow
    refine ⟨σ', ?_, hF.tr r2, r3⟩
    rw [← r1]
    have hk : pOk Y s Sp (i + 1) = if pOk Y s Sp i = 0 then 0 else if Sp i < pWi i - Y 6 (4 * s + i) then 0 else 1 := rfl
    rw [hk]
    unfold fX4_repairsThen_L43
    by_cases h0 : pOk Y s Sp i = 0
    · rw [if_pos h0, if_pos h0, qM_L44 _ _ _ _ hi4]
    · rw [if_neg h0, if_neg h0, (pr_k4 hi4).1, ky_g_s (pr_k4' hi4)]
      by_cases hc : Sp i < pWi i - Y 6 (4 * s + i)
      · rw [if_pos (by rw [h4]; exact hc), if_pos hc, qM_L44 _ _ _ _ hi4]
      · rw [if_neg (by rw [h4]; exact hc), if_neg hc, qM_L44 _ _ _ _ hi4]
theorem qM_repairsThen (Sp : Nat → Int32) (hs : s < n) (hR : pR n Y (σ.1 8)) (hSp : ∀ k, k < 4 → σ.1 12 k = Sp k) : ∃ σ', fX4_repairsThen (nI s) σ = some (pOk Y s Sp 4, σ') ∧ pF (fun k => k = 12) σ σ' ∧ ∀ k, k < 4 → σ'.1 12 k = pLe Y s Sp 4 k :=
  qM_repairsThen_L Sp hs 4 0 FU σ (by omega) (by decide) hR (fun k hk => (hSp k hk).trans (if_neg (by omega)).symm)
theorem qM_repairedThen_L : ∀ (m i fu : Nat) (σ : ky_St), i + m = n → m < fu → pR n Y (σ.1 8) → (∀ k, k < 4 → σ.1 12 k = (pRS Y i).1 k) → ∃ σ', fX4_repairedThen_L32 fu (pRS Y i).2 (nI i) σ = some ((pRS Y n).2, σ') ∧ pF (fun k => k = 12) σ σ' := by
  intro m
  induction m with
  | zero =>
    intro i fu σ h hf hR hSp
    have hn := hR.1.1
    obtain ⟨fu, rfl⟩ : ∃ q, fu = q + 1 := ⟨fu - 1, by omega⟩
    have : i = n := by omega
    subst this
    refine ⟨σ, ?_, pF.rfl'⟩
    rw [fX4_repairedThen_L32, ky_g_s (by decide), qM_z3 hR, if_pos (nI_le (Nat.le_refl _) (by omega))]
  | succ m ih =>
    intro i fu σ h hf hR hSp
    have hn := hR.1.1
    obtain ⟨fu, rfl⟩ : ∃ q, fu = q + 1 := ⟨fu - 1, by omega⟩
    rw [fX4_repairedThen_L32, ky_g_s (by decide), qM_z3 hR, if_neg (nI_ge (by omega) (by omega)), ky_bd_s (qM_isInYard hR (by omega))]
    have hr : pRS Y (i + 1) = if Y 2 i = -1 then (pLe Y i (pRS Y i).1 4, (pRS Y i).2 + pOk Y i (pRS Y i).1 4) else pRS Y i := rfl
    by_cases hw : Y 2 i = -1
    · rw [if_pos hw] at hr
      obtain ⟨σ1, r1, r2, r3⟩ := qM_repairsThen (σ := σ) (Y := Y) (pRS Y i).1 (s := i) (n := n) (by omega) hR hSp
      rw [bI_t hw, if_neg (by decide), ky_bd_s r1]
      obtain ⟨σ', q1, q2⟩ := ih (i + 1) fu σ1 (by omega) (by omega) (by rw [r2.1 8 (by decide)]; exact hR) (fun k hk => by rw [hr]; exact r3 k hk)
      refine ⟨σ', ?_, r2.tr q2⟩
      rw [hr] at q1
      rw [← q1]
      rcases @pOk_01 Y i (pRS Y i).1 4 with e | e
      · rw [if_pos e, ky_bn_s, ky_bn_s, nI_1, e]
      · rw [if_neg (by rw [e]; decide), ky_bn_s, ky_bn_s, nI_1, e]
    · rw [if_neg hw] at hr
      rw [bI_f hw, if_pos rfl, ky_bn_s, ky_bn_s, nI_1, Int32.add_zero]
      have := ih (i + 1) fu σ (by omega) (by omega) hR (by rw [hr]; exact hSp)
      rw [hr] at this
      exact this
theorem qM_repairedThen_L2 : ∀ (m i fu : Nat) (σ : ky_St), i + m = 4 → m < fu → pR n Y (σ.1 8) → (∀ k, k < i → σ.1 12 k = Y 7 k) → ∃ σ', fX4_repairedThen_L2 fu (nI i) σ = some ((pRS Y n).2, σ') ∧ pF (fun k => k = 12) σ σ' := by
  intro m
  induction m with
  | zero =>
    intro i fu σ h hf hR hSp
    obtain ⟨fu, rfl⟩ : ∃ q, fu = q + 1 := ⟨fu - 1, by omega⟩
    have : i = 4 := by omega
    subst this
    rw [fX4_repairedThen_L2, if_pos (show (4 : Int32) ≤ nI 4 from nI_le (a := 4) (b := 4) (Nat.le_refl _) (by omega))]
    exact qM_repairedThen_L n 0 FU σ (by omega) (by have := hR.1.1; show n < 4000; omega) hR hSp
  | succ m ih =>
    intro i fu σ h hf hR hSp
    obtain ⟨fu, rfl⟩ : ∃ q, fu = q + 1 := ⟨fu - 1, by omega⟩
    have hi4 : i < 4 := by omega
    rw [fX4_repairedThen_L2, if_neg (show ¬ (4 : Int32) ≤ nI i from nI_ge (a := i) (b := 4) (by omega) (by omega)), ky_g_s (pr_7 hi4).2, ky_g_s (pr_k4 hi4).2, (pr_7 hi4).1, (pr_k4 hi4).1, ky_bn_s, ky_bn_s, nI_1]
    have hF : pF (fun k => k = 12) σ (ky_u1 σ 12 i (σ.1 8 (7 + i))) := pF.u1 rfl
    obtain ⟨σ', r1, r2⟩ := ih (i + 1) fu _ (by omega) (by omega) (by rw [hF.1 8 (by decide)]; exact hR) (fun k hk => by
      rw [ky_u1_row]
      unfold upd
      by_cases e : k = i
      · subst e
        rw [if_pos rfl]
        exact hR.2.1 7 k hi4
      · rw [if_neg e]
        exact hSp k (by omega))
    exact ⟨σ', r1, hF.tr r2⟩
theorem qM_repairedThen (hR : pR n Y (σ.1 8)) : ∃ σ', fX4_repairedThen σ = some ((pRS Y n).2, σ') ∧ pF (fun k => k = 12) σ σ' :=
  qM_repairedThen_L2 4 0 FU σ (by omega) (by decide) hR (fun k hk => by omega)
end PFS
