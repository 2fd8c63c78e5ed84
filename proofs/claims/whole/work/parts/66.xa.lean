/-! ===== pure: the law's loop, whole ===== -/
section XA
theorem loop_end {L i : Nat} (hL : L ≤ 2048) (h : L < i + 4) (hi : i < 4096) : Int32.ofNat L - (4 : Int32) < nI i := by
  show nI L - nI 4 < nI i
  rw [Int32.lt_iff_toInt_lt, pk_sub_toInt (by omega) (by omega), nI_toInt (by omega)]
  omega
theorem loop_on {L i : Nat} (hL : L ≤ 2048) (h : i + 4 ≤ L) : ¬ Int32.ofNat L - (4 : Int32) < nI i := by
  show ¬ nI L - nI 4 < nI i
  rw [Int32.lt_iff_toInt_lt, pk_sub_toInt (by omega) (by omega), nI_toInt (by omega)]
  omega
theorem loop_L {L : Nat} (hL : L ≤ 2048) : ∀ (m i fu : Nat) (σ : ky_St), L + 4 < i + 4 * m → i < 4096 → m ≤ fu → i ≤ L + 3 → pSim σ → ∃ σ', fL_law_L23 L fu (nI i) σ = some (1, σ') := by
  intro m
  induction m with
  | zero =>
    intro i fu σ h1 h2 h3 h4
    exact absurd h1 (by omega)
  | succ m ih =>
    intro i fu σ h1 h2 h3 h4 hS
    obtain ⟨fu, rfl⟩ : ∃ q, fu = q + 1 := ⟨fu - 1, by omega⟩
    rw [fL_law_L23]
    by_cases e : L < i + 4
    · rw [if_pos (loop_end hL e h2)]
      exact ⟨σ, rfl⟩
    · have cont : ∀ F : Option (Int32 × ky_St), (∃ σ2, F = fL_law_L23 L fu (nI i + 4) σ2 ∧ pSim σ2 ∧ σ2.1 15 = σ.1 15) → ∃ σ', F = some (1, σ') := by
        rintro F ⟨σ2, rfl, c2, _⟩
        rw [show nI i + (4 : Int32) = nI (i + 4) from nI_add i 4]
        exact ih (i + 4) fu σ2 (by omega) (by omega) (by omega) (by omega) c2
      have g0 : ¬ (nI i < 0 ∨ L ≤ (nI i).toNatClampNeg) := nI_in (by omega) (by omega)
      have g1 : ¬ ((nI i + (1 : Int32)) < 0 ∨ L ≤ (nI i + (1 : Int32)).toNatClampNeg) := by
        rw [nI_1]
        exact nI_in (by omega) (by omega)
      have g2 : ¬ ((nI i + (2 : Int32)) < 0 ∨ L ≤ (nI i + (2 : Int32)).toNatClampNeg) := by
        rw [show nI i + (2 : Int32) = nI (i + 2) from nI_add i 2]
        exact nI_in (by omega) (by omega)
      have g3 : ¬ ((nI i + (3 : Int32)) < 0 ∨ L ≤ (nI i + (3 : Int32)).toNatClampNeg) := by
        rw [show nI i + (3 : Int32) = nI (i + 3) from nI_add i 3]
        exact nI_in (by omega) (by omega)
      rw [if_neg (loop_on hL (by omega)), ky_g_s g0, ky_bn_s]
      generalize (σ.1 15 (nI i).toNatClampNeg) &&& (31 : Int32) = v
      by_cases c0 : v = 0
      · rw [if_pos c0]
        exact cont _ (case_buySets hS _ _ g1)
      rw [if_neg c0]
      by_cases c1 : v = 1
      · rw [if_pos c1]
        exact cont _ (case_buySpare hS _ _ g1 g2)
      rw [if_neg c1]
      by_cases c2 : v = 2
      · rw [if_pos c2]
        exact cont _ (case_repair hS _ _ g1)
      rw [if_neg c2]
      by_cases c3 : v = 3
      · rw [if_pos c3]
        exact cont _ (case_damage hS _ _ g1 g2 g3)
      rw [if_neg c3]
      by_cases c4 : v = 4
      · rw [if_pos c4]
        exact cont _ (case_swap hS _ _ g1 g2)
      rw [if_neg c4]
      by_cases c5 : v = 5
      · rw [if_pos c5]
        exact cont _ (case_hire hS _ _ g1 g2)
      rw [if_neg c5]
      by_cases c6 : v = 6
      · rw [if_pos c6]
        exact cont _ (case_moveOn hS _ _ g1 g2)
      rw [if_neg c6]
      by_cases c7 : v = 7
      · rw [if_pos c7]
        exact cont _ (case_bring hS _ _ g1)
      rw [if_neg c7]
      by_cases c8 : v = 8
      · rw [if_pos c8]
        exact cont _ (case_bringShort hS _ _ g1 g2 g3)
      rw [if_neg c8]
      by_cases c9 : v = 9
      · rw [if_pos c9]
        exact cont _ (case_pay hS _ _ g1 g2)
      rw [if_neg c9]
      by_cases c10 : v = 10
      · rw [if_pos c10]
        exact cont _ (case_pass hS _ _ g1)
      rw [if_neg c10]
      by_cases c11 : v = 11
      · rw [if_pos c11]
        exact cont _ (case_set hS _ _ g1 g2)
      rw [if_neg c11]
      by_cases c12 : v = 12
      · rw [if_pos c12]
        exact cont _ (case_append hS _ _ g1)
      rw [if_neg c12]
      by_cases c13 : v = 13
      · rw [if_pos c13]
        exact cont _ (case_clearBuffer hS _ _)
      rw [if_neg c13]
      by_cases c14 : v = 14
      · rw [if_pos c14]
        exact cont _ (case_firstError hS _ _)
      rw [if_neg c14]
      by_cases c15 : v = 15
      · rw [if_pos c15]
        exact cont _ (case_run hS _ _)
      rw [if_neg c15]
      by_cases c16 : v = 16
      · rw [if_pos c16]
        exact cont _ (case_undo hS _ _)
      rw [if_neg c16]
      by_cases c17 : v = 17
      · rw [if_pos c17]
        exact cont _ (case_bundle hS _ _ g1 g2)
      rw [if_neg c17]
      by_cases c18 : v = 18
      · rw [if_pos c18]
        exact cont _ (case_site hS _ _ g1 g2)
      rw [if_neg c18]
      by_cases c19 : v = 19
      · rw [if_pos c19]
        exact cont _ (case_parts hS _ _ g1 g2)
      rw [if_neg c19]
      by_cases c20 : v = 20
      · rw [if_pos c20]
        exact cont _ (case_count hS _ _ g1)
      rw [if_neg c20]
      by_cases c21 : v = 21
      · rw [if_pos c21]
        exact cont _ (case_setting hS _ _ g1)
      rw [if_neg c21]
      by_cases c22 : v = 22
      · rw [if_pos c22]
        exact cont _ (case_billIn hS _ _ g1 g2)
      rw [if_neg c22]
      by_cases c23 : v = 23
      · rw [if_pos c23]
        exact cont _ (case_splitOn hS _ _ g1 g2 g3)
      rw [if_neg c23]
      by_cases c24 : v = 24
      · rw [if_pos c24]
        exact cont _ (case_oldest hS _ _ g1)
      rw [if_neg c24]
      by_cases c25 : v = 25
      · rw [if_pos c25]
        exact cont _ (case_ifRepaired hS _ _)
      rw [if_neg c25]
      by_cases c26 : v = 26
      · rw [if_pos c26]
        exact cont _ (case_hiredShare hS _ _)
      rw [if_neg c26]
      by_cases c27 : v = 27
      · rw [if_pos c27]
        exact cont _ (case_digest hS _ _)
      rw [if_neg c27]
      rw [ky_bn_s]
      exact cont _ ⟨σ, rfl, hS, rfl⟩
/-- from a right start, every script is answered with 1 -/
theorem loop_ok {L : Nat} (hL : L ≤ 2048) {σ : ky_St} (hS : pSim σ) : ∃ σ', fL_law_L23 L 514 0 σ = some (1, σ') := loop_L hL 514 0 514 σ (by omega) (by omega) (by omega) (by omega) hS
end XA
