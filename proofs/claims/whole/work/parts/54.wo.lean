/-! ===== pure: the hired share and its bits ===== -/
section WO
variable {n : Nat} {σ : ky_St} {s : Nat} {Y : pY} {Z : Nat → Int32}
def pSha (n j : Nat) : UInt64 := FP.ddiv (FP.i2d (nI j)) (FP.i2d (nI n))
def pBs : Nat → UInt64 → Int64 → Int32 → Option Int64
  | 0, _, _, _ => none
  | fu + 1, x2, x4, x6 =>
    if (1000 : Int32) ≤ x6 then (
      ky_g ((FP.dsub x2 FP.dconst1) &&& 0x7fffffffffffffff ≤ 0x7ff0000000000000) (
      ky_g ((FP.dmul (FP.dsub x2 FP.dconst1) (4841369599423283200 : UInt64)) &&& 0x7fffffffffffffff ≤ 0x7ff0000000000000) (
      some ((x4 <<< ((52 : Int32).toInt64 &&& 63)) + (FP.d2l (FP.dmul (FP.dsub x2 FP.dconst1) (4841369599423283200 : UInt64))))))) else (
    if 0 ≤ (Op.cmpValue (FP.dcmp x2 FP.dconst1) .g) then (
      ky_g ((FP.dsub x2 FP.dconst1) &&& 0x7fffffffffffffff ≤ 0x7ff0000000000000) (
      ky_g ((FP.dmul (FP.dsub x2 FP.dconst1) (4841369599423283200 : UInt64)) &&& 0x7fffffffffffffff ≤ 0x7ff0000000000000) (
      some ((x4 <<< ((52 : Int32).toInt64 &&& 63)) + (FP.d2l (FP.dmul (FP.dsub x2 FP.dconst1) (4841369599423283200 : UInt64))))))) else (
      ky_g ((FP.dmul x2 (4611686018427387904 : UInt64)) &&& 0x7fffffffffffffff ≤ 0x7ff0000000000000) (
      pBs fu (FP.dmul x2 (4611686018427387904 : UInt64)) (x4 - (1 : Int64)) (x6 + 1))))
def pBi2 (d : UInt64) : Option Int64 := if 0 < (Op.cmpValue (FP.dcmp d FP.dconst0) .l) then pBs FU d 1023 0 else some 0
theorem pBs_L : ∀ fu d a i (σ : ky_St), fX3_bitsOfShare_L18 fu d a i σ = (pBs fu d a i).map (fun r => (r, σ))
  | 0, _, _, _, _ => rfl
  | fu + 1, d, a, i, σ => by
    unfold fX3_bitsOfShare_L18 pBs
    have g : ∀ (c : Prop) [Decidable c] (x : Option Int64), ky_g c (x.map (fun r => (r, σ))) = (ky_g c x).map (fun r => (r, σ)) := by
      intro c _ x
      unfold ky_g
      split <;> rfl
    split
    · rw [← g, ← g]
      rfl
    · split
      · rw [← g, ← g]
        rfl
      · rw [← g, ← pBs_L fu _ _ _ σ]
        rfl
theorem pBi2_e (d : UInt64) (σ : ky_St) : fX3_bitsOfShare d σ = (pBi2 d).map (fun r => (r, σ)) := by
  unfold fX3_bitsOfShare pBi2
  split
  · exact pBs_L FU d 1023 0 σ
  · rfl
def pOkd (d : UInt64) : Bool := decide (d &&& 0x7fffffffffffffff ≤ 0x7ff0000000000000) && (decide (Op.cmpValue (FP.dcmp d d) .l = 0) && decide (pBi2 d = some d.toInt64))
theorem pOkd_e {d : UInt64} (h : pOkd d = true) : (d &&& 0x7fffffffffffffff ≤ 0x7ff0000000000000) ∧ Op.cmpValue (FP.dcmp d d) .l = 0 ∧ pBi2 d = some d.toInt64 := by
  unfold pOkd at h
  rw [Bool.and_eq_true, Bool.and_eq_true] at h
  exact ⟨of_decide_eq_true h.1, of_decide_eq_true h.2.1, of_decide_eq_true h.2.2⟩
theorem pSha_all : (List.range 25).all (fun n => (List.range 25).all fun j => n == 0 || (Nat.blt n j || pOkd (pSha n j))) = true := by decide +kernel
theorem pSha_ok {n j : Nat} (h1 : 1 ≤ n) (hn : n ≤ 24) (hj : j ≤ n) : ((pSha n j) &&& 0x7fffffffffffffff ≤ 0x7ff0000000000000) ∧ Op.cmpValue (FP.dcmp (pSha n j) (pSha n j)) .l = 0 ∧ pBi2 (pSha n j) = some (pSha n j).toInt64 := by
  have h := pSha_all
  rw [List.all_eq_true] at h
  have h2 := h n (List.mem_range.mpr (by omega))
  rw [List.all_eq_true] at h2
  have h3 := h2 j (List.mem_range.mpr (by omega))
  have a : (n == 0) = false := by simp; omega
  have b : Nat.blt n j = false := by
    cases e : Nat.blt n j with
    | false => rfl
    | true => rw [Nat.blt_eq] at e; omega
  rw [a, b, Bool.false_or, Bool.false_or] at h3
  exact pOkd_e h3
theorem pSha_0 : pOkd FP.dconst0 = true := by decide +kernel
theorem pIn_n : ∀ n, n < 2 ^ 31 → ∃ k, k ≤ n ∧ pIn Y n = nI k
  | 0, _ => ⟨0, by omega, rfl⟩
  | n + 1, h => by
    obtain ⟨k, h1, h2⟩ := pIn_n n (by omega)
    have e : pIn Y (n + 1) = pIn Y n + bI (Y 2 n = -1) := rfl
    by_cases hw : Y 2 n = -1
    · refine ⟨k + 1, by omega, ?_⟩
      rw [e, h2, bI_t hw, nI_1]
    · refine ⟨k, by omega, ?_⟩
      rw [e, h2, bI_f hw, Int32.add_zero]
/-- the share -/
def pShr (Y : pY) (n : Nat) : UInt64 := if n = 0 then FP.dconst0 else FP.ddiv (FP.i2d (nI n - pIn Y n)) (FP.i2d (nI n))
theorem pShr_ok (hn : n ≤ 24) : ((pShr Y n) &&& 0x7fffffffffffffff ≤ 0x7ff0000000000000) ∧ Op.cmpValue (FP.dcmp (pShr Y n) (pShr Y n)) .l = 0 ∧ pBi2 (pShr Y n) = some (pShr Y n).toInt64 := by
  unfold pShr
  by_cases h : n = 0
  · rw [if_pos h]
    exact pOkd_e pSha_0
  · rw [if_neg h]
    obtain ⟨k, h1, h2⟩ := @pIn_n Y n (by omega)
    have e : nI n - nI k = nI (n - k) := by
      have : nI n = nI (n - k) + nI k := by rw [nI_add, Nat.sub_add_cancel h1]
      rw [this]
      grind
    rw [h2, e]
    exact pSha_ok (by omega) hn (by omega)
theorem qC_hiredShare (hV : pV n (pB σ 20)) : fX3_hiredShare σ = some (pShr (pB σ 20) n, σ) := by
  have hn := hV.1
  have ok := pShr_ok (Y := pB σ 20) hn
  have h0 : σ.1 20 0 = nI n := hV.2.1
  unfold fX3_hiredShare
  rw [ky_bn_s, h0]
  by_cases h : n = 0
  · rw [if_neg (by rw [h]; decide)]
    unfold pShr
    rw [if_pos h]
  · unfold pShr at ok
    rw [if_neg h] at ok
    rw [if_pos (show (1 : Int32) ≤ nI n from nI_le (a := 1) (by omega) (by omega)), ky_bd_s (qC_inYard hn h0), ky_g_s ok.1]
    unfold pShr
    rw [if_neg h]
theorem qM_share (hR : pR n Y (σ.1 8)) : fX4_share σ = some (pShr Y n, σ) := by
  have hn := hR.1.1
  have ok := pShr_ok (Y := Y) hn
  unfold fX4_share
  rw [ky_g_s (by decide), qM_z3 hR]
  by_cases h : n = 0
  · rw [if_pos (by rw [h]; rfl)]
    unfold pShr
    rw [if_pos h]
  · unfold pShr at ok
    rw [if_neg h] at ok
    rw [if_neg (show ¬ nI n = 0 from pLit (b := 0) h (by omega) (by omega)), ky_g_s (by decide), ky_bd_s (qM_inYard0 hR), ky_g_s (by decide), qM_z3 hR, ky_g_s ok.1]
    unfold pShr
    rw [if_neg h]
theorem qC_bits (hn : n ≤ 24) : fX3_bitsOfShare (pShr Y n) σ = some ((pShr Y n).toInt64, σ) := by
  rw [pBi2_e, (pShr_ok hn).2.2]
  rfl
theorem qM_bits (hn : n ≤ 24) : fJxe99ae_doubleToLongBits_ccdee (pShr Y n) σ = some ((pShr Y n).toInt64, σ) := by
  unfold fJxe99ae_doubleToLongBits_ccdee fJxe99ae_isNaN_b9ae7
  rw [if_pos (pShr_ok hn).2.1, ky_bd_s rfl, if_pos rfl]
theorem law_hiredShare (hS : pSim σ) : ∃ σ1 σ2 v, fX3_hiredShare σ = some (v, σ1) ∧ fX4_hiredShare σ1 = some (v, σ2) ∧ Op.cmpValue (FP.dcmp v v) .l = 0 ∧ pSim σ2 ∧ σ2.1 15 = σ.1 15 := by
  obtain ⟨hT, ⟨n, hR⟩, _, _⟩ := id hS
  refine ⟨σ, ky_u1 σ 7 5 0, pShr (pB σ 20) n, qC_hiredShare hR.1, ?_, (pShr_ok hR.1.1).2.1, hS.u75 0, by rw [ky_u1_ne (by decide)]⟩
  unfold fX4_hiredShare
  rw [ky_bn_s, ky_bd_s (qM_share (σ := ky_u1 σ 7 5 0) (hR.u 0))]
end WO
