/-! ===== pure: the hired share and its bits ===== -/
section WO
variable {n : Nat} {σ : ky_St} {s : Nat} {Y : pY} {Z : Nat → Int32}
def pSha (n j : Nat) : UInt64 := FP.ddiv (FP.i2d (nI j)) (FP.i2d (nI n))
def pBs : Nat → UInt64 → Int64 → Int32 → Option Int64
  | 0, _, _, _ => none
  | fu + 1, x2, x4, x6 =>
    if (1000 : Int32) ≤ x6 then (
      ky_g ((FP.dsub x2 FP.dconst1) &&& 0x7fffffffffffffff ≤ 0x7ff0000000000000) (
      ky_g ((FP.dmul (FP.dsub x2 FP.dconst1) (4841369599423283200 : UInt64)) &&& 0x7fffffffffffffff ≤ 0x7ff0000000000000) (
      some ((x4 <<< ((52 : Int32).toInt64 &&& 63)) + (FP.d2l (FP.dmul (FP.dsub x2 FP.dconst1) (4841369599423283200 : UInt64))))))) else (
    if 0 ≤ (Op.cmpValue (FP.dcmp x2 FP.dconst1) .g) then (
      ky_g ((FP.dsub x2 FP.dconst1) &&& 0x7fffffffffffffff ≤ 0x7ff0000000000000) (
      ky_g ((FP.dmul (FP.dsub x2 FP.dconst1) (4841369599423283200 : UInt64)) &&& 0x7fffffffffffffff ≤ 0x7ff0000000000000) (
      some ((x4 <<< ((52 : Int32).toInt64 &&& 63)) + (FP.d2l (FP.dmul (FP.dsub x2 FP.dconst1) (4841369599423283200 : UInt64))))))) else (
      ky_g ((FP.dmul x2 (4611686018427387904 : UInt64)) &&& 0x7fffffffffffffff ≤ 0x7ff0000000000000) (
      pBs fu (FP.dmul x2 (4611686018427387904 : UInt64)) (x4 - (1 : Int64)) (x6 + 1))))
def pBi2 (d : UInt64) : Option Int64 := if 0 < (Op.cmpValue (FP.dcmp d FP.dconst0) .l) then pBs FU d 1023 0 else some 0
theorem pBs_L : ∀ fu d a i (σ : ky_St), fX3_bitsOfShare_L18 fu d a i σ = (pBs fu d a i).map (fun r => (r, σ))
  | 0, _, _, _, _ => rfl
  | fu + 1, d, a, i, σ => by
    unfold fX3_bitsOfShare_L18 pBs
    have g : ∀ (c : Prop) [Decidable c] (x : Option Int64), ky_g c (x.map (fun r => (r, σ))) = (ky_g c x).map (fun r => (r, σ)) := by
      intro c _ x
      unfold ky_g
      split <;> rfl
    split
    · rw [← g, ← g]
      rfl
    · split
      · rw [← g, ← g]
        rfl
      · rw [← g, ← pBs_L fu _ _ _ σ]
        rfl
theorem pBi2_e (d : UInt64) (σ : ky_St) : fX3_bitsOfShare d σ = (pBi2 d).map (fun r => (r, σ)) := by
  unfold fX3_bitsOfShare pBi2
  split
  · exact pBs_L FU d 1023 0 σ
  · rfl
theorem pSha_ok : ∀ n, n < 25 → ∀ j, j < 25 → 1 ≤ n → j ≤ n → ((pSha n j) &&& 0x7fffffffffffffff ≤ 0x7ff0000000000000) ∧ Op.cmpValue (FP.dcmp (pSha n j) (pSha n j)) .l = 0 ∧ pBi2 (pSha n j) = some (pSha n j).toInt64 := by decide +kernel
theorem pSha_0 : Op.cmpValue (FP.dcmp FP.dconst0 FP.dconst0) .l = 0 ∧ pBi2 FP.dconst0 = some FP.dconst0.toInt64 := by decide +kernel
end WO
