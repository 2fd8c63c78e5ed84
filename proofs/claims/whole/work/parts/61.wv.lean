/-! ===== pure: the class's reader, an order at a time ===== -/
section WV
variable {σ : ky_St} {t p q lo hi v w : Nat} {r : Nat → Nat} {c f s : Int32}
theorem cT_2 (q : Nat) : ky_u1 (cT σ p c f s) 3 2 (nI q) = cT σ q c f s := by
  refine Prod.ext (funext fun a => funext fun b => ?_) rfl
  show (if a = 3 ∧ b = 2 then nI q else (cT σ p c f s).1 a b) = (cT σ q c f s).1 a b
  unfold cT
  by_cases h : a = 3
  · subst h
    by_cases h2 : b = 2
    · subst h2
      rfl
    · rw [if_neg (fun q => h2 q.2)]
      show (if b = 2 then nI p else if b = 3 then c else if b = 4 then f else if b = 5 then s else σ.1 3 b) = if b = 2 then nI q else if b = 3 then c else if b = 4 then f else if b = 5 then s else σ.1 3 b
      rw [if_neg h2, if_neg h2]
  · rw [if_neg (fun q => h q.1)]
    show (if a = 3 then _ else σ.1 a) b = (if a = 3 then _ else σ.1 a) b
    rw [if_neg h, if_neg h]
theorem cT_3 (v : Int32) : ky_u1 (cT σ p c f s) 3 3 v = cT σ p v f s := by
  refine Prod.ext (funext fun a => funext fun b => ?_) rfl
  show (if a = 3 ∧ b = 3 then v else (cT σ p c f s).1 a b) = (cT σ p v f s).1 a b
  unfold cT
  by_cases h : a = 3
  · subst h
    by_cases h2 : b = 3
    · subst h2
      rfl
    · rw [if_neg (fun q => h2 q.2)]
      show (if b = 2 then nI p else if b = 3 then c else if b = 4 then f else if b = 5 then s else σ.1 3 b) = if b = 2 then nI p else if b = 3 then v else if b = 4 then f else if b = 5 then s else σ.1 3 b
      rw [if_neg h2, if_neg h2]
  · rw [if_neg (fun q => h q.1)]
    show (if a = 3 then _ else σ.1 a) b = (if a = 3 then _ else σ.1 a) b
    rw [if_neg h, if_neg h]
theorem cT_4 (v : Int32) : ky_u1 (cT σ p c f s) 3 4 v = cT σ p c v s := by
  refine Prod.ext (funext fun a => funext fun b => ?_) rfl
  show (if a = 3 ∧ b = 4 then v else (cT σ p c f s).1 a b) = (cT σ p c v s).1 a b
  unfold cT
  by_cases h : a = 3
  · subst h
    by_cases h2 : b = 4
    · subst h2
      rfl
    · rw [if_neg (fun q => h2 q.2)]
      show (if b = 2 then nI p else if b = 3 then c else if b = 4 then f else if b = 5 then s else σ.1 3 b) = if b = 2 then nI p else if b = 3 then c else if b = 4 then v else if b = 5 then s else σ.1 3 b
      rw [if_neg h2, if_neg h2]
  · rw [if_neg (fun q => h q.1)]
    show (if a = 3 then _ else σ.1 a) b = (if a = 3 then _ else σ.1 a) b
    rw [if_neg h, if_neg h]
theorem cT_5 (v : Int32) : ky_u1 (cT σ p c f s) 3 5 v = cT σ p c f v := by
  refine Prod.ext (funext fun a => funext fun b => ?_) rfl
  show (if a = 3 ∧ b = 5 then v else (cT σ p c f s).1 a b) = (cT σ p c f v).1 a b
  unfold cT
  by_cases h : a = 3
  · subst h
    by_cases h2 : b = 5
    · subst h2
      rfl
    · rw [if_neg (fun q => h2 q.2)]
      show (if b = 2 then nI p else if b = 3 then c else if b = 4 then f else if b = 5 then s else σ.1 3 b) = if b = 2 then nI p else if b = 3 then c else if b = 4 then f else if b = 5 then v else σ.1 3 b
      rw [if_neg h2, if_neg h2]
  · rw [if_neg (fun q => h q.1)]
    show (if a = 3 then _ else σ.1 a) b = (if a = 3 then _ else σ.1 a) b
    rw [if_neg h, if_neg h]
/-- the class's buffer holds these letters -/
def hC (t : Nat) (r : Nat → Nat) (σ : ky_St) : Prop := σ.1 3 1 = nI t ∧ ∀ i, i < t → σ.1 6 i = nI (r i)
/-- the letters -/
def hL (t : Nat) (r : Nat → Nat) : Prop := t ≤ 60 ∧ ∀ i, i < t → 33 ≤ r i ∧ r i ≤ 126
theorem rd_signT (hl : hL t r) (h : hC t r σ) (hp : p < t) : fX2_sign (cT σ p c f s) = some (nI (r p), cT σ p c f s) := by
  have h60 := hl.1
  unfold fX2_sign
  rw [show (cT σ p c f s).1 3 1 = nI t from h.1, show (cT σ p c f s).1 3 2 = nI p from rfl, if_neg (nI_ge hp (by omega)), ky_bd_s (pa_at (k := 6) (N := 60) rfl (show p < 60 by omega) (by omega) _), show (cT σ p c f s).1 6 p = nI (r p) from h.2 p hp]
theorem rd_signE (h : hC t r σ) (ht : t ≤ 60) : fX2_sign (cT σ t c f s) = some (-1, cT σ t c f s) := by
  unfold fX2_sign
  rw [show (cT σ t c f s).1 3 1 = nI t from h.1, show (cT σ t c f s).1 3 2 = nI t from rfl, if_pos (nI_le (Nat.le_refl _) (by omega))]
theorem rd_digT (hl : hL t r) (h : hC t r σ) (hp : p < t) (hd : 48 ≤ r p ∧ r p ≤ 57) : fX2_digit (cT σ p c f s) = some (nI (r p - 48), cT σ p c f s) := by
  have h60 := hl.1
  unfold fX2_digit
  rw [show (cT σ p c f s).1 3 1 = nI t from h.1, show (cT σ p c f s).1 3 2 = nI p from rfl, if_neg (nI_ge hp (by omega)), ky_bd_s (pa_at (k := 6) (N := 60) rfl (show p < 60 by omega) (by omega) _), show (cT σ p c f s).1 6 p = nI (r p) from h.2 p hp, if_neg (show ¬ nI (r p) < (48 : Int32) from nI_nlt (b := 48) hd.1 (by omega)), if_neg (show ¬ (57 : Int32) < nI (r p) from nI_nlt (a := 57) hd.2 (by omega)), show nI (r p) - (48 : Int32) = nI (r p - 48) from pk_sub (b := 48) hd.1]
theorem rd_digF (hl : hL t r) (h : hC t r σ) (hp : p ≤ t) (hd : p < t → ¬ (48 ≤ r p ∧ r p ≤ 57)) : fX2_digit (cT σ p c f s) = some (-1, cT σ p c f s) := by
  have h60 := hl.1
  unfold fX2_digit
  rw [show (cT σ p c f s).1 3 1 = nI t from h.1, show (cT σ p c f s).1 3 2 = nI p from rfl]
  by_cases e : p < t
  · have hr := hl.2 p e
    rw [if_neg (nI_ge e (by omega)), ky_bd_s (pa_at (k := 6) (N := 60) rfl (show p < 60 by omega) (by omega) _), show (cT σ p c f s).1 6 p = nI (r p) from h.2 p e]
    by_cases e2 : r p < 48
    · rw [if_pos (show nI (r p) < (48 : Int32) from nI_lt (b := 48) e2 (by omega))]
    · rw [if_neg (show ¬ nI (r p) < (48 : Int32) from nI_nlt (b := 48) (by omega) (by omega)), if_pos (show (57 : Int32) < nI (r p) from nI_lt (a := 57) (by have := hd e; omega) (by omega))]
  · rw [if_pos (nI_le (by omega) (by omega)), if_pos (by decide)]
theorem rd_rsT (hl : hL t r) (h : hC t r σ) (hp : p < t) (hw : r p = w) {W : Int32} (eW : W = nI w) : fX2_readSign W (cT σ p c f s) = some (1, cT σ (p + 1) c f s) := by
  subst eW
  unfold fX2_readSign
  rw [ky_bd_s (rd_signT hl h hp), if_pos (by rw [hw]), show (cT σ p c f s).1 3 2 = nI p from rfl, nI_1, cT_2, ky_bn_s]
theorem rd_rsF (hl : hL t r) (h : hC t r σ) (hp : p ≤ t) (hw : p < t → r p ≠ w) (hw2 : w < 2 ^ 31) {W : Int32} (eW : W = nI w) : fX2_readSign W (cT σ p c f s) = some (0, cT σ p c f s) := by
  subst eW
  have h60 := hl.1
  unfold fX2_readSign
  by_cases e : p < t
  · have hr := hl.2 p e
    rw [ky_bd_s (rd_signT hl h e), if_neg (pLit (hw e) (by omega) hw2)]
  · have : p = t := by omega
    subst this
    rw [ky_bd_s (rd_signE h h60), if_neg (fun z => nI_m1 hw2 z.symm)]
/-- no number of the range begins here -/
def nF (t : Nat) (r : Nat → Nat) (p lo hi : Nat) : Prop := p < t → ¬ ((48 ≤ r p ∧ r p ≤ 57) ∧ lo ≤ r p - 48 ∧ r p - 48 ≤ hi)
/-- a number of one digit -/
def n1 (t : Nat) (r : Nat → Nat) (p lo hi v : Nat) : Prop := p < t ∧ (48 ≤ r p ∧ r p ≤ 57) ∧ v = r p - 48 ∧ lo ≤ v ∧ v ≤ hi ∧ (p + 1 < t → ¬ ((48 ≤ r (p + 1) ∧ r (p + 1) ≤ 57) ∧ v ≠ 0 ∧ 10 * v + (r (p + 1) - 48) ≤ hi))
/-- a number of two digits -/
def n2 (t : Nat) (r : Nat → Nat) (p lo hi v : Nat) : Prop := p + 1 < t ∧ (48 ≤ r p ∧ r p ≤ 57) ∧ (48 ≤ r (p + 1) ∧ r (p + 1) ≤ 57) ∧ r p ≠ 48 ∧ lo ≤ r p - 48 ∧ r p - 48 ≤ hi ∧ v = 10 * (r p - 48) + (r (p + 1) - 48) ∧ v ≤ hi
def nQ (t : Nat) (r : Nat → Nat) (p lo hi v p' : Nat) : Prop := (p' = p + 1 ∧ n1 t r p lo hi v) ∨ (p' = p + 2 ∧ n2 t r p lo hi v)
theorem n_tri (t : Nat) (r : Nat → Nat) (p lo hi : Nat) : nF t r p lo hi ∨ ∃ v p', nQ t r p lo hi v p' := by
  by_cases h1 : p < t ∧ ((48 ≤ r p ∧ r p ≤ 57) ∧ lo ≤ r p - 48 ∧ r p - 48 ≤ hi)
  · refine Or.inr ?_
    by_cases h2 : p + 1 < t ∧ ((48 ≤ r (p + 1) ∧ r (p + 1) ≤ 57) ∧ r p - 48 ≠ 0 ∧ 10 * (r p - 48) + (r (p + 1) - 48) ≤ hi)
    · exact ⟨10 * (r p - 48) + (r (p + 1) - 48), p + 2, Or.inr ⟨rfl, h2.1, h1.2.1, h2.2.1, by omega, h1.2.2.1, h1.2.2.2, rfl, h2.2.2.2⟩⟩
    · exact ⟨r p - 48, p + 1, Or.inl ⟨rfl, h1.1, h1.2.1, rfl, h1.2.2.1, h1.2.2.2, fun a b => h2 ⟨a, b⟩⟩⟩
  · exact Or.inl (fun a b => h1 ⟨a, b⟩)
theorem nQ_le {p' : Nat} (h : nQ t r p lo hi v p') : p + 1 ≤ p' ∧ p' ≤ t ∧ v ≤ hi := by
  rcases h with ⟨rfl, h⟩ | ⟨rfl, h⟩
  · exact ⟨Nat.le_refl _, h.1, h.2.2.2.2.1⟩
  · exact ⟨by omega, h.1, h.2.2.2.2.2.2.2⟩
theorem nQ_lo {p' : Nat} (h : nQ t r p lo hi v p') (h1 : lo ≤ 1) : lo ≤ v := by
  rcases h with ⟨rfl, h⟩ | ⟨rfl, h⟩
  · exact h.2.2.2.1
  · have := h.2.2.2.1
    have := h.2.2.2.2.2.2.1
    have := h.2.1
    omega
theorem rd_numF (hl : hL t r) (h : hC t r σ) (hp : p ≤ t) (hn : nF t r p lo hi) (hlo : lo < 100) (hhi : hi < 100) {A B : Int32} (eA : A = nI lo) (eB : B = nI hi) : fX2_readNumber A B (cT σ p c f s) = some (-1, cT σ p c f s) := by
  subst eA
  subst eB
  unfold fX2_readNumber
  by_cases d : p < t ∧ (48 ≤ r p ∧ r p ≤ 57)
  · rw [ky_bd_s (rd_digT hl h d.1 d.2), if_neg (nI_m1 (by omega))]
    by_cases e : r p - 48 < lo
    · rw [if_pos (nI_lt e (by omega))]
    · rw [if_neg (nI_nlt (by omega) (by omega)), if_neg (nI_ge (by have := hn d.1; omega) (by omega))]
  · rw [ky_bd_s (rd_digF hl h hp (fun a b => d ⟨a, b⟩)), if_pos rfl]
theorem nI_z0 {a : Nat} (h : a = 0) : nI a = 0 := by subst h; rfl
theorem rd_num (hl : hL t r) (h : hC t r σ) {p' : Nat} (hn : nQ t r p lo hi v p') (hlo : lo < 100) (hhi : hi < 100) {A B : Int32} (eA : A = nI lo) (eB : B = nI hi) : fX2_readNumber A B (cT σ p c f s) = some (nI v, cT σ p' c f s) := by
  subst eA
  subst eB
  unfold fX2_readNumber
  rcases hn with ⟨rfl, a1, a2, rfl, a4, a5, a6⟩ | ⟨rfl, a1, a2, a3, a4, a5, a6, rfl, a8⟩
  · rw [ky_bd_s (rd_digT hl h a1 a2), if_neg (nI_m1 (by omega)), if_neg (nI_nlt a4 (by omega)), if_pos (nI_le a5 (by omega)), show (cT σ p c f s).1 3 2 = nI p from rfl, nI_1, cT_2, ky_bn_s]
    by_cases d : p + 1 < t ∧ (48 ≤ r (p + 1) ∧ r (p + 1) ≤ 57)
    · rw [ky_bd_s (rd_digT hl h d.1 d.2)]
      by_cases e : r p - 48 = 0
      · rw [if_pos (nI_z0 e)]
      · rw [if_neg (nI_ne0 (by omega) (by omega)), if_neg (nI_m1 (by omega)), show (10 : Int32) = nI 10 from rfl, pk_mul, nI_add, if_neg (nI_ge (by have := a6 d.1; omega) (by omega))]
    · rw [ky_bd_s (rd_digF hl h (by omega) (fun a b => d ⟨a, b⟩))]
      by_cases e : r p - 48 = 0
      · rw [if_pos (nI_z0 e)]
      · rw [if_neg (nI_ne0 (by omega) (by omega)), if_pos rfl]
  · rw [ky_bd_s (rd_digT hl h (by omega) a2), if_neg (nI_m1 (by omega)), if_neg (nI_nlt a5 (by omega)), if_pos (nI_le a6 (by omega)), show (cT σ p c f s).1 3 2 = nI p from rfl, nI_1, cT_2, ky_bn_s, ky_bd_s (rd_digT hl h a1 a3), if_neg (nI_ne0 (by omega) (by omega)), if_neg (nI_m1 (by omega)), show (10 : Int32) = nI 10 from rfl, pk_mul, nI_add, if_pos (nI_le (by omega) (by omega)), show (cT σ (p + 1) c f s).1 3 2 = nI (p + 1) from rfl, nI_1, cT_2, ky_bn_s, Nat.mul_comm (r p - 48) 10]
section PR
variable {lo2 hi2 v2 p1 p2 : Nat} {A B W C D : Int32}
theorem rd_pair0 (hl : hL t r) (h : hC t r σ) (hp : p ≤ t) (hn : nF t r p lo hi) (hlo : lo < 100) (hhi : hi < 100) (eA : A = nI lo) (eB : B = nI hi) : fX2_readPair A B W C D (cT σ p c f s) = some (0, cT σ p c (-1) s) := by
  unfold fX2_readPair
  rw [ky_bd_s (rd_numF hl h hp hn hlo hhi eA eB), cT_4, ky_bn_s, if_pos (show (cT σ p c (-1) s).1 3 4 = -1 from rfl)]
theorem rd_pair1 (hl : hL t r) (h : hC t r σ) (hn : nQ t r p lo hi v p1) (hlo : lo < 100) (hhi : hi < 100) (eA : A = nI lo) (eB : B = nI hi) (hw : p1 < t → r p1 ≠ w) (hw2 : w < 2 ^ 31) (eW : W = nI w) : fX2_readPair A B W C D (cT σ p c f s) = some (0, cT σ p1 c (nI v) s) := by
  have hv := nQ_le hn
  unfold fX2_readPair
  rw [ky_bd_s (rd_num hl h hn hlo hhi eA eB), cT_4, ky_bn_s, show (cT σ p1 c (nI v) s).1 3 4 = nI v from rfl, if_neg (nI_m1 (by omega)), ky_bd_s (rd_rsF hl h hv.2.1 hw hw2 eW), if_pos rfl]
theorem rd_pair2 (hl : hL t r) (h : hC t r σ) (hn : nQ t r p lo hi v p1) (hlo : lo < 100) (hhi : hi < 100) (eA : A = nI lo) (eB : B = nI hi) (h1 : p1 < t) (hw : r p1 = w) (eW : W = nI w) (hn2 : nF t r (p1 + 1) lo2 hi2) (hlo2 : lo2 < 100) (hhi2 : hi2 < 100) (eC : C = nI lo2) (eD : D = nI hi2) : fX2_readPair A B W C D (cT σ p c f s) = some (0, cT σ (p1 + 1) c (nI v) (-1)) := by
  have hv := nQ_le hn
  unfold fX2_readPair
  rw [ky_bd_s (rd_num hl h hn hlo hhi eA eB), cT_4, ky_bn_s, show (cT σ p1 c (nI v) s).1 3 4 = nI v from rfl, if_neg (nI_m1 (by omega)), ky_bd_s (rd_rsT hl h h1 hw eW), if_neg (by decide), ky_bd_s (rd_numF hl h h1 hn2 hlo2 hhi2 eC eD), cT_5, ky_bn_s, if_pos (show (cT σ (p1 + 1) c (nI v) (-1)).1 3 5 = -1 from rfl)]
theorem rd_pair3 (hl : hL t r) (h : hC t r σ) (hn : nQ t r p lo hi v p1) (hlo : lo < 100) (hhi : hi < 100) (eA : A = nI lo) (eB : B = nI hi) (h1 : p1 < t) (hw : r p1 = w) (eW : W = nI w) (hn2 : nQ t r (p1 + 1) lo2 hi2 v2 p2) (hlo2 : lo2 < 100) (hhi2 : hi2 < 100) (eC : C = nI lo2) (eD : D = nI hi2) : fX2_readPair A B W C D (cT σ p c f s) = some (1, cT σ p2 c (nI v) (nI v2)) := by
  have hv := nQ_le hn
  have hv2 := nQ_le hn2
  unfold fX2_readPair
  rw [ky_bd_s (rd_num hl h hn hlo hhi eA eB), cT_4, ky_bn_s, show (cT σ p1 c (nI v) s).1 3 4 = nI v from rfl, if_neg (nI_m1 (by omega)), ky_bd_s (rd_rsT hl h h1 hw eW), if_neg (by decide), ky_bd_s (rd_num hl h hn2 hlo2 hhi2 eC eD), cT_5, ky_bn_s, show (cT σ p2 c (nI v) (nI v2)).1 3 5 = nI v2 from rfl, if_neg (nI_m1 (by omega))]
end PR
/-- the class's reader, from its first letter on -/
theorem rd_oE (h : hC t r σ) (ht : t ≤ 60) : fX2_readOrder (cT σ t c f s) = some (0, cT σ t (-1) f s) := by
  unfold fX2_readOrder
  rw [ky_bd_s (rd_signE h ht), cT_3, ky_bn_s, show (cT σ t (-1) f s).1 3 3 = -1 from rfl, ky_bn_s, if_neg (by decide), if_neg (by decide), if_neg (by decide), if_neg (by decide)]
theorem rd_oN (hl : hL t r) (h : hC t r σ) (hp : p < t) (hr : r p ≠ 98 ∧ r p ≠ 100 ∧ r p ≠ 104 ∧ r p ≠ 109) : fX2_readOrder (cT σ p c f s) = some (0, cT σ p (nI (r p)) f s) := by
  have hb := hl.2 p hp
  unfold fX2_readOrder
  rw [ky_bd_s (rd_signT hl h hp), cT_3, ky_bn_s, show (cT σ p (nI (r p)) f s).1 3 3 = nI (r p) from rfl, ky_bn_s, if_neg (show ¬ nI (r p) = (98 : Int32) from pLit (b := 98) hr.1 (by omega) (by omega)), if_neg (show ¬ nI (r p) = (100 : Int32) from pLit (b := 100) hr.2.1 (by omega) (by omega)), if_neg (show ¬ nI (r p) = (104 : Int32) from pLit (b := 104) hr.2.2.1 (by omega) (by omega)), if_neg (show ¬ nI (r p) = (109 : Int32) from pLit (b := 109) hr.2.2.2 (by omega) (by omega))]
theorem rd_ob (hl : hL t r) (h : hC t r σ) (hp : p < t) (hr : r p = 98) {v1 : Int32} {p1 : Nat} (hn : fX2_readNumber 0 23 (cT σ (p + 1) 98 f s) = some (v1, cT σ p1 98 f s)) : fX2_readOrder (cT σ p c f s) = some (if v1 = -1 then 0 else 1, cT σ p1 98 v1 s) := by
  unfold fX2_readOrder
  rw [ky_bd_s (rd_signT hl h hp), hr, show nI 98 = (98 : Int32) from rfl, cT_3, ky_bn_s, show (cT σ p 98 f s).1 3 3 = 98 from rfl, ky_bn_s, if_pos rfl, show (cT σ p 98 f s).1 3 2 = nI p from rfl, nI_1, cT_2, ky_bn_s, ky_bd_s hn, cT_4, ky_bn_s, show (cT σ p1 98 v1 s).1 3 4 = v1 from rfl]
  by_cases e : v1 = -1
  · rw [if_pos e, if_pos e]
  · rw [if_neg e, if_neg e]
theorem rd_od (hl : hL t r) (h : hC t r σ) (hp : p < t) (hr : r p = 100) {v1 : Int32} {p1 : Nat} (hn : fX2_readNumber 1 99 (cT σ (p + 1) 100 f s) = some (v1, cT σ p1 100 f s)) : fX2_readOrder (cT σ p c f s) = some (if v1 = -1 then 0 else 1, cT σ p1 100 v1 s) := by
  unfold fX2_readOrder
  rw [ky_bd_s (rd_signT hl h hp), hr, show nI 100 = (100 : Int32) from rfl, cT_3, ky_bn_s, show (cT σ p 100 f s).1 3 3 = 100 from rfl, ky_bn_s, if_neg (by decide), if_pos rfl, show (cT σ p 100 f s).1 3 2 = nI p from rfl, nI_1, cT_2, ky_bn_s, ky_bd_s hn, cT_4, ky_bn_s, show (cT σ p1 100 v1 s).1 3 4 = v1 from rfl]
  by_cases e : v1 = -1
  · rw [if_pos e, if_pos e]
  · rw [if_neg e, if_neg e]
theorem rd_oh (hl : hL t r) (h : hC t r σ) (hp : p < t) (hr : r p = 104) {b f1 s1 : Int32} {p1 : Nat} (hb : b = 0 ∨ b = 1) (hn : fX2_readPair 0 5 42 1 24 (cT σ (p + 1) 104 f s) = some (b, cT σ p1 104 f1 s1)) : fX2_readOrder (cT σ p c f s) = some (b, cT σ p1 104 f1 s1) := by
  unfold fX2_readOrder
  rw [ky_bd_s (rd_signT hl h hp), hr, show nI 104 = (104 : Int32) from rfl, cT_3, ky_bn_s, show (cT σ p 104 f s).1 3 3 = 104 from rfl, ky_bn_s, if_neg (by decide), if_neg (by decide), if_pos rfl, show (cT σ p 104 f s).1 3 2 = nI p from rfl, nI_1, cT_2, ky_bn_s, ky_bd_s hn, ky_g_s hb]
theorem rd_om (hl : hL t r) (h : hC t r σ) (hp : p < t) (hr : r p = 109) {b f1 s1 : Int32} {p1 : Nat} (hb : b = 0 ∨ b = 1) (hn : fX2_readPair 0 23 62 0 5 (cT σ (p + 1) 109 f s) = some (b, cT σ p1 109 f1 s1)) : fX2_readOrder (cT σ p c f s) = some (b, cT σ p1 109 f1 s1) := by
  unfold fX2_readOrder
  rw [ky_bd_s (rd_signT hl h hp), hr, show nI 109 = (109 : Int32) from rfl, cT_3, ky_bn_s, show (cT σ p 109 f s).1 3 3 = 109 from rfl, ky_bn_s, if_neg (by decide), if_neg (by decide), if_neg (by decide), if_pos rfl, show (cT σ p 109 f s).1 3 2 = nI p from rfl, nI_1, cT_2, ky_bn_s, ky_bd_s hn, ky_g_s hb]
end WV
