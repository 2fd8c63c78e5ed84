/-! ===== pure: the readers' states ===== -/
section WT
variable {σ τ : ky_St}
/-- the model's reader: its rows, the orders read, the number, what is due -/
def qS (τ : ky_St) (P : Nat → Int32) (k : Nat) (nm du : Int32) : ky_St := (fun a => if a = 11 then P else if a = 7 then (fun f => if f = 7 then nI k else if f = 8 then nm else if f = 9 then du else τ.1 7 f) else τ.1 a, τ.2)
/-- the class's reader: its place, its letter, its numbers -/
def cT (σ : ky_St) (p : Nat) (c f s : Int32) : ky_St := (fun a => if a = 3 then (fun g => if g = 2 then nI p else if g = 3 then c else if g = 4 then f else if g = 5 then s else σ.1 3 g) else σ.1 a, σ.2)
theorem qS_8 (P : Nat → Int32) (k : Nat) (nm du v : Int32) : ky_u1 (qS τ P k nm du) 7 8 v = qS τ P k v du := by
  refine Prod.ext (funext fun a => funext fun b => ?_) rfl
  show (if a = 7 ∧ b = 8 then v else (qS τ P k nm du).1 a b) = (qS τ P k v du).1 a b
  unfold qS
  by_cases h : a = 7
  · subst h
    by_cases h2 : b = 8
    · subst h2
      rfl
    · rw [if_neg (fun q => h2 q.2)]
      show (if b = 7 then nI k else if b = 8 then nm else _) = if b = 7 then nI k else if b = 8 then v else _
      rw [if_neg h2, if_neg h2]
  · rw [if_neg (fun q => h q.1)]
    by_cases h2 : a = 11
    · subst h2
      rfl
    · show (if a = 11 then P else if a = 7 then _ else τ.1 a) b = (if a = 11 then P else if a = 7 then _ else τ.1 a) b
      rw [if_neg h2, if_neg h, if_neg h2, if_neg h]
theorem qS_9 (P : Nat → Int32) (k : Nat) (nm du v : Int32) : ky_u1 (qS τ P k nm du) 7 9 v = qS τ P k nm v := by
  refine Prod.ext (funext fun a => funext fun b => ?_) rfl
  show (if a = 7 ∧ b = 9 then v else (qS τ P k nm du).1 a b) = (qS τ P k nm v).1 a b
  unfold qS
  by_cases h : a = 7
  · subst h
    by_cases h2 : b = 9
    · subst h2
      rfl
    · rw [if_neg (fun q => h2 q.2)]
      show (if b = 7 then nI k else if b = 8 then nm else if b = 9 then du else _) = if b = 7 then nI k else if b = 8 then nm else if b = 9 then v else _
      rw [if_neg h2, if_neg h2]
  · rw [if_neg (fun q => h q.1)]
    by_cases h2 : a = 11
    · subst h2
      rfl
    · show (if a = 11 then P else if a = 7 then _ else τ.1 a) b = (if a = 11 then P else if a = 7 then _ else τ.1 a) b
      rw [if_neg h2, if_neg h, if_neg h2, if_neg h]
theorem qS_7 (P : Nat → Int32) (k k' : Nat) (nm du : Int32) : ky_u1 (qS τ P k nm du) 7 7 (nI k') = qS τ P k' nm du := by
  refine Prod.ext (funext fun a => funext fun b => ?_) rfl
  show (if a = 7 ∧ b = 7 then nI k' else (qS τ P k nm du).1 a b) = (qS τ P k' nm du).1 a b
  unfold qS
  by_cases h : a = 7
  · subst h
    by_cases h2 : b = 7
    · subst h2
      rfl
    · rw [if_neg (fun q => h2 q.2)]
      show (if b = 7 then nI k else _) = if b = 7 then nI k' else _
      rw [if_neg h2, if_neg h2]
  · rw [if_neg (fun q => h q.1)]
    by_cases h2 : a = 11
    · subst h2
      rfl
    · show (if a = 11 then P else if a = 7 then _ else τ.1 a) b = (if a = 11 then P else if a = 7 then _ else τ.1 a) b
      rw [if_neg h2, if_neg h, if_neg h2, if_neg h]
theorem qS_11 (P : Nat → Int32) (k : Nat) (nm du : Int32) (i : Nat) (v : Int32) : ky_u1 (qS τ P k nm du) 11 i v = qS τ (upd P i v) k nm du := by
  refine Prod.ext (funext fun a => funext fun b => ?_) rfl
  show (if a = 11 ∧ b = i then v else (qS τ P k nm du).1 a b) = (qS τ (upd P i v) k nm du).1 a b
  unfold qS
  by_cases h : a = 11
  · subst h
    show (if 11 = 11 ∧ b = i then v else P b) = if b = i then v else P b
    by_cases h2 : b = i
    · rw [if_pos ⟨rfl, h2⟩, if_pos h2]
    · rw [if_neg (fun q => h2 q.2), if_neg h2]
  · rw [if_neg (fun q => h q.1)]
    show (if a = 11 then P else _) b = (if a = 11 then upd P i v else _) b
    rw [if_neg h, if_neg h]
end WT
