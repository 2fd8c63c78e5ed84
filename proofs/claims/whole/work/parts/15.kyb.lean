/-! ===== the functions' words ===== -/
def FU : Nat := 4000
def ky_bn {α β : Type} (x : α) (f : α → β) : β := f x
def ky_bd {α β : Type} (x : Option (α × ky_St)) (f : α → ky_St → Option β) : Option β := match x with
  | none => none
  | some q => f q.1 q.2
def ky_bx {α β : Type} (x : Option ((String ⊕ α) × ky_St)) (f : α → ky_St → Option ((String ⊕ β) × ky_St)) : Option ((String ⊕ β) × ky_St) := match x with
  | none => none
  | some (.inl E, s) => some (.inl E, s)
  | some (.inr a, s) => f a s
def ky_bh {α β : Type} (x : Option ((String ⊕ α) × ky_St)) (f : α → ky_St → Option β) (g : String → ky_St → Option β) : Option β := match x with
  | none => none
  | some (.inl E, s) => g E s
  | some (.inr a, s) => f a s
def ky_g {β : Type} (c : Prop) [Decidable c] (x : Option β) : Option β := if c then x else none
theorem ky_bn_e {α β : Type} {x : α} {f : α → β} {r : β} (h : ky_bn x f = r) (y : α) (e : y = x) : f y = r := by subst e; exact h
theorem ky_bd_e {α β : Type} {x : Option (α × ky_St)} {f : α → ky_St → Option β} {r : β} (h : ky_bd x f = some r) : ∃ a s, x = some (a, s) ∧ f a s = some r := by
  cases x with
  | none => cases h
  | some q => exact ⟨q.1, q.2, rfl, h⟩
theorem ky_bx_e {α β : Type} {x : Option ((String ⊕ α) × ky_St)} {f : α → ky_St → Option ((String ⊕ β) × ky_St)} {r : String ⊕ β} {s' : ky_St} (h : ky_bx x f = some (r, s')) : (∃ E, x = some (.inl E, s') ∧ r = .inl E) ∨ ∃ a s, x = some (.inr a, s) ∧ f a s = some (r, s') := by
  match x, h with
  | some (.inl E, s), h => cases h; exact Or.inl ⟨E, rfl, rfl⟩
  | some (.inr a, s), h => exact Or.inr ⟨a, s, rfl, h⟩
theorem ky_bh_e {α β : Type} {x : Option ((String ⊕ α) × ky_St)} {f : α → ky_St → Option β} {g : String → ky_St → Option β} {r : β} (h : ky_bh x f g = some r) : (∃ a s, x = some (.inr a, s) ∧ f a s = some r) ∨ ∃ E s, x = some (.inl E, s) ∧ g E s = some r := by
  match x, h with
  | some (.inl E, s), h => exact Or.inr ⟨E, s, rfl, h⟩
  | some (.inr a, s), h => exact Or.inl ⟨a, s, rfl, h⟩
theorem ky_ge {β : Type} {c : Prop} [Decidable c] {x : Option β} {r : β} (h : ky_g c x = some r) : c ∧ x = some r := by
  unfold ky_g at h
  by_cases hc : c
  · rw [if_pos hc] at h; exact ⟨hc, h⟩
  · rw [if_neg hc] at h; cases h
theorem ky_pos {α : Type} {c : Prop} [Decidable c] {a b r : α} (h : c) (hf : (if c then a else b) = r) : a = r := by rw [if_pos h] at hf; exact hf
theorem ky_neg {α : Type} {c : Prop} [Decidable c] {a b r : α} (h : ¬ c) (hf : (if c then a else b) = r) : b = r := by rw [if_neg h] at hf; exact hf
theorem ky_ob_e {α β : Type} {x : Option α} {f : α → Option β} {r : β} (h : x.bind f = some r) : ∃ a, x = some a ∧ f a = some r := by
  cases x with
  | none => cases h
  | some a => exact ⟨a, rfl, h⟩
def ky_oi : String ⊕ Int32 → ky_O | .inl E => .inl E | .inr v => .inr (some (.int v))
def ky_ou : String ⊕ Unit → ky_O | .inl E => .inl E | .inr _ => .inr none
/-- a row of ints of our own, or of the statics -/
def ky_la (k : Nat) : Option Nat := if k = 15 then none else ky_len 0 k
theorem ky_la_len {L k n : Nat} (h : ky_la k = some n) : ky_len L k = some n := by
  unfold ky_la at h
  by_cases h15 : k = 15
  · rw [if_pos h15] at h; cases h
  rw [if_neg h15] at h
  unfold ky_len at h ⊢
  rw [if_neg h15] at h ⊢
  exact h
theorem ky_swn {x k : Int32} (h : ¬ x = k) : x.toInt ≠ k.toInt := fun e => h (Int32.toInt_inj.mp e)
theorem ky_bk_ne {b : Nat} (h : ky_cl b = 0) : b ≠ 0 ∧ b ≠ 2 ∧ b ≠ 3 ∧ b ≠ 7 := by
  refine ⟨fun e => ?_, fun e => ?_, fun e => ?_, fun e => ?_⟩ <;> (subst e; exact absurd h (by decide))
theorem ky_valI {G : ky_G} {σ : ky_St} {b f : Nat} (h : ky_cl b = 0) (hf : f < 5) : ky_val G σ b f = .int (σ.1 b f) := by
  unfold ky_val ky_ty
  rw [h]
  simp [hf]
theorem ky_valR {G : ky_G} {σ : ky_St} {b f : Nat} (h : ky_cl b = 0) (hf : 5 ≤ f) : ky_val G σ b f = ky_r G (b + (f - 4)) := by
  obtain ⟨h0, h2, h3, h7⟩ := ky_bk_ne h
  unfold ky_val ky_ty ky_lk
  rw [h]
  have : ¬ f < 5 := by omega
  simp [this, h0, h2, h3, h7]
theorem ky_tyl : ∀ j, ky_ty 4 j = 0 ∨ ky_ty 4 j = 1 ∨ j = 11 := by
  intro j
  by_cases h : j = 11
  · exact Or.inr (Or.inr h)
  · unfold ky_ty
    simp only [h, if_false]
    repeat' split
    all_goals simp_all
section KYb
variable {G : ky_G} {M : ky_Md} {d kc ks pc n : Nat} {lv lv' : List (Nat × Value)} {st : List Value} {σ σ' : ky_St} {o : ky_O}
theorem ky_lv (h : lv = lv') (k : ky_T G M d kc ks pc lv' st σ o σ') : ky_T G M d kc ks pc lv st σ o σ' := by subst h; exact k
theorem ky_bud {kc2 ks2 : Nat} (h : kc2 ≤ kc) (h' : ks2 ≤ ks) (k : ky_T G M d kc2 ks2 pc lv st σ o σ') : ky_T G M d kc ks pc lv st σ o σ' := by
  intro p e R s m args below meth c H locs cells slots mc ms ls C hS hM hl h1 h2
  exact k p e R s m args below meth c H locs cells slots mc ms ls C hS hM hl (by omega) (by omega)
theorem ky_iincB {i : Nat} {j : Int} {x c : Int32} (hd : decode M.2.1 pc = .ok (.iinc i j, 3)) (hn : pc + 3 = n) (t : Nat) (hk : lv[t]? = some (i, .int x)) (hv : Int32.ofInt j = c) (hb : i < M.2.2.1)
    (k : ∀ v, v = x + c → ky_T G M d kc ks n ((i, Value.int v) :: lv.filter (fun q => !(q.1 == i) && !(q.1 + 1 == i && q.2.category == 2))) st σ o σ') : ky_T G M d kc ks pc lv st σ o σ' := by
  subst hv
  exact ky_iinc hd hn t hk rfl hb rfl (k _ rfl)
end KYb
