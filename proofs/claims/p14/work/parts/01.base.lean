/-! numbers -/
theorem pd_m1lt : (-1 : Int32) < 0 := by decide
theorem pd_ne1 {a : Nat} (h : a < 2 ^ 31) : ¬ nI a = -1 := by
  intro e
  have := nI_pos (n := a) h
  rw [e] at this
  exact this pd_m1lt
theorem pd_s1 {n : Nat} (h : 0 < n) : nI n - 1 = nI (n - 1) := by
  obtain ⟨m, rfl⟩ : ∃ m, n = m + 1 := ⟨n - 1, by omega⟩
  exact nI_pred m
theorem pd_a1 {n : Nat} (h : 0 < n) : nI n + (-1) = nI (n - 1) := sb_m1 h
theorem pd_im {a b : Nat} (h : nI a = nI b) (ha : a < 2 ^ 31) (hb : b < 2 ^ 31) : a = b := (nI_eq ha hb).mp h
/-- an answer that may be wanting -/
def pd_e : Option Nat → Int32
  | none => -1
  | some j => nI j
theorem pd_e_inj {o p : Option Nat} (ho : ∀ j, o = some j → j < 2 ^ 31) (hp : ∀ j, p = some j → j < 2 ^ 31) (h : pd_e o = pd_e p) : o = p := by
  cases o with
  | none =>
    cases p with
    | none => rfl
    | some j => exact absurd h.symm (pd_ne1 (hp j rfl))
  | some i =>
    cases p with
    | none => exact absurd h (pd_ne1 (ho i rfl))
    | some j => exact congrArg some (pd_im h (ho i rfl) (hp j rfl))
/-- how many of the first k cells of M are not -1 -/
def pd_cm (M : Nat → Int32) : Nat → Nat
  | 0 => 0
  | k + 1 => pd_cm M k + if M k = -1 then 0 else 1
theorem pd_cm_s (M : Nat → Int32) (k : Nat) : pd_cm M (k + 1) = pd_cm M k + if M k = -1 then 0 else 1 := rfl
theorem pd_cm_le (M : Nat → Int32) : ∀ k, pd_cm M k ≤ k := by
  intro k
  induction k with
  | zero => exact Nat.le_refl 0
  | succ k ih => rw [pd_cm_s]; split <;> omega
theorem pd_cm_ge {M : Nat → Int32} {i : Nat} {x : Int32} : ∀ k, k ≤ i → pd_cm (upd M i x) k = pd_cm M k := by
  intro k
  induction k with
  | zero => intro _; rfl
  | succ k ih =>
    intro h
    rw [pd_cm_s, pd_cm_s, ih (by omega), pk_un (by omega)]
theorem pd_cm_u {M : Nat → Int32} {i : Nat} {x : Int32} (hM : M i = -1) (hx : ¬ x = -1) : ∀ k, i < k → pd_cm (upd M i x) k = pd_cm M k + 1 := by
  intro k
  induction k with
  | zero => intro h; omega
  | succ k ih =>
    intro h
    rw [pd_cm_s, pd_cm_s]
    by_cases e : i = k
    · subst e
      rw [pd_cm_ge _ (Nat.le_refl _), pk_us, hM, if_neg hx, if_pos rfl]
    · rw [ih (by omega), pk_un (by omega)]
      omega
theorem pd_cm_c {M N : Nat → Int32} : ∀ k, (∀ x, x < k → M x = N x) → pd_cm M k = pd_cm N k := by
  intro k
  induction k with
  | zero => intro _; rfl
  | succ k ih =>
    intro h
    rw [pd_cm_s, pd_cm_s, ih (fun x hx => h x (by omega)), h k (by omega)]
