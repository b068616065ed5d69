/-! apply: where a hunk fits, the search, the places one behind another, the output -/
def pd_ft (base a : Nat → Int32) (z aS aL cur P : Nat) : Bool := decide (cur ≤ P ∧ P + aL ≤ z ∧ ∀ t, t < aL → base (P + t) = a (aS + t))
/-- k distances from s on, the lower place first -/
def pd_fp (F : Nat → Bool) (E : Nat) : Nat → Nat → Option Nat
  | 0, _ => none
  | k + 1, s => if s ≤ E ∧ F (E - s) = true then some (E - s) else if F (E + s) = true then some (E + s) else pd_fp F E k (s + 1)
theorem pd_fp_s (F : Nat → Bool) (E k s : Nat) : pd_fp F E (k + 1) s = if s ≤ E ∧ F (E - s) = true then some (E - s) else if F (E + s) = true then some (E + s) else pd_fp F E k (s + 1) := rfl
theorem pd_fp_k {F : Nat → Bool} {E P : Nat} : ∀ k s, pd_fp F E k s = some P → F P = true := by
  intro k
  induction k with
  | zero => intro s h; exact nomatch h
  | succ k ih =>
    intro s h
    rw [pd_fp_s] at h
    by_cases c : s ≤ E ∧ F (E - s) = true
    · rw [if_pos c] at h
      cases h
      exact c.2
    · rw [if_neg c] at h
      by_cases d : F (E + s) = true
      · rw [if_pos d] at h
        cases h
        exact d
      · rw [if_neg d] at h
        exact ih (s + 1) h
section PDP
variable (base a : Nat → Int32) (z r : Nat) (aS aL : Nat → Nat)
/-- behind h hunks: cursor, the last place and the last hunk's start in A; none: one of them found no place -/
def pd_ps : Nat → Option (Nat × Nat × Nat)
  | 0 => some (0, 0, 0)
  | h + 1 => match pd_ps h with
    | none => none
    | some s => match pd_fp (pd_ft base a z (aS h) (aL h) s.1) (aS h - s.2.2 + s.2.1) (r + 1) 0 with
      | none => none
      | some Q => some (Q + aL h, Q, aS h)
theorem pd_ps_n {h : Nat} {s : Nat × Nat × Nat} (hs : pd_ps base a z r aS aL h = some s) (hf : pd_fp (pd_ft base a z (aS h) (aL h) s.1) (aS h - s.2.2 + s.2.1) (r + 1) 0 = none) : pd_ps base a z r aS aL (h + 1) = none := by
  rw [pd_ps, hs]
  dsimp only
  rw [hf]
theorem pd_ps_y {h Q : Nat} {s : Nat × Nat × Nat} (hs : pd_ps base a z r aS aL h = some s) (hf : pd_fp (pd_ft base a z (aS h) (aL h) s.1) (aS h - s.2.2 + s.2.1) (r + 1) 0 = some Q) : pd_ps base a z r aS aL (h + 1) = some (Q + aL h, Q, aS h) := by
  rw [pd_ps, hs]
  dsimp only
  rw [hf]
end PDP
/-- R with k cells of src from f on, laid at o -/
def pd_cp (R : Nat → Int32) (o : Nat) (src : Nat → Int32) (f k : Nat) : Nat → Int32 := fun q => if o ≤ q ∧ q < o + k then src (f + (q - o)) else R q
theorem pd_cp_0 (R : Nat → Int32) (o : Nat) (src : Nat → Int32) (f : Nat) : pd_cp R o src f 0 = R := by
  funext q
  exact if_neg (by omega)
theorem pd_cp_s (R : Nat → Int32) (o : Nat) (src : Nat → Int32) (f k : Nat) : upd (pd_cp R o src f k) (o + k) (src (f + k)) = pd_cp R o src f (k + 1) := by
  funext q
  by_cases e : q = o + k
  · subst e
    rw [pk_us]
    unfold pd_cp
    rw [if_pos (by omega), Nat.add_sub_cancel_left]
  · rw [pk_un e]
    unfold pd_cp
    by_cases c : o ≤ q ∧ q < o + k
    · rw [if_pos c, if_pos (by omega)]
    · rw [if_neg c, if_neg (by omega)]
theorem pd_cp_e {R T : Nat → Int32} {o : Nat} (h : ∀ q, q < o → R q = T q) (src : Nat → Int32) (f k : Nat) : ∀ q, q < o + k → pd_cp R o src f k q = pd_cp T o src f k q := by
  intro q hq
  unfold pd_cp
  by_cases c : o ≤ q ∧ q < o + k
  · rw [if_pos c, if_pos c]
  · rw [if_neg c, if_neg c, h q (by omega)]
