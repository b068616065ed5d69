/-! gaps that wait, a region under work [L, H), and the pairs M so far against V0 -/
abbrev pd_g : Type := Nat × Nat × Nat × Nat
def pd_in (g : pd_g) (x : Nat) : Prop := g.1 ≤ x ∧ x < g.2.1
def pd_ug (f : Nat → pd_g) (k : Nat) (v : pd_g) : Nat → pd_g := fun q => if q = k then v else f q
theorem pd_ug_s {f : Nat → pd_g} {k : Nat} {v : pd_g} : pd_ug f k v k = v := if_pos rfl
theorem pd_ug_n {f : Nat → pd_g} {k q : Nat} {v : pd_g} (h : q ≠ k) : pd_ug f k v q = f q := if_neg h
/-- a gap that is V0's -/
def pd_gk (a b : Nat → Int32) (n m : Nat) (V0 : Nat → Option Nat) (g : pd_g) : Prop :=
  g.1 ≤ g.2.1 ∧ g.2.1 ≤ n ∧ g.2.2.1 ≤ g.2.2.2 ∧ g.2.2.2 ≤ m ∧ ∃ f, g.2.1 - g.1 < f ∧ ∀ x, pd_in g x → V0 x = pd_V a b f g.1 g.2.1 g.2.2.1 g.2.2.2 x
def pd_I (a b : Nat → Int32) (n m : Nat) (V0 : Nat → Option Nat) (lo hi : Nat) (gp : Nat → pd_g) (L H : Nat) (M : Nat → Int32) : Prop :=
  (∀ q, lo ≤ q → q < hi → pd_gk a b n m V0 (gp q)) ∧
  (∀ q x, lo ≤ q → q < hi → pd_in (gp q) x → M x = -1 ∧ (x < L ∨ H ≤ x)) ∧
  (∀ q r x, lo ≤ q → q < r → r < hi → pd_in (gp q) x → ¬ pd_in (gp r) x) ∧
  (∀ x, L ≤ x → x < H → M x = -1) ∧
  (∀ x, x < n → (x < L ∨ H ≤ x) → (∀ q, lo ≤ q → q < hi → ¬ pd_in (gp q) x) → M x = pd_e (V0 x))
section PDI
variable {a b : Nat → Int32} {n m : Nat} {V0 : Nat → Option Nat} {lo hi : Nat} {gp : Nat → pd_g} {L H : Nat} {M : Nat → Int32}
/-- the lowest line of the region is paired -/
theorem pd_I_lo {j : Nat} (h : pd_I a b n m V0 lo hi gp L H M) (hL : L < H) (hV : V0 L = some j) : pd_I a b n m V0 lo hi gp (L + 1) H (upd M L (nI j)) := by
  obtain ⟨h1, h2, h3, h4, h5⟩ := h
  refine ⟨h1, fun q x a1 a2 a3 => ?_, h3, fun x a1 a2 => ?_, fun x a1 a2 a3 => ?_⟩
  · have := h2 q x a1 a2 a3
    rw [pk_un (by omega)]
    exact ⟨this.1, by omega⟩
  · rw [pk_un (by omega)]
    exact h4 x (by omega) a2
  · by_cases e : x = L
    · subst e; rw [pk_us, hV]; rfl
    · rw [pk_un e]
      exact h5 x a1 (by omega) a3
theorem pd_I_hi {j : Nat} (h : pd_I a b n m V0 lo hi gp L (H + 1) M) (hL : L ≤ H) (hV : V0 H = some j) : pd_I a b n m V0 lo hi gp L H (upd M H (nI j)) := by
  obtain ⟨h1, h2, h3, h4, h5⟩ := h
  refine ⟨h1, fun q x a1 a2 a3 => ?_, h3, fun x a1 a2 => ?_, fun x a1 a2 a3 => ?_⟩
  · have := h2 q x a1 a2 a3
    rw [pk_un (by omega)]
    exact ⟨this.1, by omega⟩
  · rw [pk_un (by omega)]
    exact h4 x (by omega) (by omega)
  · by_cases e : x = H
    · subst e; rw [pk_us, hV]; rfl
    · rw [pk_un e]
      exact h5 x a1 (by omega) a3
/-- the lowest lines of the region have no pair -/
theorem pd_I_sk {x0 : Nat} (h : pd_I a b n m V0 lo hi gp L H M) (hL : L ≤ x0) (hV : ∀ x, L ≤ x → x < x0 → V0 x = none) : pd_I a b n m V0 lo hi gp x0 H M := by
  obtain ⟨h1, h2, h3, h4, h5⟩ := h
  refine ⟨h1, fun q x a1 a2 a3 => ?_, h3, fun x a1 a2 => ?_, fun x a1 a2 a3 => ?_⟩
  · have := h2 q x a1 a2 a3
    by_cases e : L ≤ x ∧ x < x0
    · by_cases e2 : x < H
      · omega
      · exact ⟨this.1, by omega⟩
    · exact ⟨this.1, by omega⟩
  · exact h4 x (by omega) a2
  · by_cases e : L ≤ x ∧ x < x0 ∧ x < H
    · rw [hV x e.1 e.2.1, h4 x e.1 e.2.2]; rfl
    · exact h5 x a1 (by omega) a3
/-- a region that is empty may be any empty one -/
theorem pd_I_em {L' H' : Nat} (h : pd_I a b n m V0 lo hi gp L H M) (hL : H ≤ L) (hL' : H' ≤ L') : pd_I a b n m V0 lo hi gp L' H' M := by
  obtain ⟨h1, h2, h3, h4, h5⟩ := h
  exact ⟨h1, fun q x a1 a2 a3 => ⟨(h2 q x a1 a2 a3).1, by omega⟩, h3, fun x a1 a2 => by omega, fun x a1 a2 a3 => h5 x a1 (by omega) a3⟩
/-- the region's upper part waits, a pair below it is made -/
theorem pd_I_up {x0 j bl bh : Nat} (h : pd_I a b n m V0 lo hi gp L H M) (hlh : lo ≤ hi) (hL : L ≤ x0) (hH : x0 < H) (hV : V0 x0 = some j) (hg : pd_gk a b n m V0 (x0 + 1, H, bl, bh)) : pd_I a b n m V0 lo (hi + 1) (pd_ug gp hi (x0 + 1, H, bl, bh)) L x0 (upd M x0 (nI j)) := by
  obtain ⟨h1, h2, h3, h4, h5⟩ := h
  refine ⟨fun q a1 a2 => ?_, fun q x a1 a2 a3 => ?_, fun q r x a1 a2 a3 a4 a5 => ?_, fun x a1 a2 => ?_, fun x a1 a2 a3 => ?_⟩
  · by_cases e : q = hi
    · subst e; rw [pd_ug_s]; exact hg
    · rw [pd_ug_n e]; exact h1 q a1 (by omega)
  · by_cases e : q = hi
    · subst e
      rw [pd_ug_s] at a3
      have b1 : x0 + 1 ≤ x := a3.1
      have b2 : x < H := a3.2
      rw [pk_un (by omega)]
      exact ⟨h4 x (by omega) b2, by omega⟩
    · rw [pd_ug_n e] at a3
      have := h2 q x a1 (by omega) a3
      rw [pk_un (by omega)]
      exact ⟨this.1, by omega⟩
  · rw [pd_ug_n (by omega)] at a4
    by_cases e : r = hi
    · subst e
      rw [pd_ug_s] at a5
      have b1 : x0 + 1 ≤ x := a5.1
      have b2 : x < H := a5.2
      have := h2 q x a1 (by omega) a4
      omega
    · rw [pd_ug_n e] at a5
      exact h3 q r x a1 a2 (by omega) a4 a5
  · rw [pk_un (by omega)]
    exact h4 x a1 (by omega)
  · by_cases e : x = x0
    · subst e; rw [pk_us, hV]; rfl
    · rw [pk_un e]
      have b1 : ¬ pd_in (x0 + 1, H, bl, bh) x := by
        have := a3 hi hlh (by omega)
        rw [pd_ug_s] at this
        exact this
      have b2 : ¬ (x0 + 1 ≤ x ∧ x < H) := b1
      refine h5 x a1 (by omega) (fun q c1 c2 => ?_)
      have := a3 q c1 (by omega)
      rw [pd_ug_n (by omega)] at this
      exact this
/-- the region's lower part waits -/
theorem pd_I_dn {x0 bl bh : Nat} (h : pd_I a b n m V0 lo hi gp L H M) (hlh : lo ≤ hi) (hL : L ≤ x0) (hH : x0 ≤ H) (hg : pd_gk a b n m V0 (L, x0, bl, bh)) : pd_I a b n m V0 lo (hi + 1) (pd_ug gp hi (L, x0, bl, bh)) x0 H M := by
  obtain ⟨h1, h2, h3, h4, h5⟩ := h
  refine ⟨fun q a1 a2 => ?_, fun q x a1 a2 a3 => ?_, fun q r x a1 a2 a3 a4 a5 => ?_, fun x a1 a2 => ?_, fun x a1 a2 a3 => ?_⟩
  · by_cases e : q = hi
    · subst e; rw [pd_ug_s]; exact hg
    · rw [pd_ug_n e]; exact h1 q a1 (by omega)
  · by_cases e : q = hi
    · subst e
      rw [pd_ug_s] at a3
      have b1 : L ≤ x := a3.1
      have b2 : x < x0 := a3.2
      exact ⟨h4 x b1 (by omega), by omega⟩
    · rw [pd_ug_n e] at a3
      have := h2 q x a1 (by omega) a3
      exact ⟨this.1, by omega⟩
  · rw [pd_ug_n (by omega)] at a4
    by_cases e : r = hi
    · subst e
      rw [pd_ug_s] at a5
      have b1 : L ≤ x := a5.1
      have b2 : x < x0 := a5.2
      have := h2 q x a1 (by omega) a4
      omega
    · rw [pd_ug_n e] at a5
      exact h3 q r x a1 a2 (by omega) a4 a5
  · exact h4 x (by omega) a2
  · have b1 : ¬ pd_in (L, x0, bl, bh) x := by
      have := a3 hi hlh (by omega)
      rw [pd_ug_s] at this
      exact this
    have b2 : ¬ (L ≤ x ∧ x < x0) := b1
    refine h5 x a1 (by omega) (fun q c1 c2 => ?_)
    have := a3 q c1 (by omega)
    rw [pd_ug_n (by omega)] at this
    exact this
/-- the first that waits, or the last, becomes the region -/
theorem pd_I_pf (h : pd_I a b n m V0 lo hi gp L H M) (hL : H ≤ L) (hlh : lo < hi) : pd_I a b n m V0 (lo + 1) hi gp (gp lo).1 (gp lo).2.1 M := by
  obtain ⟨h1, h2, h3, h4, h5⟩ := h
  refine ⟨fun q a1 a2 => h1 q (by omega) a2, fun q x a1 a2 a3 => ?_, fun q r x a1 a2 a3 a4 a5 => h3 q r x (by omega) a2 a3 a4 a5, fun x a1 a2 => (h2 lo x (Nat.le_refl _) hlh ⟨a1, a2⟩).1, fun x a1 a2 a3 => ?_⟩
  · have c1 := h2 q x (by omega) a2 a3
    have c2 : ¬ ((gp lo).1 ≤ x ∧ x < (gp lo).2.1) := fun z => h3 lo q x (Nat.le_refl _) (by omega) a2 z a3
    exact ⟨c1.1, by omega⟩
  · refine h5 x a1 (by omega) (fun q c1 c2 => ?_)
    by_cases e : q = lo
    · subst e
      intro z
      have z1 := z.1
      have z2 := z.2
      omega
    · exact a3 q (by omega) c2
theorem pd_I_pb (h : pd_I a b n m V0 lo (hi + 1) gp L H M) (hL : H ≤ L) (hlh : lo ≤ hi) : pd_I a b n m V0 lo hi gp (gp hi).1 (gp hi).2.1 M := by
  obtain ⟨h1, h2, h3, h4, h5⟩ := h
  refine ⟨fun q a1 a2 => h1 q a1 (by omega), fun q x a1 a2 a3 => ?_, fun q r x a1 a2 a3 a4 a5 => h3 q r x a1 a2 (by omega) a4 a5, fun x a1 a2 => (h2 hi x hlh (by omega) ⟨a1, a2⟩).1, fun x a1 a2 a3 => ?_⟩
  · have c1 := h2 q x a1 (by omega) a3
    have c2 : ¬ ((gp hi).1 ≤ x ∧ x < (gp hi).2.1) := fun z => h3 q hi x a1 a2 (by omega) a3 z
    exact ⟨c1.1, by omega⟩
  · refine h5 x a1 (by omega) (fun q c1 c2 => ?_)
    by_cases e : q = hi
    · subst e
      intro z
      have z1 := z.1
      have z2 := z.2
      omega
    · exact a3 q c1 (by omega)
/-- nothing waits: M is V0 -/
theorem pd_I_fin (h : pd_I a b n m V0 lo hi gp L H M) (hL : H ≤ L) (hlh : hi ≤ lo) {x : Nat} (hx : x < n) : M x = pd_e (V0 x) :=
  h.2.2.2.2 x hx (by omega) (fun q c1 c2 => by omega)
theorem pd_I_0 (hM : ∀ x, x < n → M x = -1) (hg : pd_gk a b n m V0 (0, n, 0, m)) : pd_I a b n m V0 0 1 (fun _ => (0, n, 0, m)) 0 0 M := by
  refine ⟨fun q _ _ => hg, fun q x _ _ h => ⟨hM x h.2, by omega⟩, fun q r x a1 a2 a3 => by omega, fun x _ h => by omega, fun x a1 a2 a3 => ?_⟩
  exact absurd ⟨Nat.zero_le x, a1⟩ (a3 0 (Nat.le_refl 0) (by omega))
/-- nothing pushed at all: the region itself -/
theorem pd_I_1 (hM : ∀ x, x < n → M x = -1) : pd_I a b n m V0 0 0 gp 0 n M := by
  exact ⟨fun q _ h => by omega, fun q x _ h => by omega, fun q r x a1 a2 a3 => by omega, fun x _ h => hM x h, fun x a1 a2 a3 => by omega⟩
end PDI
/-- the lines that wait -/
def pd_sm (gp : Nat → pd_g) : Nat → Nat
  | 0 => 0
  | q + 1 => pd_sm gp q + ((gp q).2.1 - (gp q).1)
theorem pd_sm_s (gp : Nat → pd_g) (q : Nat) : pd_sm gp (q + 1) = pd_sm gp q + ((gp q).2.1 - (gp q).1) := rfl
theorem pd_sm_u {gp : Nat → pd_g} {k : Nat} {v : pd_g} : ∀ q, q ≤ k → pd_sm (pd_ug gp k v) q = pd_sm gp q := by
  intro q
  induction q with
  | zero => intro _; rfl
  | succ q ih =>
    intro h
    rw [pd_sm_s, pd_sm_s, ih (by omega), pd_ug_n (by omega)]
theorem pd_sm_p {gp : Nat → pd_g} {k : Nat} {v : pd_g} : pd_sm (pd_ug gp k v) (k + 1) = pd_sm gp k + (v.2.1 - v.1) := by
  rw [pd_sm_s, pd_sm_u k (Nat.le_refl k), pd_ug_s]
theorem pd_sm_m {gp : Nat → pd_g} : ∀ r q, q ≤ r → pd_sm gp q ≤ pd_sm gp r := by
  intro r
  induction r with
  | zero => intro q h; have : q = 0 := by omega
            subst this; exact Nat.le_refl _
  | succ r ih =>
    intro q h
    by_cases e : q = r + 1
    · subst e; exact Nat.le_refl _
    · have := ih q (by omega)
      rw [pd_sm_s]; omega
