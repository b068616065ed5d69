/-! the gap's pure pictures: common beginning, common end, occurrences, anchors, ranks, the chain, the table and its walk -/
def pd_pf (a b : Nat → Int32) : Nat → Nat → Nat → Nat
  | 0, _, _ => 0
  | k + 1, i, j => if a i = b j then pd_pf a b k (i + 1) (j + 1) + 1 else 0
theorem pd_pf_s (a b : Nat → Int32) (k i j : Nat) : pd_pf a b (k + 1) i j = if a i = b j then pd_pf a b k (i + 1) (j + 1) + 1 else 0 := rfl
theorem pd_pf_le {a b : Nat → Int32} : ∀ k i j, pd_pf a b k i j ≤ k := by
  intro k
  induction k with
  | zero => intro i j; exact Nat.le_refl 0
  | succ k ih =>
    intro i j
    have := ih (i + 1) (j + 1)
    rw [pd_pf_s]
    split <;> omega
theorem pd_pf_eq {a b : Nat → Int32} : ∀ k i j x, x < pd_pf a b k i j → a (i + x) = b (j + x) := by
  intro k
  induction k with
  | zero => intro i j x h; exact absurd h (Nat.not_lt_zero _)
  | succ k ih =>
    intro i j x h
    rw [pd_pf_s] at h
    by_cases e : a i = b j
    · rw [if_pos e] at h
      cases x with
      | zero => exact e
      | succ x =>
        have := ih (i + 1) (j + 1) x (by omega)
        rw [show i + (x + 1) = i + 1 + x by omega, show j + (x + 1) = j + 1 + x by omega]
        exact this
    · rw [if_neg e] at h
      exact absurd h (Nat.not_lt_zero _)
def pd_sf (a b : Nat → Int32) : Nat → Nat → Nat → Nat
  | 0, _, _ => 0
  | k + 1, i, j => if a (i - 1) = b (j - 1) then pd_sf a b k (i - 1) (j - 1) + 1 else 0
theorem pd_sf_s (a b : Nat → Int32) (k i j : Nat) : pd_sf a b (k + 1) i j = if a (i - 1) = b (j - 1) then pd_sf a b k (i - 1) (j - 1) + 1 else 0 := rfl
theorem pd_sf_le {a b : Nat → Int32} : ∀ k i j, pd_sf a b k i j ≤ k := by
  intro k
  induction k with
  | zero => intro i j; exact Nat.le_refl 0
  | succ k ih =>
    intro i j
    have := ih (i - 1) (j - 1)
    rw [pd_sf_s]
    split <;> omega
theorem pd_sf_eq {a b : Nat → Int32} : ∀ k i j x, x < pd_sf a b k i j → a (i - 1 - x) = b (j - 1 - x) := by
  intro k
  induction k with
  | zero => intro i j x h; exact absurd h (Nat.not_lt_zero _)
  | succ k ih =>
    intro i j x h
    rw [pd_sf_s] at h
    by_cases e : a (i - 1) = b (j - 1)
    · rw [if_pos e] at h
      cases x with
      | zero => exact e
      | succ x =>
        have := ih (i - 1) (j - 1) x (by omega)
        rw [show i - 1 - (x + 1) = i - 1 - 1 - x by omega, show j - 1 - (x + 1) = j - 1 - 1 - x by omega]
        exact this
    · rw [if_neg e] at h
      exact absurd h (Nat.not_lt_zero _)
/-- how often v stands in f's cells lo .. lo + k - 1, and where last -/
def pd_ct (f : Nat → Int32) (v : Int32) (lo : Nat) : Nat → Nat
  | 0 => 0
  | k + 1 => pd_ct f v lo k + if f (lo + k) = v then 1 else 0
def pd_lp (f : Nat → Int32) (v : Int32) (lo : Nat) : Nat → Nat
  | 0 => 0
  | k + 1 => if f (lo + k) = v then lo + k else pd_lp f v lo k
theorem pd_ct_s (f : Nat → Int32) (v : Int32) (lo k : Nat) : pd_ct f v lo (k + 1) = pd_ct f v lo k + if f (lo + k) = v then 1 else 0 := rfl
theorem pd_lp_s (f : Nat → Int32) (v : Int32) (lo k : Nat) : pd_lp f v lo (k + 1) = if f (lo + k) = v then lo + k else pd_lp f v lo k := rfl
theorem pd_ct_le {f : Nat → Int32} {v : Int32} {lo : Nat} : ∀ k, pd_ct f v lo k ≤ k := by
  intro k
  induction k with
  | zero => exact Nat.le_refl 0
  | succ k ih => rw [pd_ct_s]; split <;> omega
theorem pd_ct_1 {f : Nat → Int32} {v : Int32} {lo x : Nat} (hx : f (lo + x) = v) : ∀ k, x < k → 1 ≤ pd_ct f v lo k := by
  intro k
  induction k with
  | zero => intro h; omega
  | succ k ih =>
    intro h
    rw [pd_ct_s]
    by_cases e : x = k
    · subst e; rw [if_pos hx]; omega
    · have := ih (by omega); omega
theorem pd_ct_2 {f : Nat → Int32} {v : Int32} {lo x y : Nat} (hx : f (lo + x) = v) (hy : f (lo + y) = v) (hxy : x < y) : ∀ k, y < k → 2 ≤ pd_ct f v lo k := by
  intro k
  induction k with
  | zero => intro h; omega
  | succ k ih =>
    intro h
    rw [pd_ct_s]
    by_cases e : y = k
    · subst e
      have := pd_ct_1 hx y hxy
      rw [if_pos hy]; omega
    · have := ih (by omega); omega
theorem pd_ct_u {f : Nat → Int32} {v : Int32} {lo k x y : Nat} (h : pd_ct f v lo k = 1) (hx : f (lo + x) = v) (hxk : x < k) (hy : f (lo + y) = v) (hyk : y < k) : x = y := by
  rcases Nat.lt_trichotomy x y with e | e | e
  · have := pd_ct_2 hx hy e k hyk; omega
  · exact e
  · have := pd_ct_2 hy hx e k hxk; omega
theorem pd_lp_in {f : Nat → Int32} {v : Int32} {lo : Nat} : ∀ k, 1 ≤ pd_ct f v lo k → lo ≤ pd_lp f v lo k ∧ pd_lp f v lo k < lo + k ∧ f (pd_lp f v lo k) = v := by
  intro k
  induction k with
  | zero => intro h; exact absurd h (Nat.not_succ_le_zero 0)
  | succ k ih =>
    intro h
    rw [pd_ct_s] at h
    rw [pd_lp_s]
    by_cases e : f (lo + k) = v
    · rw [if_pos e]; exact ⟨by omega, by omega, e⟩
    · rw [if_neg e] at h ⊢
      have := ih (by omega)
      exact ⟨this.1, by omega, this.2.2⟩
/-- the anchors: their number, their places in A and in B, after k lines of the gap -/
def pd_un (f : Nat → Nat) (k v : Nat) : Nat → Nat := fun q => if q = k then v else f q
theorem pd_un_s {f : Nat → Nat} {k v : Nat} : pd_un f k v k = v := if_pos rfl
theorem pd_un_n {f : Nat → Nat} {k v q : Nat} (h : q ≠ k) : pd_un f k v q = f q := if_neg h
def pd_an (a b : Nat → Int32) (al ah bl bh : Nat) : Nat → Nat × (Nat → Nat) × (Nat → Nat)
  | 0 => (0, fun _ => 0, fun _ => 0)
  | k + 1 => if pd_ct a (a (al + k)) al (ah - al) = 1 ∧ pd_ct b (a (al + k)) bl (bh - bl) = 1 then
      ((pd_an a b al ah bl bh k).1 + 1, pd_un (pd_an a b al ah bl bh k).2.1 (pd_an a b al ah bl bh k).1 (al + k), pd_un (pd_an a b al ah bl bh k).2.2 (pd_an a b al ah bl bh k).1 (pd_lp b (a (al + k)) bl (bh - bl)))
    else pd_an a b al ah bl bh k
theorem pd_an_s (a b : Nat → Int32) (al ah bl bh k : Nat) : pd_an a b al ah bl bh (k + 1) = if pd_ct a (a (al + k)) al (ah - al) = 1 ∧ pd_ct b (a (al + k)) bl (bh - bl) = 1 then
      ((pd_an a b al ah bl bh k).1 + 1, pd_un (pd_an a b al ah bl bh k).2.1 (pd_an a b al ah bl bh k).1 (al + k), pd_un (pd_an a b al ah bl bh k).2.2 (pd_an a b al ah bl bh k).1 (pd_lp b (a (al + k)) bl (bh - bl)))
    else pd_an a b al ah bl bh k := rfl
/-- what is known of anchors -/
def pd_AK (a b : Nat → Int32) (al ah bl bh : Nat) (s : Nat × (Nat → Nat) × (Nat → Nat)) : Prop :=
  (∀ p, p < s.1 → al ≤ s.2.1 p ∧ s.2.1 p < ah ∧ bl ≤ s.2.2 p ∧ s.2.2 p < bh ∧ a (s.2.1 p) = b (s.2.2 p)) ∧ (∀ p q, p < q → q < s.1 → s.2.1 p < s.2.1 q)
theorem pd_an_k {a b : Nat → Int32} {al ah bl bh : Nat} : ∀ k, (pd_an a b al ah bl bh k).1 ≤ k ∧ pd_AK a b al (al + k) bl bh (pd_an a b al ah bl bh k) := by
  intro k
  induction k with
  | zero => exact ⟨Nat.le_refl 0, fun p h => absurd h (Nat.not_lt_zero _), fun p q _ h => absurd h (Nat.not_lt_zero _)⟩
  | succ k ih =>
    rw [pd_an_s]
    obtain ⟨h1, h2, h3⟩ := ih
    by_cases e : pd_ct a (a (al + k)) al (ah - al) = 1 ∧ pd_ct b (a (al + k)) bl (bh - bl) = 1
    · rw [if_pos e]
      obtain ⟨l1, l2, l3⟩ := pd_lp_in (f := b) (v := a (al + k)) (lo := bl) (bh - bl) (by omega)
      refine ⟨by dsimp only; omega, fun p hp => ?_, fun p q hpq hq => ?_⟩
      · dsimp only at hp ⊢
        by_cases ep : p = (pd_an a b al ah bl bh k).1
        · subst ep
          rw [pd_un_s, pd_un_s]
          exact ⟨by omega, by omega, l1, by omega, l3.symm⟩
        · rw [pd_un_n ep, pd_un_n ep]
          have := h2 p (by omega)
          exact ⟨this.1, by omega, this.2.2.1, this.2.2.2.1, this.2.2.2.2⟩
      · dsimp only at hq ⊢
        rw [pd_un_n (by omega)]
        by_cases eq : q = (pd_an a b al ah bl bh k).1
        · subst eq
          rw [pd_un_s]
          exact (h2 p hpq).2.1
        · rw [pd_un_n eq]
          exact h3 p q hpq (by omega)
    · rw [if_neg e]
      exact ⟨by omega, fun p hp => by have := h2 p hp; exact ⟨this.1, by omega, this.2.2.1, this.2.2.2.1, this.2.2.2.2⟩, h3⟩
/-- the greatest rank of an anchor before p that lies lower in B; the ranks; the greatest of the first p -/
def pd_bs (aj rk : Nat → Nat) (p : Nat) : Nat → Nat
  | 0 => 0
  | q + 1 => if aj q < aj p ∧ pd_bs aj rk p q < rk q then rk q else pd_bs aj rk p q
theorem pd_bs_s (aj rk : Nat → Nat) (p q : Nat) : pd_bs aj rk p (q + 1) = if aj q < aj p ∧ pd_bs aj rk p q < rk q then rk q else pd_bs aj rk p q := rfl
def pd_rs (aj : Nat → Nat) : Nat → Nat → Nat
  | 0 => fun _ => 0
  | p + 1 => pd_un (pd_rs aj p) p (pd_bs aj (pd_rs aj p) p p + 1)
def pd_rk (aj : Nat → Nat) (p : Nat) : Nat := pd_rs aj (p + 1) p
theorem pd_bs_c {aj r t : Nat → Nat} {p : Nat} : ∀ q, (∀ x, x < q → r x = t x) → pd_bs aj r p q = pd_bs aj t p q := by
  intro q
  induction q with
  | zero => intro _; rfl
  | succ q ih =>
    intro h
    rw [pd_bs_s, pd_bs_s, ih (fun x hx => h x (by omega)), h q (by omega)]
theorem pd_rs_k {aj : Nat → Nat} {q : Nat} : ∀ m, q < m → pd_rs aj m q = pd_rk aj q := by
  intro m
  induction m with
  | zero => intro h; omega
  | succ m ih =>
    intro h
    by_cases e : q = m
    · subst e; rfl
    · show pd_un _ m _ q = _
      rw [pd_un_n e, ih (by omega)]
theorem pd_rk_e (aj : Nat → Nat) (p : Nat) : pd_rk aj p = pd_bs aj (pd_rk aj) p p + 1 := by
  show pd_un _ p _ p = _
  rw [pd_un_s, pd_bs_c p (fun x hx => pd_rs_k p hx)]
theorem pd_bs_le {aj rk : Nat → Nat} {p B : Nat} : ∀ q, (∀ x, x < q → rk x ≤ B) → pd_bs aj rk p q ≤ B := by
  intro q
  induction q with
  | zero => intro _; exact Nat.zero_le _
  | succ q ih =>
    intro h
    rw [pd_bs_s]
    split
    · exact h q (by omega)
    · exact ih (fun x hx => h x (by omega))
theorem pd_rk_le (aj : Nat → Nat) : ∀ m p, p < m → pd_rk aj p ≤ p + 1 := by
  intro m
  induction m with
  | zero => intro p h; omega
  | succ m ih =>
    intro p h
    rw [pd_rk_e]
    have := pd_bs_le (aj := aj) (rk := pd_rk aj) (p := p) (B := p) p (fun x hx => by have := ih x (by omega); omega)
    omega
theorem pd_rk_l (aj : Nat → Nat) (p : Nat) : pd_rk aj p ≤ p + 1 := pd_rk_le aj (p + 1) p (Nat.lt_succ_self p)
theorem pd_rk_1 (aj : Nat → Nat) (p : Nat) : 1 ≤ pd_rk aj p := by rw [pd_rk_e]; omega
theorem pd_bs_x {aj rk : Nat → Nat} {p : Nat} : ∀ q, 1 ≤ pd_bs aj rk p q → ∃ x, x < q ∧ aj x < aj p ∧ rk x = pd_bs aj rk p q := by
  intro q
  induction q with
  | zero => intro h; exact absurd h (Nat.not_succ_le_zero 0)
  | succ q ih =>
    intro h
    rw [pd_bs_s] at h ⊢
    by_cases e : aj q < aj p ∧ pd_bs aj rk p q < rk q
    · rw [if_pos e]; exact ⟨q, by omega, e.1, rfl⟩
    · rw [if_neg e] at h ⊢
      obtain ⟨x, hx, h1, h2⟩ := ih h
      exact ⟨x, by omega, h1, h2⟩
theorem pd_rk_x {aj : Nat → Nat} {p l : Nat} (hl : 1 ≤ l) (h : pd_rk aj p = l + 1) : ∃ q, q < p ∧ aj q < aj p ∧ pd_rk aj q = l := by
  rw [pd_rk_e] at h
  obtain ⟨x, hx, h1, h2⟩ := pd_bs_x (aj := aj) (rk := pd_rk aj) (p := p) p (by omega)
  exact ⟨x, hx, h1, by omega⟩
def pd_gr (rk : Nat → Nat) : Nat → Nat
  | 0 => 0
  | p + 1 => if pd_gr rk p < rk p then rk p else pd_gr rk p
theorem pd_gr_s (rk : Nat → Nat) (p : Nat) : pd_gr rk (p + 1) = if pd_gr rk p < rk p then rk p else pd_gr rk p := rfl
theorem pd_gr_ge {rk : Nat → Nat} : ∀ m p, p < m → rk p ≤ pd_gr rk m := by
  intro m
  induction m with
  | zero => intro p h; omega
  | succ m ih =>
    intro p h
    rw [pd_gr_s]
    by_cases e : p = m
    · subst e; split <;> omega
    · have := ih p (by omega)
      split <;> omega
theorem pd_gr_x {rk : Nat → Nat} : ∀ m, 1 ≤ pd_gr rk m → ∃ p, p < m ∧ rk p = pd_gr rk m := by
  intro m
  induction m with
  | zero => intro h; exact absurd h (Nat.not_succ_le_zero 0)
  | succ m ih =>
    intro h
    rw [pd_gr_s] at h ⊢
    by_cases e : pd_gr rk m < rk m
    · rw [if_pos e]; exact ⟨m, by omega, rfl⟩
    · rw [if_neg e] at h ⊢
      obtain ⟨p, hp, h2⟩ := ih h
      exact ⟨p, by omega, h2⟩
theorem pd_gr_le {rk : Nat → Nat} {B : Nat} : ∀ m, (∀ p, p < m → rk p ≤ B) → pd_gr rk m ≤ B := by
  intro m
  induction m with
  | zero => intro _; exact Nat.zero_le _
  | succ m ih =>
    intro h
    rw [pd_gr_s]
    have h1 := h m (by omega)
    have h2 := ih (fun p hp => h p (by omega))
    split <;> omega
