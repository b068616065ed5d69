section
/-! numbers -/
theorem pd_m1lt : (-1 : Int32) < 0 := by decide
theorem pd_ne1 {a : Nat} (h : a < 2 ^ 31) : ¬ nI a = -1 := by
  intro e
  have := nI_pos (n := a) h
  rw [e] at this
  exact this pd_m1lt
theorem pd_s1 {n : Nat} (h : 0 < n) : nI n - 1 = nI (n - 1) := by
  obtain ⟨m, rfl⟩ : ∃ m, n = m + 1 := ⟨n - 1, by omega⟩
  exact nI_pred m
theorem pd_a1 {n : Nat} (h : 0 < n) : nI n + (-1) = nI (n - 1) := sb_m1 h
theorem pd_im {a b : Nat} (h : nI a = nI b) (ha : a < 2 ^ 31) (hb : b < 2 ^ 31) : a = b := (nI_eq ha hb).mp h
/-- an answer that may be wanting -/
def pd_e : Option Nat → Int32
  | none => -1
  | some j => nI j
theorem pd_e_inj {o p : Option Nat} (ho : ∀ j, o = some j → j < 2 ^ 31) (hp : ∀ j, p = some j → j < 2 ^ 31) (h : pd_e o = pd_e p) : o = p := by
  cases o with
  | none =>
    cases p with
    | none => rfl
    | some j => exact absurd h.symm (pd_ne1 (hp j rfl))
  | some i =>
    cases p with
    | none => exact absurd h (pd_ne1 (ho i rfl))
    | some j => exact congrArg some (pd_im h (ho i rfl) (hp j rfl))
/-- how many of the first k cells of M are not -1 -/
def pd_cm (M : Nat → Int32) : Nat → Nat
  | 0 => 0
  | k + 1 => pd_cm M k + if M k = -1 then 0 else 1
theorem pd_cm_s (M : Nat → Int32) (k : Nat) : pd_cm M (k + 1) = pd_cm M k + if M k = -1 then 0 else 1 := rfl
theorem pd_cm_le (M : Nat → Int32) : ∀ k, pd_cm M k ≤ k := by
  intro k
  induction k with
  | zero => exact Nat.le_refl 0
  | succ k ih => rw [pd_cm_s]; split <;> omega
theorem pd_cm_ge {M : Nat → Int32} {i : Nat} {x : Int32} : ∀ k, k ≤ i → pd_cm (upd M i x) k = pd_cm M k := by
  intro k
  induction k with
  | zero => intro _; rfl
  | succ k ih =>
    intro h
    rw [pd_cm_s, pd_cm_s, ih (by omega), pk_un (by omega)]
theorem pd_cm_u {M : Nat → Int32} {i : Nat} {x : Int32} (hM : M i = -1) (hx : ¬ x = -1) : ∀ k, i < k → pd_cm (upd M i x) k = pd_cm M k + 1 := by
  intro k
  induction k with
  | zero => intro h; omega
  | succ k ih =>
    intro h
    rw [pd_cm_s, pd_cm_s]
    by_cases e : i = k
    · subst e
      rw [pd_cm_ge _ (Nat.le_refl _), pk_us, hM, if_neg hx, if_pos rfl]
    · rw [ih (by omega), pk_un (by omega)]
      omega
theorem pd_cm_c {M N : Nat → Int32} : ∀ k, (∀ x, x < k → M x = N x) → pd_cm M k = pd_cm N k := by
  intro k
  induction k with
  | zero => intro _; rfl
  | succ k ih =>
    intro h
    rw [pd_cm_s, pd_cm_s, ih (fun x hx => h x (by omega)), h k (by omega)]
end
section
/-! the gap's pure pictures: common beginning, common end, occurrences, anchors, ranks, the chain, the table and its walk -/
def pd_pf (a b : Nat → Int32) : Nat → Nat → Nat → Nat
  | 0, _, _ => 0
  | k + 1, i, j => if a i = b j then pd_pf a b k (i + 1) (j + 1) + 1 else 0
theorem pd_pf_s (a b : Nat → Int32) (k i j : Nat) : pd_pf a b (k + 1) i j = if a i = b j then pd_pf a b k (i + 1) (j + 1) + 1 else 0 := rfl
theorem pd_pf_le {a b : Nat → Int32} : ∀ k i j, pd_pf a b k i j ≤ k := by
  intro k
  induction k with
  | zero => intro i j; exact Nat.le_refl 0
  | succ k ih =>
    intro i j
    have := ih (i + 1) (j + 1)
    rw [pd_pf_s]
    split <;> omega
theorem pd_pf_eq {a b : Nat → Int32} : ∀ k i j x, x < pd_pf a b k i j → a (i + x) = b (j + x) := by
  intro k
  induction k with
  | zero => intro i j x h; exact absurd h (Nat.not_lt_zero _)
  | succ k ih =>
    intro i j x h
    rw [pd_pf_s] at h
    by_cases e : a i = b j
    · rw [if_pos e] at h
      cases x with
      | zero => exact e
      | succ x =>
        have := ih (i + 1) (j + 1) x (by omega)
        rw [show i + (x + 1) = i + 1 + x by omega, show j + (x + 1) = j + 1 + x by omega]
        exact this
    · rw [if_neg e] at h
      exact absurd h (Nat.not_lt_zero _)
def pd_sf (a b : Nat → Int32) : Nat → Nat → Nat → Nat
  | 0, _, _ => 0
  | k + 1, i, j => if a (i - 1) = b (j - 1) then pd_sf a b k (i - 1) (j - 1) + 1 else 0
theorem pd_sf_s (a b : Nat → Int32) (k i j : Nat) : pd_sf a b (k + 1) i j = if a (i - 1) = b (j - 1) then pd_sf a b k (i - 1) (j - 1) + 1 else 0 := rfl
theorem pd_sf_le {a b : Nat → Int32} : ∀ k i j, pd_sf a b k i j ≤ k := by
  intro k
  induction k with
  | zero => intro i j; exact Nat.le_refl 0
  | succ k ih =>
    intro i j
    have := ih (i - 1) (j - 1)
    rw [pd_sf_s]
    split <;> omega
theorem pd_sf_eq {a b : Nat → Int32} : ∀ k i j x, x < pd_sf a b k i j → a (i - 1 - x) = b (j - 1 - x) := by
  intro k
  induction k with
  | zero => intro i j x h; exact absurd h (Nat.not_lt_zero _)
  | succ k ih =>
    intro i j x h
    rw [pd_sf_s] at h
    by_cases e : a (i - 1) = b (j - 1)
    · rw [if_pos e] at h
      cases x with
      | zero => exact e
      | succ x =>
        have := ih (i - 1) (j - 1) x (by omega)
        rw [show i - 1 - (x + 1) = i - 1 - 1 - x by omega, show j - 1 - (x + 1) = j - 1 - 1 - x by omega]
        exact this
    · rw [if_neg e] at h
      exact absurd h (Nat.not_lt_zero _)
/-- how often v stands in f's cells lo .. lo + k - 1, and where last -/
def pd_ct (f : Nat → Int32) (v : Int32) (lo : Nat) : Nat → Nat
  | 0 => 0
  | k + 1 => pd_ct f v lo k + if f (lo + k) = v then 1 else 0
def pd_lp (f : Nat → Int32) (v : Int32) (lo : Nat) : Nat → Nat
  | 0 => 0
  | k + 1 => if f (lo + k) = v then lo + k else pd_lp f v lo k
theorem pd_ct_s (f : Nat → Int32) (v : Int32) (lo k : Nat) : pd_ct f v lo (k + 1) = pd_ct f v lo k + if f (lo + k) = v then 1 else 0 := rfl
theorem pd_lp_s (f : Nat → Int32) (v : Int32) (lo k : Nat) : pd_lp f v lo (k + 1) = if f (lo + k) = v then lo + k else pd_lp f v lo k := rfl
theorem pd_ct_le {f : Nat → Int32} {v : Int32} {lo : Nat} : ∀ k, pd_ct f v lo k ≤ k := by
  intro k
  induction k with
  | zero => exact Nat.le_refl 0
  | succ k ih => rw [pd_ct_s]; split <;> omega
theorem pd_ct_1 {f : Nat → Int32} {v : Int32} {lo x : Nat} (hx : f (lo + x) = v) : ∀ k, x < k → 1 ≤ pd_ct f v lo k := by
  intro k
  induction k with
  | zero => intro h; omega
  | succ k ih =>
    intro h
    rw [pd_ct_s]
    by_cases e : x = k
    · subst e; rw [if_pos hx]; omega
    · have := ih (by omega); omega
theorem pd_ct_2 {f : Nat → Int32} {v : Int32} {lo x y : Nat} (hx : f (lo + x) = v) (hy : f (lo + y) = v) (hxy : x < y) : ∀ k, y < k → 2 ≤ pd_ct f v lo k := by
  intro k
  induction k with
  | zero => intro h; omega
  | succ k ih =>
    intro h
    rw [pd_ct_s]
    by_cases e : y = k
    · subst e
      have := pd_ct_1 hx y hxy
      rw [if_pos hy]; omega
    · have := ih (by omega); omega
theorem pd_ct_u {f : Nat → Int32} {v : Int32} {lo k x y : Nat} (h : pd_ct f v lo k = 1) (hx : f (lo + x) = v) (hxk : x < k) (hy : f (lo + y) = v) (hyk : y < k) : x = y := by
  rcases Nat.lt_trichotomy x y with e | e | e
  · have := pd_ct_2 hx hy e k hyk; omega
  · exact e
  · have := pd_ct_2 hy hx e k hxk; omega
theorem pd_lp_in {f : Nat → Int32} {v : Int32} {lo : Nat} : ∀ k, 1 ≤ pd_ct f v lo k → lo ≤ pd_lp f v lo k ∧ pd_lp f v lo k < lo + k ∧ f (pd_lp f v lo k) = v := by
  intro k
  induction k with
  | zero => intro h; exact absurd h (Nat.not_succ_le_zero 0)
  | succ k ih =>
    intro h
    rw [pd_ct_s] at h
    rw [pd_lp_s]
    by_cases e : f (lo + k) = v
    · rw [if_pos e]; exact ⟨by omega, by omega, e⟩
    · rw [if_neg e] at h ⊢
      have := ih (by omega)
      exact ⟨this.1, by omega, this.2.2⟩
/-- the anchors: their number, their places in A and in B, after k lines of the gap -/
def pd_un (f : Nat → Nat) (k v : Nat) : Nat → Nat := fun q => if q = k then v else f q
theorem pd_un_s {f : Nat → Nat} {k v : Nat} : pd_un f k v k = v := if_pos rfl
theorem pd_un_n {f : Nat → Nat} {k v q : Nat} (h : q ≠ k) : pd_un f k v q = f q := if_neg h
def pd_an (a b : Nat → Int32) (al ah bl bh : Nat) : Nat → Nat × (Nat → Nat) × (Nat → Nat)
  | 0 => (0, fun _ => 0, fun _ => 0)
  | k + 1 => if pd_ct a (a (al + k)) al (ah - al) = 1 ∧ pd_ct b (a (al + k)) bl (bh - bl) = 1 then
      ((pd_an a b al ah bl bh k).1 + 1, pd_un (pd_an a b al ah bl bh k).2.1 (pd_an a b al ah bl bh k).1 (al + k), pd_un (pd_an a b al ah bl bh k).2.2 (pd_an a b al ah bl bh k).1 (pd_lp b (a (al + k)) bl (bh - bl)))
    else pd_an a b al ah bl bh k
theorem pd_an_s (a b : Nat → Int32) (al ah bl bh k : Nat) : pd_an a b al ah bl bh (k + 1) = if pd_ct a (a (al + k)) al (ah - al) = 1 ∧ pd_ct b (a (al + k)) bl (bh - bl) = 1 then
      ((pd_an a b al ah bl bh k).1 + 1, pd_un (pd_an a b al ah bl bh k).2.1 (pd_an a b al ah bl bh k).1 (al + k), pd_un (pd_an a b al ah bl bh k).2.2 (pd_an a b al ah bl bh k).1 (pd_lp b (a (al + k)) bl (bh - bl)))
    else pd_an a b al ah bl bh k := rfl
/-- what is known of anchors -/
def pd_AK (a b : Nat → Int32) (al ah bl bh : Nat) (s : Nat × (Nat → Nat) × (Nat → Nat)) : Prop :=
  (∀ p, p < s.1 → al ≤ s.2.1 p ∧ s.2.1 p < ah ∧ bl ≤ s.2.2 p ∧ s.2.2 p < bh ∧ a (s.2.1 p) = b (s.2.2 p)) ∧ (∀ p q, p < q → q < s.1 → s.2.1 p < s.2.1 q)
theorem pd_an_k {a b : Nat → Int32} {al ah bl bh : Nat} : ∀ k, (pd_an a b al ah bl bh k).1 ≤ k ∧ pd_AK a b al (al + k) bl bh (pd_an a b al ah bl bh k) := by
  intro k
  induction k with
  | zero => exact ⟨Nat.le_refl 0, fun p h => absurd h (Nat.not_lt_zero _), fun p q _ h => absurd h (Nat.not_lt_zero _)⟩
  | succ k ih =>
    rw [pd_an_s]
    obtain ⟨h1, h2, h3⟩ := ih
    by_cases e : pd_ct a (a (al + k)) al (ah - al) = 1 ∧ pd_ct b (a (al + k)) bl (bh - bl) = 1
    · rw [if_pos e]
      obtain ⟨l1, l2, l3⟩ := pd_lp_in (f := b) (v := a (al + k)) (lo := bl) (bh - bl) (by omega)
      refine ⟨by dsimp only; omega, fun p hp => ?_, fun p q hpq hq => ?_⟩
      · dsimp only at hp ⊢
        by_cases ep : p = (pd_an a b al ah bl bh k).1
        · subst ep
          rw [pd_un_s, pd_un_s]
          exact ⟨by omega, by omega, l1, by omega, l3.symm⟩
        · rw [pd_un_n ep, pd_un_n ep]
          have := h2 p (by omega)
          exact ⟨this.1, by omega, this.2.2.1, this.2.2.2.1, this.2.2.2.2⟩
      · dsimp only at hq ⊢
        rw [pd_un_n (by omega)]
        by_cases eq : q = (pd_an a b al ah bl bh k).1
        · subst eq
          rw [pd_un_s]
          exact (h2 p hpq).2.1
        · rw [pd_un_n eq]
          exact h3 p q hpq (by omega)
    · rw [if_neg e]
      exact ⟨by omega, fun p hp => by have := h2 p hp; exact ⟨this.1, by omega, this.2.2.1, this.2.2.2.1, this.2.2.2.2⟩, h3⟩
/-- the greatest rank of an anchor before p that lies lower in B; the ranks; the greatest of the first p -/
def pd_bs (aj rk : Nat → Nat) (p : Nat) : Nat → Nat
  | 0 => 0
  | q + 1 => if aj q < aj p ∧ pd_bs aj rk p q < rk q then rk q else pd_bs aj rk p q
theorem pd_bs_s (aj rk : Nat → Nat) (p q : Nat) : pd_bs aj rk p (q + 1) = if aj q < aj p ∧ pd_bs aj rk p q < rk q then rk q else pd_bs aj rk p q := rfl
def pd_rs (aj : Nat → Nat) : Nat → Nat → Nat
  | 0 => fun _ => 0
  | p + 1 => pd_un (pd_rs aj p) p (pd_bs aj (pd_rs aj p) p p + 1)
def pd_rk (aj : Nat → Nat) (p : Nat) : Nat := pd_rs aj (p + 1) p
theorem pd_bs_c {aj r t : Nat → Nat} {p : Nat} : ∀ q, (∀ x, x < q → r x = t x) → pd_bs aj r p q = pd_bs aj t p q := by
  intro q
  induction q with
  | zero => intro _; rfl
  | succ q ih =>
    intro h
    rw [pd_bs_s, pd_bs_s, ih (fun x hx => h x (by omega)), h q (by omega)]
theorem pd_rs_k {aj : Nat → Nat} {q : Nat} : ∀ m, q < m → pd_rs aj m q = pd_rk aj q := by
  intro m
  induction m with
  | zero => intro h; omega
  | succ m ih =>
    intro h
    by_cases e : q = m
    · subst e; rfl
    · show pd_un _ m _ q = _
      rw [pd_un_n e, ih (by omega)]
theorem pd_rk_e (aj : Nat → Nat) (p : Nat) : pd_rk aj p = pd_bs aj (pd_rk aj) p p + 1 := by
  show pd_un _ p _ p = _
  rw [pd_un_s, pd_bs_c p (fun x hx => pd_rs_k p hx)]
theorem pd_bs_le {aj rk : Nat → Nat} {p B : Nat} : ∀ q, (∀ x, x < q → rk x ≤ B) → pd_bs aj rk p q ≤ B := by
  intro q
  induction q with
  | zero => intro _; exact Nat.zero_le _
  | succ q ih =>
    intro h
    rw [pd_bs_s]
    split
    · exact h q (by omega)
    · exact ih (fun x hx => h x (by omega))
theorem pd_rk_le (aj : Nat → Nat) : ∀ m p, p < m → pd_rk aj p ≤ p + 1 := by
  intro m
  induction m with
  | zero => intro p h; omega
  | succ m ih =>
    intro p h
    rw [pd_rk_e]
    have := pd_bs_le (aj := aj) (rk := pd_rk aj) (p := p) (B := p) p (fun x hx => by have := ih x (by omega); omega)
    omega
theorem pd_rk_l (aj : Nat → Nat) (p : Nat) : pd_rk aj p ≤ p + 1 := pd_rk_le aj (p + 1) p (Nat.lt_succ_self p)
theorem pd_rk_1 (aj : Nat → Nat) (p : Nat) : 1 ≤ pd_rk aj p := by rw [pd_rk_e]; omega
theorem pd_bs_x {aj rk : Nat → Nat} {p : Nat} : ∀ q, 1 ≤ pd_bs aj rk p q → ∃ x, x < q ∧ aj x < aj p ∧ rk x = pd_bs aj rk p q := by
  intro q
  induction q with
  | zero => intro h; exact absurd h (Nat.not_succ_le_zero 0)
  | succ q ih =>
    intro h
    rw [pd_bs_s] at h ⊢
    by_cases e : aj q < aj p ∧ pd_bs aj rk p q < rk q
    · rw [if_pos e]; exact ⟨q, by omega, e.1, rfl⟩
    · rw [if_neg e] at h ⊢
      obtain ⟨x, hx, h1, h2⟩ := ih h
      exact ⟨x, by omega, h1, h2⟩
theorem pd_rk_x {aj : Nat → Nat} {p l : Nat} (hl : 1 ≤ l) (h : pd_rk aj p = l + 1) : ∃ q, q < p ∧ aj q < aj p ∧ pd_rk aj q = l := by
  rw [pd_rk_e] at h
  obtain ⟨x, hx, h1, h2⟩ := pd_bs_x (aj := aj) (rk := pd_rk aj) (p := p) p (by omega)
  exact ⟨x, hx, h1, by omega⟩
def pd_gr (rk : Nat → Nat) : Nat → Nat
  | 0 => 0
  | p + 1 => if pd_gr rk p < rk p then rk p else pd_gr rk p
theorem pd_gr_s (rk : Nat → Nat) (p : Nat) : pd_gr rk (p + 1) = if pd_gr rk p < rk p then rk p else pd_gr rk p := rfl
theorem pd_gr_ge {rk : Nat → Nat} : ∀ m p, p < m → rk p ≤ pd_gr rk m := by
  intro m
  induction m with
  | zero => intro p h; omega
  | succ m ih =>
    intro p h
    rw [pd_gr_s]
    by_cases e : p = m
    · subst e; split <;> omega
    · have := ih p (by omega)
      split <;> omega
theorem pd_gr_x {rk : Nat → Nat} : ∀ m, 1 ≤ pd_gr rk m → ∃ p, p < m ∧ rk p = pd_gr rk m := by
  intro m
  induction m with
  | zero => intro h; exact absurd h (Nat.not_succ_le_zero 0)
  | succ m ih =>
    intro h
    rw [pd_gr_s] at h ⊢
    by_cases e : pd_gr rk m < rk m
    · rw [if_pos e]; exact ⟨m, by omega, rfl⟩
    · rw [if_neg e] at h ⊢
      obtain ⟨p, hp, h2⟩ := ih h
      exact ⟨p, by omega, h2⟩
theorem pd_gr_le {rk : Nat → Nat} {B : Nat} : ∀ m, (∀ p, p < m → rk p ≤ B) → pd_gr rk m ≤ B := by
  intro m
  induction m with
  | zero => intro _; exact Nat.zero_le _
  | succ m ih =>
    intro h
    rw [pd_gr_s]
    have h1 := h m (by omega)
    have h2 := ih (fun p hp => h p (by omega))
    split <;> omega
end
section
/-! the last place below n with P; the chain from its end; the table; its walk; V -/
def pd_la (P : Nat → Bool) : Nat → Option Nat
  | 0 => none
  | n + 1 => if P n = true then some n else pd_la P n
theorem pd_la_s (P : Nat → Bool) (n : Nat) : pd_la P (n + 1) = if P n = true then some n else pd_la P n := rfl
theorem pd_la_k {P : Nat → Bool} {q : Nat} : ∀ n, pd_la P n = some q → q < n ∧ P q = true := by
  intro n
  induction n with
  | zero => intro h; exact nomatch h
  | succ n ih =>
    intro h
    rw [pd_la_s] at h
    by_cases e : P n = true
    · rw [if_pos e] at h
      cases h
      exact ⟨by omega, e⟩
    · rw [if_neg e] at h
      have := ih h
      exact ⟨by omega, this.2⟩
theorem pd_la_x {P : Nat → Bool} {q : Nat} (hP : P q = true) : ∀ n, q < n → ∃ r, pd_la P n = some r := by
  intro n
  induction n with
  | zero => intro h; omega
  | succ n ih =>
    intro h
    rw [pd_la_s]
    by_cases e : P n = true
    · rw [if_pos e]; exact ⟨n, rfl⟩
    · rw [if_neg e]
      have : q ≠ n := fun z => e (z ▸ hP)
      exact ih (by omega)
theorem pd_la_c {P : Nat → Bool} {m : Nat} : ∀ n, m ≤ n → (∀ r, m ≤ r → r < n → ¬ P r = true) → pd_la P n = pd_la P m := by
  intro n
  induction n with
  | zero => intro h _; have : m = 0 := by omega
            subst this; rfl
  | succ n ih =>
    intro h hr
    by_cases e : m = n + 1
    · subst e; rfl
    · rw [pd_la_s, if_neg (hr n (by omega) (by omega))]
      exact ih (by omega) (fun r h1 h2 => hr r h1 (by omega))
def pd_Q (ao aj rk : Nat → Nat) (c : Option Nat) (l q : Nat) : Bool :=
  match c with
  | none => decide (rk q = l)
  | some c => decide (rk q = l ∧ ao q < ao c ∧ aj q < aj c)
/-- the chain's d-th anchor from its end -/
def pd_cd (ao aj rk : Nat → Nat) (na K : Nat) : Nat → Option Nat
  | 0 => pd_la (pd_Q ao aj rk none K) na
  | d + 1 => pd_la (pd_Q ao aj rk (pd_cd ao aj rk na K d) (K - (d + 1))) na
theorem pd_cd_s (ao aj rk : Nat → Nat) (na K d : Nat) : pd_cd ao aj rk na K (d + 1) = pd_la (pd_Q ao aj rk (pd_cd ao aj rk na K d) (K - (d + 1))) na := rfl
/-- what is known of ranks -/
def pd_RK (ao aj rk : Nat → Nat) (na K : Nat) : Prop :=
  1 ≤ K ∧ (∃ p, p < na ∧ rk p = K) ∧ (∀ p, p < na → 1 ≤ rk p) ∧ (∀ p l, p < na → 1 ≤ l → rk p = l + 1 → ∃ q, q < p ∧ aj q < aj p ∧ rk q = l) ∧ (∀ p q, p < q → q < na → ao p < ao q)
theorem pd_cd_k {ao aj rk : Nat → Nat} {na K : Nat} (h : pd_RK ao aj rk na K) : ∀ d, d < K → ∃ c, pd_cd ao aj rk na K d = some c ∧ c < na ∧ rk c = K - d := by
  obtain ⟨h1, ⟨p, hp, hpk⟩, h3, h4, h5⟩ := h
  intro d
  induction d with
  | zero =>
    intro _
    obtain ⟨r, hr⟩ := pd_la_x (P := pd_Q ao aj rk none K) (q := p) (decide_eq_true hpk) na hp
    obtain ⟨k1, k2⟩ := pd_la_k na hr
    exact ⟨r, hr, k1, of_decide_eq_true k2⟩
  | succ d ih =>
    intro hd
    obtain ⟨c, hc, hcn, hck⟩ := ih (by omega)
    obtain ⟨q, q1, q2, q3⟩ := h4 c (K - (d + 1)) hcn (by omega) (by omega)
    rw [pd_cd_s, hc]
    obtain ⟨r, hr⟩ := pd_la_x (P := pd_Q ao aj rk (some c) (K - (d + 1))) (q := q) (decide_eq_true ⟨q3, h5 q c q1 hcn, q2⟩) na (by omega)
    obtain ⟨k1, k2⟩ := pd_la_k na hr
    have := of_decide_eq_true k2
    exact ⟨r, hr, k1, by omega⟩
theorem pd_cd_d {ao aj rk : Nat → Nat} {na K d c e : Nat} (hc : pd_cd ao aj rk na K d = some c) (he : pd_cd ao aj rk na K (d + 1) = some e) : ao e < ao c ∧ aj e < aj c := by
  rw [pd_cd_s, hc] at he
  have := of_decide_eq_true (pd_la_k na he).2
  exact this.2
/-- the table of common lengths, by the distances from the ends -/
def pd_Tr (b : Nat → Int32) (bh : Nat) (prev : Nat → Nat) (x : Int32) : Nat → Nat
  | 0 => 0
  | e + 1 => if x = b (bh - (e + 1)) then prev e + 1 else if pd_Tr b bh prev x e ≤ prev (e + 1) then prev (e + 1) else pd_Tr b bh prev x e
def pd_T (a b : Nat → Int32) (ah bh : Nat) : Nat → Nat → Nat
  | 0 => fun _ => 0
  | d + 1 => pd_Tr b bh (pd_T a b ah bh d) (a (ah - (d + 1)))
theorem pd_T_0 (a b : Nat → Int32) (ah bh d : Nat) : pd_T a b ah bh d 0 = 0 := by
  cases d <;> rfl
theorem pd_T_s (a b : Nat → Int32) (ah bh d e : Nat) : pd_T a b ah bh (d + 1) (e + 1) = if a (ah - (d + 1)) = b (bh - (e + 1)) then pd_T a b ah bh d e + 1 else if pd_T a b ah bh (d + 1) e ≤ pd_T a b ah bh d (e + 1) then pd_T a b ah bh d (e + 1) else pd_T a b ah bh (d + 1) e := rfl
theorem pd_T_le {a b : Nat → Int32} {ah bh : Nat} : ∀ d e, pd_T a b ah bh d e ≤ d := by
  intro d
  induction d with
  | zero => intro e; exact Nat.le_refl 0
  | succ d ih =>
    intro e
    induction e with
    | zero => rw [pd_T_0]; omega
    | succ e ie =>
      rw [pd_T_s]
      have h1 := ih e
      have h2 := ih (e + 1)
      split
      · omega
      · split <;> omega
def pd_lm (a b : Nat → Int32) (ah bh : Nat) : Nat → Nat → Nat → Nat → Option Nat
  | 0, _, _, _ => none
  | f + 1, i, j, x => if i < ah ∧ j < bh then (if a i = b j then (if x = i then some j else pd_lm a b ah bh f (i + 1) (j + 1) x) else if pd_T a b ah bh (ah - i) (bh - (j + 1)) ≤ pd_T a b ah bh (ah - (i + 1)) (bh - j) then pd_lm a b ah bh f (i + 1) j x else pd_lm a b ah bh f i (j + 1) x) else none
theorem pd_lm_s (a b : Nat → Int32) (ah bh f i j x : Nat) : pd_lm a b ah bh (f + 1) i j x = if i < ah ∧ j < bh then (if a i = b j then (if x = i then some j else pd_lm a b ah bh f (i + 1) (j + 1) x) else if pd_T a b ah bh (ah - i) (bh - (j + 1)) ≤ pd_T a b ah bh (ah - (i + 1)) (bh - j) then pd_lm a b ah bh f (i + 1) j x else pd_lm a b ah bh f i (j + 1) x) else none := rfl
/-- what a matching of the gap keeps: its range, equal lines, rising -/
def pd_ok (a b : Nat → Int32) (F : Nat → Option Nat) (al ah bl bh : Nat) : Prop :=
  (∀ i j, al ≤ i → i < ah → F i = some j → bl ≤ j ∧ j < bh ∧ a i = b j) ∧ (∀ i i' j j', al ≤ i → i < i' → i' < ah → F i = some j → F i' = some j' → j < j')
theorem pd_ok_n {a b : Nat → Int32} {F : Nat → Option Nat} {al ah bl bh : Nat} (h : ∀ x, al ≤ x → x < ah → F x = none) : pd_ok a b F al ah bl bh :=
  ⟨fun i j h1 h2 h3 => by rw [h i h1 h2] at h3; exact (nomatch h3), fun i i' j j' h1 h2 h3 h4 _ => by rw [h i h1 (by omega)] at h4; exact (nomatch h4)⟩
theorem pd_ok_g {a b : Nat → Int32} {F : Nat → Option Nat} {al x ah bl y bh : Nat} (hb : bl ≤ y) (hb2 : y ≤ bh) (h : pd_ok a b F al x bl y) (k : pd_ok a b F x ah y bh) : pd_ok a b F al ah bl bh := by
  refine ⟨fun i j h1 h2 h3 => ?_, fun i i' j j' h1 h2 h3 h4 h5 => ?_⟩
  · by_cases e : i < x
    · have := h.1 i j h1 e h3
      exact ⟨this.1, by omega, this.2.2⟩
    · have := k.1 i j (by omega) h2 h3
      exact ⟨by omega, this.2.1, this.2.2⟩
  · by_cases e : i < x
    · by_cases e' : i' < x
      · exact h.2 i i' j j' h1 h2 e' h4 h5
      · have p := h.1 i j h1 e h4
        have q := k.1 i' j' (by omega) h3 h5
        omega
    · exact k.2 i i' j j' (by omega) h2 h3 h4 h5
theorem pd_ok_1 {a b : Nat → Int32} {F : Nat → Option Nat} {x y : Nat} (hF : F x = some y) (h : a x = b y) : pd_ok a b F x (x + 1) y (y + 1) := by
  refine ⟨fun i j h1 h2 h3 => ?_, fun i i' j j' h1 h2 h3 h4 h5 => by omega⟩
  have e : i = x := by omega
  subst e
  rw [hF] at h3
  cases h3
  exact ⟨by omega, by omega, h⟩
theorem pd_ok_w {a b : Nat → Int32} {F : Nat → Option Nat} {al ah bl bh bl' bh' : Nat} (hb : bl' ≤ bl) (hb2 : bh ≤ bh') (h : pd_ok a b F al ah bl bh) : pd_ok a b F al ah bl' bh' :=
  ⟨fun i j h1 h2 h3 => by have := h.1 i j h1 h2 h3; exact ⟨by omega, by omega, this.2.2⟩, h.2⟩
theorem pd_ok_c {a b : Nat → Int32} {F G : Nat → Option Nat} {al ah bl bh : Nat} (e : ∀ x, al ≤ x → x < ah → F x = G x) (h : pd_ok a b G al ah bl bh) : pd_ok a b F al ah bl bh :=
  ⟨fun i j h1 h2 h3 => h.1 i j h1 h2 (by rw [← e i h1 h2]; exact h3), fun i i' j j' h1 h2 h3 h4 h5 => h.2 i i' j j' h1 h2 h3 (by rw [← e i h1 (by omega)]; exact h4) (by rw [← e i' (by omega) h3]; exact h5)⟩
theorem pd_lm_lo {a b : Nat → Int32} {ah bh : Nat} : ∀ f i j x y, pd_lm a b ah bh f i j x = some y → i ≤ x := by
  intro f
  induction f with
  | zero => intro i j x y h; exact nomatch h
  | succ f ih =>
    intro i j x y h
    rw [pd_lm_s] at h
    split at h
    · split at h
      · split at h
        · omega
        · have := ih _ _ _ _ h; omega
      · split at h
        · have := ih _ _ _ _ h; omega
        · exact ih _ _ _ _ h
    · exact nomatch h
theorem pd_lm_ok {a b : Nat → Int32} {ah bh : Nat} : ∀ f i j, i ≤ ah → j ≤ bh → pd_ok a b (pd_lm a b ah bh f i j) i ah j bh := by
  intro f
  induction f with
  | zero => intro i j _ _; exact pd_ok_n (fun x _ _ => rfl)
  | succ f ih =>
    intro i j hi hj
    by_cases c : i < ah ∧ j < bh
    · by_cases e : a i = b j
      · have hF : ∀ x, pd_lm a b ah bh (f + 1) i j x = if x = i then some j else pd_lm a b ah bh f (i + 1) (j + 1) x := fun x => by rw [pd_lm_s, if_pos c, if_pos e]
        refine pd_ok_g (x := i + 1) (y := j + 1) (by omega) (by omega) (pd_ok_1 (by rw [hF, if_pos rfl]) e) (pd_ok_c (fun x h1 _ => ?_) (ih (i + 1) (j + 1) (by omega) (by omega)))
        rw [hF, if_neg (by omega)]
      · by_cases t : pd_T a b ah bh (ah - i) (bh - (j + 1)) ≤ pd_T a b ah bh (ah - (i + 1)) (bh - j)
        · have hF : ∀ x, pd_lm a b ah bh (f + 1) i j x = pd_lm a b ah bh f (i + 1) j x := fun x => by rw [pd_lm_s, if_pos c, if_neg e, if_pos t]
          refine pd_ok_g (x := i + 1) (y := j) (by omega) (by omega) (pd_ok_n (fun x h1 h2 => ?_)) (pd_ok_c (fun x _ _ => hF x) (ih (i + 1) j (by omega) hj))
          rw [hF]
          cases hx : pd_lm a b ah bh f (i + 1) j x with
          | none => rfl
          | some y => have := pd_lm_lo _ _ _ _ _ hx; omega
        · have hF : ∀ x, pd_lm a b ah bh (f + 1) i j x = pd_lm a b ah bh f i (j + 1) x := fun x => by rw [pd_lm_s, if_pos c, if_neg e, if_neg t]
          exact pd_ok_w (by omega) (by omega) (pd_ok_c (fun x _ _ => hF x) (ih i (j + 1) hi (by omega)))
    · refine pd_ok_n (fun x _ _ => ?_)
      rw [pd_lm_s, if_neg c]
end
section
/-! V: the pair of line i in the gap, by fuel -/
/-- how many of D's first k lie at or above i -/
def pd_ce (D : Nat → Nat) (i : Nat) : Nat → Nat
  | 0 => 0
  | k + 1 => pd_ce D i k + if i ≤ D k then 1 else 0
def pd_hi (h : Nat) (D : Nat → Nat) : Nat → Nat
  | 0 => h
  | t + 1 => D t
def pd_lo (l : Nat) (D : Nat → Nat) (K t : Nat) : Nat := if t < K then D t + 1 else l
theorem pd_ce_s (D : Nat → Nat) (i k : Nat) : pd_ce D i (k + 1) = pd_ce D i k + if i ≤ D k then 1 else 0 := rfl
theorem pd_ce_t {D : Nat → Nat} {i t : Nat} : ∀ k, t ≤ k → (∀ d, d < t → i ≤ D d) → (∀ d, t ≤ d → d < k → D d < i) → pd_ce D i k = t := by
  intro k
  induction k with
  | zero => intro h _ _; have : t = 0 := by omega
            subst this; rfl
  | succ k ih =>
    intro h h1 h2
    rw [pd_ce_s]
    by_cases e : t = k + 1
    · subst e
      rw [if_pos (h1 k (by omega))]
      have : pd_ce D i k = k := by
        have : ∀ k', k' ≤ k → pd_ce D i k' = k' := by
          intro k'
          induction k' with
          | zero => intro _; rfl
          | succ k' ih' => intro hk; rw [pd_ce_s, if_pos (h1 k' (by omega)), ih' (by omega)]
        exact this k (Nat.le_refl k)
      omega
    · rw [if_neg (by have := h2 k (by omega) (by omega); omega), ih (by omega) h1 (fun d h3 h4 => h2 d h3 (by omega)), Nat.add_zero]
abbrev pd_W : Type := Nat → Nat → Nat → Nat → Nat → Option Nat
/-- the chain's matches and what lies between them -/
def pd_vc (W : pd_W) (al ah bl bh : Nat) (K : Nat) (D E : Nat → Nat) (i : Nat) : Option Nat :=
  if 0 < pd_ce D i K ∧ D (pd_ce D i K - 1) = i then some (E (pd_ce D i K - 1))
  else W (pd_lo al D K (pd_ce D i K)) (pd_hi ah D (pd_ce D i K)) (pd_lo bl E K (pd_ce D i K)) (pd_hi bh E (pd_ce D i K)) i
def pd_A (a b : Nat → Int32) (al ah bl bh : Nat) : Nat × (Nat → Nat) × (Nat → Nat) := pd_an a b al ah bl bh (ah - al)
def pd_K (s : Nat × (Nat → Nat) × (Nat → Nat)) : Nat := pd_gr (pd_rk s.2.2) s.1
def pd_c (s : Nat × (Nat → Nat) × (Nat → Nat)) (d : Nat) : Nat := (pd_cd s.2.1 s.2.2 (pd_rk s.2.2) s.1 (pd_K s) d).getD 0
def pd_D (s : Nat × (Nat → Nat) × (Nat → Nat)) (d : Nat) : Nat := s.2.1 (pd_c s d)
def pd_E (s : Nat × (Nat → Nat) × (Nat → Nat)) (d : Nat) : Nat := s.2.2 (pd_c s d)
def pd_vm (a b : Nat → Int32) (W : pd_W) (al ah bl bh i : Nat) : Option Nat :=
  if al = ah ∨ bl = bh then none
  else if (pd_A a b al ah bl bh).1 = 0 then pd_lm a b ah bh ((ah - al) + (bh - bl)) al bl i
  else pd_vc W al ah bl bh (pd_K (pd_A a b al ah bl bh)) (pd_D (pd_A a b al ah bl bh)) (pd_E (pd_A a b al ah bl bh)) i
def pd_p (a b : Nat → Int32) (al ah bl bh : Nat) : Nat := pd_pf a b (min (ah - al) (bh - bl)) al bl
def pd_s (a b : Nat → Int32) (al ah bl bh : Nat) : Nat := pd_sf a b (min (ah - al) (bh - bl)) ah bh
def pd_vt (a b : Nat → Int32) (W : pd_W) (al ah bl bh i : Nat) : Option Nat :=
  if ah - pd_s a b al ah bl bh ≤ i then some (bh - (ah - i)) else pd_vm a b W al (ah - pd_s a b al ah bl bh) bl (bh - pd_s a b al ah bl bh) i
def pd_vs (a b : Nat → Int32) (W : pd_W) (al ah bl bh i : Nat) : Option Nat :=
  if i < al + pd_p a b al ah bl bh then some (bl + (i - al)) else pd_vt a b W (al + pd_p a b al ah bl bh) ah (bl + pd_p a b al ah bl bh) bh i
def pd_V (a b : Nat → Int32) : Nat → pd_W
  | 0 => fun _ _ _ _ _ => none
  | f + 1 => pd_vs a b (pd_V a b f)
theorem pd_V_s (a b : Nat → Int32) (f : Nat) : pd_V a b (f + 1) = pd_vs a b (pd_V a b f) := rfl
theorem pd_p_le {a b : Nat → Int32} {al ah bl bh : Nat} : pd_p a b al ah bl bh ≤ ah - al ∧ pd_p a b al ah bl bh ≤ bh - bl := by
  have := pd_pf_le (a := a) (b := b) (min (ah - al) (bh - bl)) al bl
  unfold pd_p
  omega
theorem pd_s_le {a b : Nat → Int32} {al ah bl bh : Nat} : pd_s a b al ah bl bh ≤ ah - al ∧ pd_s a b al ah bl bh ≤ bh - bl := by
  have := pd_sf_le (a := a) (b := b) (min (ah - al) (bh - bl)) ah bh
  unfold pd_s
  omega
/-- an empty gap pairs nothing -/
theorem pd_V_n {a b : Nat → Int32} {f al ah bl bh x : Nat} (h : bl = bh) (h1 : al ≤ x) (h2 : x < ah) : pd_V a b f al ah bl bh x = none := by
  cases f with
  | zero => rfl
  | succ f =>
    have hp := pd_p_le (a := a) (b := b) (al := al) (ah := ah) (bl := bl) (bh := bh)
    have hs := pd_s_le (a := a) (b := b) (al := al) (ah := ah) (bl := bl) (bh := bh)
    have ep : pd_p a b al ah bl bh = 0 := by omega
    have es : pd_s a b al ah bl bh = 0 := by omega
    rw [pd_V_s]
    unfold pd_vs
    rw [ep, if_neg (by omega)]
    unfold pd_vt
    rw [Nat.add_zero, Nat.add_zero, es, if_neg (by omega)]
    unfold pd_vm
    rw [if_pos (Or.inr (by omega))]
/-- what is known of the chain: K, its places in A (D) and in B (E), from its end -/
def pd_CK (a b : Nat → Int32) (al ah bl bh K : Nat) (D E : Nat → Nat) : Prop :=
  1 ≤ K ∧ K ≤ ah - al ∧ (∀ d, d < K → al ≤ D d ∧ D d < ah ∧ bl ≤ E d ∧ E d < bh ∧ a (D d) = b (E d)) ∧ (∀ d, d + 1 < K → D (d + 1) < D d ∧ E (d + 1) < E d)
theorem pd_RK_A {a b : Nat → Int32} {al ah bl bh : Nat} (h0 : (pd_A a b al ah bl bh).1 ≠ 0) : pd_RK (pd_A a b al ah bl bh).2.1 (pd_A a b al ah bl bh).2.2 (pd_rk (pd_A a b al ah bl bh).2.2) (pd_A a b al ah bl bh).1 (pd_K (pd_A a b al ah bl bh)) := by
  have hA := pd_an_k (a := a) (b := b) (al := al) (ah := ah) (bl := bl) (bh := bh) (ah - al)
  have hA2 : pd_an a b al ah bl bh (ah - al) = pd_A a b al ah bl bh := rfl
  rw [hA2] at hA
  generalize pd_A a b al ah bl bh = s at *
  have k1 : 1 ≤ pd_K s := Nat.le_trans (pd_rk_1 s.2.2 0) (pd_gr_ge s.1 0 (by omega))
  exact ⟨k1, pd_gr_x s.1 k1, fun p _ => pd_rk_1 _ p, fun p l _ hl hp => pd_rk_x hl hp, hA.2.2⟩
theorem pd_c_k {a b : Nat → Int32} {al ah bl bh : Nat} (h0 : (pd_A a b al ah bl bh).1 ≠ 0) {d : Nat} (hd : d < pd_K (pd_A a b al ah bl bh)) : pd_cd (pd_A a b al ah bl bh).2.1 (pd_A a b al ah bl bh).2.2 (pd_rk (pd_A a b al ah bl bh).2.2) (pd_A a b al ah bl bh).1 (pd_K (pd_A a b al ah bl bh)) d = some (pd_c (pd_A a b al ah bl bh) d) ∧ pd_c (pd_A a b al ah bl bh) d < (pd_A a b al ah bl bh).1 ∧ pd_rk (pd_A a b al ah bl bh).2.2 (pd_c (pd_A a b al ah bl bh) d) = pd_K (pd_A a b al ah bl bh) - d := by
  obtain ⟨c, hc, h1, h2⟩ := pd_cd_k (pd_RK_A h0) d hd
  have e : pd_c (pd_A a b al ah bl bh) d = c := by unfold pd_c; rw [hc]; rfl
  rw [e]
  exact ⟨hc, h1, h2⟩
theorem pd_K_le (s : Nat × (Nat → Nat) × (Nat → Nat)) : pd_K s ≤ s.1 := pd_gr_le s.1 (fun p hp => Nat.le_trans (pd_rk_l s.2.2 p) hp)
theorem pd_CK_A {a b : Nat → Int32} {al ah bl bh : Nat} (h0 : (pd_A a b al ah bl bh).1 ≠ 0) (ha : al ≤ ah) : pd_CK a b al ah bl bh (pd_K (pd_A a b al ah bl bh)) (pd_D (pd_A a b al ah bl bh)) (pd_E (pd_A a b al ah bl bh)) := by
  have hA := pd_an_k (a := a) (b := b) (al := al) (ah := ah) (bl := bl) (bh := bh) (ah - al)
  have hA2 : pd_an a b al ah bl bh (ah - al) = pd_A a b al ah bl bh := rfl
  rw [hA2, show al + (ah - al) = ah by omega] at hA
  refine ⟨(pd_RK_A h0).1, Nat.le_trans (pd_K_le _) hA.1, fun d hd => hA.2.1 _ (pd_c_k h0 hd).2.1, fun d hd => ?_⟩
  have r := pd_cd_d (pd_c_k h0 (d := d) (by omega)).1 (pd_c_k h0 hd).1
  exact r
theorem pd_CK_mono {a b : Nat → Int32} {al ah bl bh K : Nat} {D E : Nat → Nat} (h : pd_CK a b al ah bl bh K D E) {d : Nat} : ∀ e, d < e → e < K → D e < D d ∧ E e < E d := by
  intro e
  induction e with
  | zero => intro h1 _; omega
  | succ e ih =>
    intro h1 h2
    have h3 := h.2.2.2 e h2
    by_cases c : d = e
    · subst c; exact h3
    · have := ih (by omega) (by omega)
      omega
/-- between the chain's pairs V is the gap's own, at a pair it is the pair -/
theorem pd_vc_in {a b : Nat → Int32} {W : pd_W} {al ah bl bh K t x : Nat} {D E : Nat → Nat} (h : pd_CK a b al ah bl bh K D E) (ht : t ≤ K) (h1 : pd_lo al D K t ≤ x) (h2 : x < pd_hi ah D t) :
    pd_vc W al ah bl bh K D E x = W (pd_lo al D K t) (pd_hi ah D t) (pd_lo bl E K t) (pd_hi bh E t) x := by
  have hc : pd_ce D x K = t := by
    refine pd_ce_t K ht (fun d hd => ?_) (fun d hd hk => ?_)
    · cases t with
      | zero => omega
      | succ t =>
        have h2' : x < D t := h2
        by_cases c : d = t
        · subst c; omega
        · have := pd_CK_mono h t (d := d) (by omega) (by omega)
          omega
    · unfold pd_lo at h1
      rw [if_pos (by omega)] at h1
      by_cases c : t = d
      · subst c; omega
      · have := pd_CK_mono h d (d := t) (by omega) hk
        omega
  unfold pd_vc
  rw [hc, if_neg]
  intro ⟨k1, k2⟩
  obtain ⟨s, rfl⟩ : ∃ s, t = s + 1 := ⟨t - 1, by omega⟩
  have h2' : x < D s := h2
  rw [Nat.add_sub_cancel] at k2
  omega
theorem pd_vc_at {a b : Nat → Int32} {W : pd_W} {al ah bl bh K d : Nat} {D E : Nat → Nat} (h : pd_CK a b al ah bl bh K D E) (hd : d < K) : pd_vc W al ah bl bh K D E (D d) = some (E d) := by
  have hc : pd_ce D (D d) K = d + 1 := by
    refine pd_ce_t K (by omega) (fun e he => ?_) (fun e he hk => ?_)
    · by_cases c : e = d
      · subst c; exact Nat.le_refl _
      · have := pd_CK_mono h d (d := e) (by omega) hd
        omega
    · exact (pd_CK_mono h e (d := d) (by omega) hk).1
  unfold pd_vc
  rw [hc, if_pos ⟨by omega, rfl⟩]
  rfl
theorem pd_CK_lh {a b : Nat → Int32} {al ah bl bh K : Nat} {D E : Nat → Nat} (h : pd_CK a b al ah bl bh K D E) (ha : al ≤ ah) (hb : bl ≤ bh) {t : Nat} (ht : t ≤ K) : al ≤ pd_lo al D K t ∧ pd_lo al D K t ≤ pd_hi ah D t ∧ pd_hi ah D t ≤ ah ∧ bl ≤ pd_lo bl E K t ∧ pd_lo bl E K t ≤ pd_hi bh E t ∧ pd_hi bh E t ≤ bh ∧ pd_hi ah D t - pd_lo al D K t < ah - al := by
  have hk := h.1
  have h0 := h.2.2.1 0 (by omega)
  unfold pd_lo
  cases t with
  | zero =>
    rw [if_pos (by omega), if_pos (by omega)]
    show al ≤ D 0 + 1 ∧ D 0 + 1 ≤ ah ∧ ah ≤ ah ∧ bl ≤ E 0 + 1 ∧ E 0 + 1 ≤ bh ∧ bh ≤ bh ∧ ah - (D 0 + 1) < ah - al
    omega
  | succ t =>
    have ht1 := h.2.2.1 t (by omega)
    show al ≤ _ ∧ _ ≤ D t ∧ D t ≤ ah ∧ bl ≤ _ ∧ _ ≤ E t ∧ E t ≤ bh ∧ D t - _ < ah - al
    by_cases c : t + 1 < K
    · rw [if_pos c, if_pos c]
      have h1 := h.2.2.1 (t + 1) c
      have h2 := h.2.2.2 t c
      omega
    · rw [if_neg c, if_neg c]
      omega
theorem pd_vc_ok {a b : Nat → Int32} {W : pd_W} {al ah bl bh K : Nat} {D E : Nat → Nat} (h : pd_CK a b al ah bl bh K D E) (ha : al ≤ ah) (hb : bl ≤ bh)
    (hW : ∀ t, t ≤ K → pd_ok a b (W (pd_lo al D K t) (pd_hi ah D t) (pd_lo bl E K t) (pd_hi bh E t)) (pd_lo al D K t) (pd_hi ah D t) (pd_lo bl E K t) (pd_hi bh E t)) :
    ∀ u t, t + u = K → pd_ok a b (pd_vc W al ah bl bh K D E) al (pd_hi ah D t) bl (pd_hi bh E t) := by
  have hsub : ∀ t, t ≤ K → pd_ok a b (pd_vc W al ah bl bh K D E) (pd_lo al D K t) (pd_hi ah D t) (pd_lo bl E K t) (pd_hi bh E t) := fun t ht => pd_ok_c (fun x h1 h2 => pd_vc_in h ht h1 h2) (hW t ht)
  intro u
  induction u with
  | zero =>
    intro t ht
    have := hsub t (by omega)
    unfold pd_lo at this
    rw [if_neg (by omega), if_neg (by omega)] at this
    exact this
  | succ u ih =>
    intro t ht
    have h1 := ih (t + 1) (by omega)
    have h2 := hsub t (by omega)
    have h3 := h.2.2.1 t (by omega)
    have h4 := pd_CK_lh h ha hb (t := t) (by omega)
    have el : pd_lo al D K t = D t + 1 := if_pos (by omega)
    have el' : pd_lo bl E K t = E t + 1 := if_pos (by omega)
    rw [el, el'] at h2 h4
    have h1' : pd_ok a b (pd_vc W al ah bl bh K D E) al (D t) bl (E t) := h1
    exact pd_ok_g (by omega) (by omega) (pd_ok_g (by omega) (by omega) h1' (pd_ok_1 (pd_vc_at h (by omega)) h3.2.2.2.2)) h2
theorem pd_vm_ok {a b : Nat → Int32} {W : pd_W} (hW : ∀ al ah bl bh, al ≤ ah → bl ≤ bh → pd_ok a b (W al ah bl bh) al ah bl bh) {al ah bl bh : Nat} (ha : al ≤ ah) (hb : bl ≤ bh) : pd_ok a b (pd_vm a b W al ah bl bh) al ah bl bh := by
  by_cases e : al = ah ∨ bl = bh
  · exact pd_ok_n (fun x _ _ => if_pos e)
  · by_cases z : (pd_A a b al ah bl bh).1 = 0
    · exact pd_ok_c (fun x _ _ => by unfold pd_vm; rw [if_neg e, if_pos z]) (pd_lm_ok _ _ _ ha hb)
    · refine pd_ok_c (fun x _ _ => by unfold pd_vm; rw [if_neg e, if_neg z]) (pd_vc_ok (pd_CK_A z ha) ha hb (fun t ht => ?_) _ 0 (Nat.zero_add _))
      have := pd_CK_lh (pd_CK_A z ha) ha hb ht
      exact hW _ _ _ _ this.2.1 this.2.2.2.2.1
theorem pd_vt_ok {a b : Nat → Int32} {W : pd_W} (hW : ∀ al ah bl bh, al ≤ ah → bl ≤ bh → pd_ok a b (W al ah bl bh) al ah bl bh) {al ah bl bh : Nat} (ha : al ≤ ah) (hb : bl ≤ bh) : pd_ok a b (pd_vt a b W al ah bl bh) al ah bl bh := by
  have hs := pd_s_le (a := a) (b := b) (al := al) (ah := ah) (bl := bl) (bh := bh)
  have hq := pd_sf_eq (a := a) (b := b) (min (ah - al) (bh - bl)) ah bh
  have es : pd_sf a b (min (ah - al) (bh - bl)) ah bh = pd_s a b al ah bl bh := rfl
  rw [es] at hq
  generalize hS : pd_s a b al ah bl bh = S at *
  have hF : ∀ x, pd_vt a b W al ah bl bh x = if ah - S ≤ x then some (bh - (ah - x)) else pd_vm a b W al (ah - S) bl (bh - S) x := fun x => by unfold pd_vt; rw [hS]
  refine pd_ok_g (x := ah - S) (y := bh - S) (by omega) (by omega) (pd_ok_c (fun x h1 h2 => by rw [hF, if_neg (by omega)]) (pd_vm_ok hW (by omega) (by omega))) ⟨fun i j h1 h2 h3 => ?_, fun i i' j j' h1 h2 h3 h4 h5 => ?_⟩
  · rw [hF, if_pos h1] at h3
    cases h3
    have := hq (ah - 1 - i) (by omega)
    rw [show ah - 1 - (ah - 1 - i) = i by omega, show bh - 1 - (ah - 1 - i) = bh - (ah - i) by omega] at this
    exact ⟨by omega, by omega, this⟩
  · rw [hF, if_pos (by omega)] at h4 h5
    cases h4
    cases h5
    omega
theorem pd_vs_ok {a b : Nat → Int32} {W : pd_W} (hW : ∀ al ah bl bh, al ≤ ah → bl ≤ bh → pd_ok a b (W al ah bl bh) al ah bl bh) {al ah bl bh : Nat} (ha : al ≤ ah) (hb : bl ≤ bh) : pd_ok a b (pd_vs a b W al ah bl bh) al ah bl bh := by
  have hp := pd_p_le (a := a) (b := b) (al := al) (ah := ah) (bl := bl) (bh := bh)
  have hq := pd_pf_eq (a := a) (b := b) (min (ah - al) (bh - bl)) al bl
  have ep : pd_pf a b (min (ah - al) (bh - bl)) al bl = pd_p a b al ah bl bh := rfl
  rw [ep] at hq
  generalize hP : pd_p a b al ah bl bh = P at *
  have hF : ∀ x, pd_vs a b W al ah bl bh x = if x < al + P then some (bl + (x - al)) else pd_vt a b W (al + P) ah (bl + P) bh x := fun x => by unfold pd_vs; rw [hP]
  refine pd_ok_g (x := al + P) (y := bl + P) (by omega) (by omega) ⟨fun i j h1 h2 h3 => ?_, fun i i' j j' h1 h2 h3 h4 h5 => ?_⟩ (pd_ok_c (fun x h1 h2 => by rw [hF, if_neg (by omega)]) (pd_vt_ok hW (by omega) (by omega)))
  · rw [hF, if_pos h2] at h3
    cases h3
    have := hq (i - al) (by omega)
    rw [show al + (i - al) = i by omega] at this
    exact ⟨by omega, by omega, this⟩
  · rw [hF, if_pos (by omega)] at h4 h5
    cases h4
    cases h5
    omega
theorem pd_V_ok {a b : Nat → Int32} : ∀ f al ah bl bh, al ≤ ah → bl ≤ bh → pd_ok a b (pd_V a b f al ah bl bh) al ah bl bh := by
  intro f
  induction f with
  | zero => intro al ah bl bh _ _; exact pd_ok_n (fun x _ _ => rfl)
  | succ f ih => intro al ah bl bh ha hb; exact pd_vs_ok ih ha hb
end
section
/-! gaps that wait, a region under work [L, H), and the pairs M so far against V0 -/
abbrev pd_g : Type := Nat × Nat × Nat × Nat
def pd_in (g : pd_g) (x : Nat) : Prop := g.1 ≤ x ∧ x < g.2.1
def pd_ug (f : Nat → pd_g) (k : Nat) (v : pd_g) : Nat → pd_g := fun q => if q = k then v else f q
theorem pd_ug_s {f : Nat → pd_g} {k : Nat} {v : pd_g} : pd_ug f k v k = v := if_pos rfl
theorem pd_ug_n {f : Nat → pd_g} {k q : Nat} {v : pd_g} (h : q ≠ k) : pd_ug f k v q = f q := if_neg h
/-- a gap that is V0's -/
def pd_gk (a b : Nat → Int32) (n m : Nat) (V0 : Nat → Option Nat) (g : pd_g) : Prop :=
  g.1 ≤ g.2.1 ∧ g.2.1 ≤ n ∧ g.2.2.1 ≤ g.2.2.2 ∧ g.2.2.2 ≤ m ∧ ∃ f, g.2.1 - g.1 < f ∧ ∀ x, pd_in g x → V0 x = pd_V a b f g.1 g.2.1 g.2.2.1 g.2.2.2 x
def pd_I (a b : Nat → Int32) (n m : Nat) (V0 : Nat → Option Nat) (lo hi : Nat) (gp : Nat → pd_g) (L H : Nat) (M : Nat → Int32) : Prop :=
  (∀ q, lo ≤ q → q < hi → pd_gk a b n m V0 (gp q)) ∧
  (∀ q x, lo ≤ q → q < hi → pd_in (gp q) x → M x = -1 ∧ (x < L ∨ H ≤ x)) ∧
  (∀ q r x, lo ≤ q → q < r → r < hi → pd_in (gp q) x → ¬ pd_in (gp r) x) ∧
  (∀ x, L ≤ x → x < H → M x = -1) ∧
  (∀ x, x < n → (x < L ∨ H ≤ x) → (∀ q, lo ≤ q → q < hi → ¬ pd_in (gp q) x) → M x = pd_e (V0 x))
section PDI
variable {a b : Nat → Int32} {n m : Nat} {V0 : Nat → Option Nat} {lo hi : Nat} {gp : Nat → pd_g} {L H : Nat} {M : Nat → Int32}
/-- the lowest line of the region is paired -/
theorem pd_I_lo {j : Nat} (h : pd_I a b n m V0 lo hi gp L H M) (hL : L < H) (hV : V0 L = some j) : pd_I a b n m V0 lo hi gp (L + 1) H (upd M L (nI j)) := by
  obtain ⟨h1, h2, h3, h4, h5⟩ := h
  refine ⟨h1, fun q x a1 a2 a3 => ?_, h3, fun x a1 a2 => ?_, fun x a1 a2 a3 => ?_⟩
  · have := h2 q x a1 a2 a3
    rw [pk_un (by omega)]
    exact ⟨this.1, by omega⟩
  · rw [pk_un (by omega)]
    exact h4 x (by omega) a2
  · by_cases e : x = L
    · subst e; rw [pk_us, hV]; rfl
    · rw [pk_un e]
      exact h5 x a1 (by omega) a3
theorem pd_I_hi {j : Nat} (h : pd_I a b n m V0 lo hi gp L (H + 1) M) (hL : L ≤ H) (hV : V0 H = some j) : pd_I a b n m V0 lo hi gp L H (upd M H (nI j)) := by
  obtain ⟨h1, h2, h3, h4, h5⟩ := h
  refine ⟨h1, fun q x a1 a2 a3 => ?_, h3, fun x a1 a2 => ?_, fun x a1 a2 a3 => ?_⟩
  · have := h2 q x a1 a2 a3
    rw [pk_un (by omega)]
    exact ⟨this.1, by omega⟩
  · rw [pk_un (by omega)]
    exact h4 x (by omega) (by omega)
  · by_cases e : x = H
    · subst e; rw [pk_us, hV]; rfl
    · rw [pk_un e]
      exact h5 x a1 (by omega) a3
/-- the lowest lines of the region have no pair -/
theorem pd_I_sk {x0 : Nat} (h : pd_I a b n m V0 lo hi gp L H M) (hL : L ≤ x0) (hV : ∀ x, L ≤ x → x < x0 → V0 x = none) : pd_I a b n m V0 lo hi gp x0 H M := by
  obtain ⟨h1, h2, h3, h4, h5⟩ := h
  refine ⟨h1, fun q x a1 a2 a3 => ?_, h3, fun x a1 a2 => ?_, fun x a1 a2 a3 => ?_⟩
  · have := h2 q x a1 a2 a3
    by_cases e : L ≤ x ∧ x < x0
    · by_cases e2 : x < H
      · omega
      · exact ⟨this.1, by omega⟩
    · exact ⟨this.1, by omega⟩
  · exact h4 x (by omega) a2
  · by_cases e : L ≤ x ∧ x < x0 ∧ x < H
    · rw [hV x e.1 e.2.1, h4 x e.1 e.2.2]; rfl
    · exact h5 x a1 (by omega) a3
/-- a region that is empty may be any empty one -/
theorem pd_I_em {L' H' : Nat} (h : pd_I a b n m V0 lo hi gp L H M) (hL : H ≤ L) (hL' : H' ≤ L') : pd_I a b n m V0 lo hi gp L' H' M := by
  obtain ⟨h1, h2, h3, h4, h5⟩ := h
  exact ⟨h1, fun q x a1 a2 a3 => ⟨(h2 q x a1 a2 a3).1, by omega⟩, h3, fun x a1 a2 => by omega, fun x a1 a2 a3 => h5 x a1 (by omega) a3⟩
/-- the region's upper part waits, a pair below it is made -/
theorem pd_I_up {x0 j bl bh : Nat} (h : pd_I a b n m V0 lo hi gp L H M) (hlh : lo ≤ hi) (hL : L ≤ x0) (hH : x0 < H) (hV : V0 x0 = some j) (hg : pd_gk a b n m V0 (x0 + 1, H, bl, bh)) : pd_I a b n m V0 lo (hi + 1) (pd_ug gp hi (x0 + 1, H, bl, bh)) L x0 (upd M x0 (nI j)) := by
  obtain ⟨h1, h2, h3, h4, h5⟩ := h
  refine ⟨fun q a1 a2 => ?_, fun q x a1 a2 a3 => ?_, fun q r x a1 a2 a3 a4 a5 => ?_, fun x a1 a2 => ?_, fun x a1 a2 a3 => ?_⟩
  · by_cases e : q = hi
    · subst e; rw [pd_ug_s]; exact hg
    · rw [pd_ug_n e]; exact h1 q a1 (by omega)
  · by_cases e : q = hi
    · subst e
      rw [pd_ug_s] at a3
      have b1 : x0 + 1 ≤ x := a3.1
      have b2 : x < H := a3.2
      rw [pk_un (by omega)]
      exact ⟨h4 x (by omega) b2, by omega⟩
    · rw [pd_ug_n e] at a3
      have := h2 q x a1 (by omega) a3
      rw [pk_un (by omega)]
      exact ⟨this.1, by omega⟩
  · rw [pd_ug_n (by omega)] at a4
    by_cases e : r = hi
    · subst e
      rw [pd_ug_s] at a5
      have b1 : x0 + 1 ≤ x := a5.1
      have b2 : x < H := a5.2
      have := h2 q x a1 (by omega) a4
      omega
    · rw [pd_ug_n e] at a5
      exact h3 q r x a1 a2 (by omega) a4 a5
  · rw [pk_un (by omega)]
    exact h4 x a1 (by omega)
  · by_cases e : x = x0
    · subst e; rw [pk_us, hV]; rfl
    · rw [pk_un e]
      have b1 : ¬ pd_in (x0 + 1, H, bl, bh) x := by
        have := a3 hi hlh (by omega)
        rw [pd_ug_s] at this
        exact this
      have b2 : ¬ (x0 + 1 ≤ x ∧ x < H) := b1
      refine h5 x a1 (by omega) (fun q c1 c2 => ?_)
      have := a3 q c1 (by omega)
      rw [pd_ug_n (by omega)] at this
      exact this
/-- the region's lower part waits -/
theorem pd_I_dn {x0 bl bh : Nat} (h : pd_I a b n m V0 lo hi gp L H M) (hlh : lo ≤ hi) (hL : L ≤ x0) (hH : x0 ≤ H) (hg : pd_gk a b n m V0 (L, x0, bl, bh)) : pd_I a b n m V0 lo (hi + 1) (pd_ug gp hi (L, x0, bl, bh)) x0 H M := by
  obtain ⟨h1, h2, h3, h4, h5⟩ := h
  refine ⟨fun q a1 a2 => ?_, fun q x a1 a2 a3 => ?_, fun q r x a1 a2 a3 a4 a5 => ?_, fun x a1 a2 => ?_, fun x a1 a2 a3 => ?_⟩
  · by_cases e : q = hi
    · subst e; rw [pd_ug_s]; exact hg
    · rw [pd_ug_n e]; exact h1 q a1 (by omega)
  · by_cases e : q = hi
    · subst e
      rw [pd_ug_s] at a3
      have b1 : L ≤ x := a3.1
      have b2 : x < x0 := a3.2
      exact ⟨h4 x b1 (by omega), by omega⟩
    · rw [pd_ug_n e] at a3
      have := h2 q x a1 (by omega) a3
      exact ⟨this.1, by omega⟩
  · rw [pd_ug_n (by omega)] at a4
    by_cases e : r = hi
    · subst e
      rw [pd_ug_s] at a5
      have b1 : L ≤ x := a5.1
      have b2 : x < x0 := a5.2
      have := h2 q x a1 (by omega) a4
      omega
    · rw [pd_ug_n e] at a5
      exact h3 q r x a1 a2 (by omega) a4 a5
  · exact h4 x (by omega) a2
  · have b1 : ¬ pd_in (L, x0, bl, bh) x := by
      have := a3 hi hlh (by omega)
      rw [pd_ug_s] at this
      exact this
    have b2 : ¬ (L ≤ x ∧ x < x0) := b1
    refine h5 x a1 (by omega) (fun q c1 c2 => ?_)
    have := a3 q c1 (by omega)
    rw [pd_ug_n (by omega)] at this
    exact this
/-- the first that waits, or the last, becomes the region -/
theorem pd_I_pf (h : pd_I a b n m V0 lo hi gp L H M) (hL : H ≤ L) (hlh : lo < hi) : pd_I a b n m V0 (lo + 1) hi gp (gp lo).1 (gp lo).2.1 M := by
  obtain ⟨h1, h2, h3, h4, h5⟩ := h
  refine ⟨fun q a1 a2 => h1 q (by omega) a2, fun q x a1 a2 a3 => ?_, fun q r x a1 a2 a3 a4 a5 => h3 q r x (by omega) a2 a3 a4 a5, fun x a1 a2 => (h2 lo x (Nat.le_refl _) hlh ⟨a1, a2⟩).1, fun x a1 a2 a3 => ?_⟩
  · have c1 := h2 q x (by omega) a2 a3
    have c2 : ¬ ((gp lo).1 ≤ x ∧ x < (gp lo).2.1) := fun z => h3 lo q x (Nat.le_refl _) (by omega) a2 z a3
    exact ⟨c1.1, by omega⟩
  · refine h5 x a1 (by omega) (fun q c1 c2 => ?_)
    by_cases e : q = lo
    · subst e
      intro z
      have z1 := z.1
      have z2 := z.2
      omega
    · exact a3 q (by omega) c2
theorem pd_I_pb (h : pd_I a b n m V0 lo (hi + 1) gp L H M) (hL : H ≤ L) (hlh : lo ≤ hi) : pd_I a b n m V0 lo hi gp (gp hi).1 (gp hi).2.1 M := by
  obtain ⟨h1, h2, h3, h4, h5⟩ := h
  refine ⟨fun q a1 a2 => h1 q a1 (by omega), fun q x a1 a2 a3 => ?_, fun q r x a1 a2 a3 a4 a5 => h3 q r x a1 a2 (by omega) a4 a5, fun x a1 a2 => (h2 hi x hlh (by omega) ⟨a1, a2⟩).1, fun x a1 a2 a3 => ?_⟩
  · have c1 := h2 q x a1 (by omega) a3
    have c2 : ¬ ((gp hi).1 ≤ x ∧ x < (gp hi).2.1) := fun z => h3 q hi x a1 a2 (by omega) a3 z
    exact ⟨c1.1, by omega⟩
  · refine h5 x a1 (by omega) (fun q c1 c2 => ?_)
    by_cases e : q = hi
    · subst e
      intro z
      have z1 := z.1
      have z2 := z.2
      omega
    · exact a3 q c1 (by omega)
/-- nothing waits: M is V0 -/
theorem pd_I_fin (h : pd_I a b n m V0 lo hi gp L H M) (hL : H ≤ L) (hlh : hi ≤ lo) {x : Nat} (hx : x < n) : M x = pd_e (V0 x) :=
  h.2.2.2.2 x hx (by omega) (fun q c1 c2 => by omega)
theorem pd_I_0 (hM : ∀ x, x < n → M x = -1) (hg : pd_gk a b n m V0 (0, n, 0, m)) : pd_I a b n m V0 0 1 (fun _ => (0, n, 0, m)) 0 0 M := by
  refine ⟨fun q _ _ => hg, fun q x _ _ h => ⟨hM x h.2, by omega⟩, fun q r x a1 a2 a3 => by omega, fun x _ h => by omega, fun x a1 a2 a3 => ?_⟩
  exact absurd ⟨Nat.zero_le x, a1⟩ (a3 0 (Nat.le_refl 0) (by omega))
/-- nothing pushed at all: the region itself -/
theorem pd_I_1 (hM : ∀ x, x < n → M x = -1) : pd_I a b n m V0 0 0 gp 0 n M := by
  exact ⟨fun q _ h => by omega, fun q x _ h => by omega, fun q r x a1 a2 a3 => by omega, fun x _ h => hM x h, fun x a1 a2 a3 => by omega⟩
end PDI
/-- the lines that wait -/
def pd_sm (gp : Nat → pd_g) : Nat → Nat
  | 0 => 0
  | q + 1 => pd_sm gp q + ((gp q).2.1 - (gp q).1)
theorem pd_sm_s (gp : Nat → pd_g) (q : Nat) : pd_sm gp (q + 1) = pd_sm gp q + ((gp q).2.1 - (gp q).1) := rfl
theorem pd_sm_u {gp : Nat → pd_g} {k : Nat} {v : pd_g} : ∀ q, q ≤ k → pd_sm (pd_ug gp k v) q = pd_sm gp q := by
  intro q
  induction q with
  | zero => intro _; rfl
  | succ q ih =>
    intro h
    rw [pd_sm_s, pd_sm_s, ih (by omega), pd_ug_n (by omega)]
theorem pd_sm_p {gp : Nat → pd_g} {k : Nat} {v : pd_g} : pd_sm (pd_ug gp k v) (k + 1) = pd_sm gp k + (v.2.1 - v.1) := by
  rw [pd_sm_s, pd_sm_u k (Nat.le_refl k), pd_ug_s]
theorem pd_sm_m {gp : Nat → pd_g} : ∀ r q, q ≤ r → pd_sm gp q ≤ pd_sm gp r := by
  intro r
  induction r with
  | zero => intro q h; have : q = 0 := by omega
            subst this; exact Nat.le_refl _
  | succ r ih =>
    intro q h
    by_cases e : q = r + 1
    · subst e; exact Nat.le_refl _
    · have := ih q (by omega)
      rw [pd_sm_s]; omega
end
section
/-! the script, step by step: kinds K and lines H behind L ops, lines i of A and j of B used -/
def pd_sc (a b : Nat → Int32) (n m : Nat) (V0 : Nat → Option Nat) : Nat → Nat → Nat → Nat → (Nat → Int32) → (Nat → Int32) → Nat × (Nat → Int32) × (Nat → Int32)
  | 0, _, _, L, K, H => (L, K, H)
  | f + 1, i, j, L, K, H =>
    if i < n then
      (if V0 i = none then pd_sc a b n m V0 f (i + 1) j (L + 1) (upd K L 1) (upd H L (a i))
      else if V0 i = some j then pd_sc a b n m V0 f (i + 1) (j + 1) (L + 1) (upd K L 0) (upd H L (a i))
      else pd_sc a b n m V0 f i (j + 1) (L + 1) (upd K L 2) (upd H L (b j)))
    else if j < m then pd_sc a b n m V0 f i (j + 1) (L + 1) (upd K L 2) (upd H L (b j))
    else (L, K, H)
section PDS
variable {a b : Nat → Int32} {n m : Nat} {V0 : Nat → Option Nat} {K H : Nat → Int32} {f i j L : Nat}
theorem pd_sc_d (hi : i < n) (hV : V0 i = none) : pd_sc a b n m V0 (f + 1) i j L K H = pd_sc a b n m V0 f (i + 1) j (L + 1) (upd K L 1) (upd H L (a i)) := by
  rw [pd_sc, if_pos hi, if_pos hV]
theorem pd_sc_k (hi : i < n) (hV : V0 i = some j) : pd_sc a b n m V0 (f + 1) i j L K H = pd_sc a b n m V0 f (i + 1) (j + 1) (L + 1) (upd K L 0) (upd H L (a i)) := by
  rw [pd_sc, if_pos hi, if_neg (by rw [hV]; exact fun z => nomatch z), if_pos hV]
theorem pd_sc_i {y : Nat} (hi : i < n) (hV : V0 i = some y) (hy : y ≠ j) : pd_sc a b n m V0 (f + 1) i j L K H = pd_sc a b n m V0 f i (j + 1) (L + 1) (upd K L 2) (upd H L (b j)) := by
  rw [pd_sc, if_pos hi, if_neg (by rw [hV]; exact fun z => nomatch z), if_neg (by rw [hV]; intro z; cases z; exact hy rfl)]
theorem pd_sc_t (hi : n ≤ i) (hj : j < m) : pd_sc a b n m V0 (f + 1) i j L K H = pd_sc a b n m V0 f i (j + 1) (L + 1) (upd K L 2) (upd H L (b j)) := by
  rw [pd_sc, if_neg (by omega), if_pos hj]
theorem pd_sc_0 (hi : n ≤ i) (hj : m ≤ j) : pd_sc a b n m V0 f i j L K H = (L, K, H) := by
  cases f with
  | zero => rfl
  | succ f => rw [pd_sc, if_neg (by omega), if_neg (by omega)]
end PDS
/-- how many of the first q ops are of another kind than s -/
def pd_cs (s : Int32) (K : Nat → Int32) : Nat → Nat
  | 0 => 0
  | q + 1 => pd_cs s K q + if K q = s then 0 else 1
theorem pd_cs_s (s : Int32) (K : Nat → Int32) (q : Nat) : pd_cs s K (q + 1) = pd_cs s K q + if K q = s then 0 else 1 := rfl
theorem pd_cs_u {s : Int32} {K : Nat → Int32} {L : Nat} {x : Int32} : ∀ q, q ≤ L → pd_cs s (upd K L x) q = pd_cs s K q := by
  intro q
  induction q with
  | zero => intro _; rfl
  | succ q ih =>
    intro h
    rw [pd_cs_s, pd_cs_s, ih (by omega), pk_un (by omega)]
theorem pd_cs_p {s : Int32} {K : Nat → Int32} {L : Nat} {x : Int32} : pd_cs s (upd K L x) (L + 1) = pd_cs s K L + if x = s then 0 else 1 := by
  rw [pd_cs_s, pd_cs_u L (Nat.le_refl L), pk_us]
theorem pd_cs_m {s : Int32} {K : Nat → Int32} : ∀ r q, q ≤ r → pd_cs s K q ≤ pd_cs s K r := by
  intro r
  induction r with
  | zero => intro q h; have : q = 0 := by omega
            subst this; exact Nat.le_refl _
  | succ r ih =>
    intro q h
    by_cases e : q = r + 1
    · subst e; exact Nat.le_refl _
    · have := ih q (by omega)
      rw [pd_cs_s]; omega
theorem pd_cs_le {s : Int32} {K : Nat → Int32} : ∀ q, pd_cs s K q ≤ q := by
  intro q
  induction q with
  | zero => exact Nat.le_refl 0
  | succ q ih => rw [pd_cs_s]; split <;> omega
theorem pd_cs_d {s : Int32} {K : Nat → Int32} {q : Nat} : ∀ k, pd_cs s K (q + k) ≤ pd_cs s K q + k := by
  intro k
  induction k with
  | zero => exact Nat.le_refl _
  | succ k ih => rw [← Nat.add_assoc, pd_cs_s]; split <;> omega
/-- what is known of a script of L ops -/
def pd_SK (a b : Nat → Int32) (K H : Nat → Int32) (L i j : Nat) : Prop :=
  pd_cs 2 K L = i ∧ pd_cs 1 K L = j ∧ L ≤ i + j ∧ ∀ q, q < L → (K q = 0 ∨ K q = 1 ∨ K q = 2) ∧ (¬ K q = 2 → H q = a (pd_cs 2 K q)) ∧ (¬ K q = 1 → H q = b (pd_cs 1 K q))
theorem pd_SK_p {a b K H : Nat → Int32} {L i j i' j' : Nat} {x y : Int32} (h : pd_SK a b K H L i j) (hx : x = 0 ∨ x = 1 ∨ x = 2) (h2 : ¬ x = 2 → y = a i) (h1 : ¬ x = 1 → y = b j) (hi : i' = i + if x = 2 then 0 else 1) (hj : j' = j + if x = 1 then 0 else 1) : pd_SK a b (upd K L x) (upd H L y) (L + 1) i' j' := by
  obtain ⟨k1, k2, k3, k4⟩ := h
  refine ⟨by rw [pd_cs_p, k1, hi], by rw [pd_cs_p, k2, hj], ?_, fun q hq => ?_⟩
  · rcases hx with e | e | e
    · subst e; rw [if_neg (by decide)] at hi hj; omega
    · subst e; rw [if_neg (by decide)] at hi; rw [if_pos rfl] at hj; omega
    · subst e; rw [if_pos rfl] at hi; rw [if_neg (by decide)] at hj; omega
  · by_cases e : q = L
    · subst e
      rw [pk_us, pk_us, pd_cs_u q (Nat.le_refl q), pd_cs_u q (Nat.le_refl q), k1, k2]
      exact ⟨hx, h2, h1⟩
    · rw [pk_un e, pk_un e, pd_cs_u q (by omega), pd_cs_u q (by omega)]
      exact k4 q (by omega)
theorem pd_sc_ok {a b : Nat → Int32} {n m : Nat} {V0 : Nat → Option Nat} (hV : pd_ok a b V0 0 n 0 m) : ∀ f i j L K H, (n - i) + (m - j) ≤ f → i ≤ n → j ≤ m → (∀ x y, i ≤ x → x < n → V0 x = some y → j ≤ y) → pd_SK a b K H L i j →
    pd_SK a b (pd_sc a b n m V0 f i j L K H).2.1 (pd_sc a b n m V0 f i j L K H).2.2 (pd_sc a b n m V0 f i j L K H).1 n m := by
  intro f
  induction f with
  | zero =>
    intro i j L K H hf hi hj _ hS
    have e1 : i = n := by omega
    have e2 : j = m := by omega
    subst e1 e2
    exact hS
  | succ f ih =>
    intro i j L K H hf hi hj ho hS
    by_cases c : i < n
    · cases hv : V0 i with
      | none =>
        rw [pd_sc_d c hv]
        exact ih (i + 1) j (L + 1) _ _ (by omega) (by omega) hj (fun x y h1 h2 h3 => ho x y (by omega) h2 h3) (pd_SK_p hS (Or.inr (Or.inl rfl)) (fun _ => rfl) (fun z => absurd rfl z) (by rw [if_neg (by decide)]) (by rw [if_pos rfl]; omega))
      | some y =>
        have hy := ho i y (Nat.le_refl _) c hv
        have hy2 := hV.1 i y (by omega) c hv
        by_cases e : y = j
        · subst e
          rw [pd_sc_k c hv]
          exact ih (i + 1) (y + 1) (L + 1) _ _ (by omega) (by omega) (by omega) (fun x z h1 h2 h3 => by have := hV.2 i x y z (by omega) (by omega) h2 hv h3; omega) (pd_SK_p hS (Or.inl rfl) (fun _ => rfl) (fun _ => hy2.2.2) (by rw [if_neg (by decide)]) (by rw [if_neg (by decide)]))
        · rw [pd_sc_i c hv e]
          refine ih i (j + 1) (L + 1) _ _ (by omega) hi (by omega) (fun x z h1 h2 h3 => ?_) (pd_SK_p hS (Or.inr (Or.inr rfl)) (fun z => absurd rfl z) (fun _ => rfl) (by rw [if_pos rfl]; omega) (by rw [if_neg (by decide)]))
          by_cases ex : x = i
          · subst ex
            rw [hv] at h3
            cases h3
            omega
          · have := hV.2 i x y z (by omega) (by omega) h2 hv h3
            omega
    · by_cases cj : j < m
      · rw [pd_sc_t (by omega) cj]
        exact ih i (j + 1) (L + 1) _ _ (by omega) hi (by omega) (fun x y h1 h2 h3 => by omega) (pd_SK_p hS (Or.inr (Or.inr rfl)) (fun z => absurd rfl z) (fun _ => rfl) (by rw [if_pos rfl]; omega) (by rw [if_neg (by decide)]))
      · have e1 : i = n := by omega
        have e2 : j = m := by omega
        subst e1 e2
        rw [pd_sc_0 (Nat.le_refl _) (Nat.le_refl _)]
        exact hS
theorem pd_SK_0 {a b K H : Nat → Int32} : pd_SK a b K H 0 0 0 := ⟨rfl, rfl, Nat.le_refl 0, fun q h => absurd h (Nat.not_lt_zero _)⟩
/-! which ops are included -/
def pd_bf (K : Nat → Int32) (C p : Nat) : Prop := ∃ q, q < p ∧ p ≤ q + C ∧ ¬ K q = 0
def pd_af (K : Nat → Int32) (C L p : Nat) : Prop := ∃ q, p < q ∧ q < L ∧ q ≤ p + C ∧ ¬ K q = 0
def pd_nc (K : Nat → Int32) (C L p : Nat) : Prop := ¬ K p = 0 ∨ pd_bf K C p ∨ pd_af K C L p
/-! hunks: where they begin, how many begin before p -/
def pd_st (N : Nat → Int32) (p : Nat) : Prop := ¬ N p = 0 ∧ (p = 0 ∨ N (p - 1) = 0)
def pd_hc (N : Nat → Int32) : Nat → Nat
  | 0 => 0
  | p + 1 => pd_hc N p + if ¬ N p = 0 ∧ (p = 0 ∨ N (p - 1) = 0) then 1 else 0
theorem pd_hc_s (N : Nat → Int32) (p : Nat) : pd_hc N (p + 1) = pd_hc N p + if ¬ N p = 0 ∧ (p = 0 ∨ N (p - 1) = 0) then 1 else 0 := rfl
theorem pd_hc_y {N : Nat → Int32} {p : Nat} (h : pd_st N p) : pd_hc N (p + 1) = pd_hc N p + 1 := by
  rw [pd_hc_s]
  exact congrArg _ (if_pos h)
theorem pd_hc_n {N : Nat → Int32} {p : Nat} (h : ¬ pd_st N p) : pd_hc N (p + 1) = pd_hc N p := by
  rw [pd_hc_s]
  exact congrArg (pd_hc N p + ·) (if_neg h)
theorem pd_hc_m {N : Nat → Int32} : ∀ r q, q ≤ r → pd_hc N q ≤ pd_hc N r := by
  intro r
  induction r with
  | zero => intro q h; have : q = 0 := by omega
            subst this; exact Nat.le_refl _
  | succ r ih =>
    intro q h
    by_cases e : q = r + 1
    · subst e; exact Nat.le_refl _
    · have := ih q (by omega)
      rw [pd_hc_s]; omega
theorem pd_hc_le {N : Nat → Int32} : ∀ q, pd_hc N q ≤ q := by
  intro q
  induction q with
  | zero => exact Nat.le_refl 0
  | succ q ih => rw [pd_hc_s]; split <;> omega
/-- hunk h is the ops s .. e - 1 (of the first L) -/
def pd_HK (N : Nat → Int32) (L h s e : Nat) : Prop := s < e ∧ e ≤ L ∧ pd_st N s ∧ pd_hc N s = h ∧ (∀ q, s ≤ q → q < e → ¬ N q = 0) ∧ (e = L ∨ N e = 0)
theorem pd_HK_u {N : Nat → Int32} {L h s e s' e' : Nat} (H : pd_HK N L h s e) (H' : pd_HK N L h s' e') : s = s' ∧ e = e' := by
  obtain ⟨h1, h2, h3, h4, h5, h6⟩ := H
  obtain ⟨k1, k2, k3, k4, k5, k6⟩ := H'
  have es : s = s' := by
    rcases Nat.lt_trichotomy s s' with c | c | c
    · have := pd_hc_m (N := N) s' (s + 1) c
      rw [pd_hc_y h3] at this
      omega
    · exact c
    · have := pd_hc_m (N := N) s (s' + 1) c
      rw [pd_hc_y k3] at this
      omega
  subst es
  refine ⟨rfl, ?_⟩
  rcases Nat.lt_trichotomy e e' with c | c | c
  · exact absurd (by rcases h6 with z | z; omega; exact z) (k5 e (by omega) c)
  · exact c
  · exact absurd (by rcases k6 with z | z; omega; exact z) (h5 e' (by omega) c)
end
section
/-! apply: where a hunk fits, the search, the places one behind another, the output -/
def pd_ft (base a : Nat → Int32) (z aS aL cur P : Nat) : Bool := decide (cur ≤ P ∧ P + aL ≤ z ∧ ∀ t, t < aL → base (P + t) = a (aS + t))
/-- k distances from s on, the lower place first -/
def pd_fp (F : Nat → Bool) (E : Nat) : Nat → Nat → Option Nat
  | 0, _ => none
  | k + 1, s => if s ≤ E ∧ F (E - s) = true then some (E - s) else if F (E + s) = true then some (E + s) else pd_fp F E k (s + 1)
theorem pd_fp_s (F : Nat → Bool) (E k s : Nat) : pd_fp F E (k + 1) s = if s ≤ E ∧ F (E - s) = true then some (E - s) else if F (E + s) = true then some (E + s) else pd_fp F E k (s + 1) := rfl
theorem pd_fp_k {F : Nat → Bool} {E P : Nat} : ∀ k s, pd_fp F E k s = some P → F P = true := by
  intro k
  induction k with
  | zero => intro s h; exact nomatch h
  | succ k ih =>
    intro s h
    rw [pd_fp_s] at h
    by_cases c : s ≤ E ∧ F (E - s) = true
    · rw [if_pos c] at h
      cases h
      exact c.2
    · rw [if_neg c] at h
      by_cases d : F (E + s) = true
      · rw [if_pos d] at h
        cases h
        exact d
      · rw [if_neg d] at h
        exact ih (s + 1) h
section PDP
variable (base a : Nat → Int32) (z r : Nat) (aS aL : Nat → Nat)
/-- behind h hunks: cursor, the last place and the last hunk's start in A; none: one of them found no place -/
def pd_ps : Nat → Option (Nat × Nat × Nat)
  | 0 => some (0, 0, 0)
  | h + 1 => match pd_ps h with
    | none => none
    | some s => match pd_fp (pd_ft base a z (aS h) (aL h) s.1) (aS h - s.2.2 + s.2.1) (r + 1) 0 with
      | none => none
      | some Q => some (Q + aL h, Q, aS h)
theorem pd_ps_n {h : Nat} {s : Nat × Nat × Nat} (hs : pd_ps base a z r aS aL h = some s) (hf : pd_fp (pd_ft base a z (aS h) (aL h) s.1) (aS h - s.2.2 + s.2.1) (r + 1) 0 = none) : pd_ps base a z r aS aL (h + 1) = none := by
  rw [pd_ps, hs]
  dsimp only
  rw [hf]
theorem pd_ps_y {h Q : Nat} {s : Nat × Nat × Nat} (hs : pd_ps base a z r aS aL h = some s) (hf : pd_fp (pd_ft base a z (aS h) (aL h) s.1) (aS h - s.2.2 + s.2.1) (r + 1) 0 = some Q) : pd_ps base a z r aS aL (h + 1) = some (Q + aL h, Q, aS h) := by
  rw [pd_ps, hs]
  dsimp only
  rw [hf]
end PDP
/-- R with k cells of src from f on, laid at o -/
def pd_cp (R : Nat → Int32) (o : Nat) (src : Nat → Int32) (f k : Nat) : Nat → Int32 := fun q => if o ≤ q ∧ q < o + k then src (f + (q - o)) else R q
theorem pd_cp_0 (R : Nat → Int32) (o : Nat) (src : Nat → Int32) (f : Nat) : pd_cp R o src f 0 = R := by
  funext q
  exact if_neg (by omega)
theorem pd_cp_s (R : Nat → Int32) (o : Nat) (src : Nat → Int32) (f k : Nat) : upd (pd_cp R o src f k) (o + k) (src (f + k)) = pd_cp R o src f (k + 1) := by
  funext q
  by_cases e : q = o + k
  · subst e
    rw [pk_us]
    unfold pd_cp
    rw [if_pos (by omega), Nat.add_sub_cancel_left]
  · rw [pk_un e]
    unfold pd_cp
    by_cases c : o ≤ q ∧ q < o + k
    · rw [if_pos c, if_pos (by omega)]
    · rw [if_neg c, if_neg (by omega)]
theorem pd_cp_e {R T : Nat → Int32} {o : Nat} (h : ∀ q, q < o → R q = T q) (src : Nat → Int32) (f k : Nat) : ∀ q, q < o + k → pd_cp R o src f k q = pd_cp T o src f k q := by
  intro q hq
  unfold pd_cp
  by_cases c : o ≤ q ∧ q < o + k
  · rw [if_pos c, if_pos c]
  · rw [if_neg c, if_neg c, h q (by omega)]
end
section
/-! what the walks of both sides need: the answer of onlyPlace, anchors in arrays, the scan back over the anchors, the table in its array, gaps in their arrays -/
def pd_op (f : Nat → Int32) (v : Int32) (lo k : Nat) : Int32 := if pd_ct f v lo k = 1 then nI (pd_lp f v lo k) else -1
def pd_pl (f : Nat → Int32) (v : Int32) (lo k : Nat) : Int32 := if pd_ct f v lo k = 0 then -1 else nI (pd_lp f v lo k)
theorem pd_pl_y {f : Nat → Int32} {v : Int32} {lo k : Nat} (h : f (lo + k) = v) : pd_pl f v lo (k + 1) = nI (lo + k) := by
  unfold pd_pl
  rw [pd_ct_s, pd_lp_s, if_pos h, if_pos h, if_neg (by omega)]
theorem pd_pl_n {f : Nat → Int32} {v : Int32} {lo k : Nat} (h : ¬ f (lo + k) = v) : pd_pl f v lo (k + 1) = pd_pl f v lo k := by
  unfold pd_pl
  rw [pd_ct_s, pd_lp_s, if_neg h, if_neg h, Nat.add_zero]
theorem pd_ct_y {f : Nat → Int32} {v : Int32} {lo k : Nat} (h : f (lo + k) = v) : pd_ct f v lo (k + 1) = pd_ct f v lo k + 1 := by
  rw [pd_ct_s, if_pos h]
theorem pd_ct_n {f : Nat → Int32} {v : Int32} {lo k : Nat} (h : ¬ f (lo + k) = v) : pd_ct f v lo (k + 1) = pd_ct f v lo k := by
  rw [pd_ct_s, if_neg h, Nat.add_zero]
def pd_ar (s : Nat × (Nat → Nat) × (Nat → Nat)) (AO AN : Nat → Int32) : Prop := ∀ p, p < s.1 → AO p = nI (s.2.1 p) ∧ AN p = nI (s.2.2 p)
theorem pd_ar_y {a b : Nat → Int32} {al ah bl bh k : Nat} {AO AN : Nat → Int32} (h : pd_ar (pd_an a b al ah bl bh k) AO AN) (h1 : pd_ct a (a (al + k)) al (ah - al) = 1) (h2 : pd_ct b (a (al + k)) bl (bh - bl) = 1) : (pd_an a b al ah bl bh (k + 1)).1 = (pd_an a b al ah bl bh k).1 + 1 ∧ pd_ar (pd_an a b al ah bl bh (k + 1)) (upd AO (pd_an a b al ah bl bh k).1 (nI (al + k))) (upd AN (pd_an a b al ah bl bh k).1 (nI (pd_lp b (a (al + k)) bl (bh - bl)))) := by
  rw [pd_an_s, if_pos ⟨h1, h2⟩]
  refine ⟨rfl, fun p hp => ?_⟩
  dsimp only at hp ⊢
  by_cases e : p = (pd_an a b al ah bl bh k).1
  · subst e
    rw [pk_us, pk_us, pd_un_s, pd_un_s]
    exact ⟨rfl, rfl⟩
  · rw [pk_un e, pk_un e, pd_un_n e, pd_un_n e]
    exact h p (by omega)
theorem pd_an_n {a b : Nat → Int32} {al ah bl bh k : Nat} (h : ¬ (pd_ct a (a (al + k)) al (ah - al) = 1 ∧ pd_ct b (a (al + k)) bl (bh - bl) = 1)) : pd_an a b al ah bl bh (k + 1) = pd_an a b al ah bl bh k := by
  rw [pd_an_s, if_neg h]
/-! the scan back: d chosen, r anchors left -/
def pd_pc (ao aj rk : Nat → Nat) (na K : Nat) : Nat → Option Nat
  | 0 => none
  | d + 1 => pd_cd ao aj rk na K d
def pd_X (s : Nat × (Nat → Nat) × (Nat → Nat)) (d r : Nat) : Prop :=
  d ≤ pd_K s ∧ r ≤ s.1 ∧ (d < pd_K s → pd_cd s.2.1 s.2.2 (pd_rk s.2.2) s.1 (pd_K s) d = pd_la (pd_Q s.2.1 s.2.2 (pd_rk s.2.2) (pd_pc s.2.1 s.2.2 (pd_rk s.2.2) s.1 (pd_K s) d) (pd_K s - d)) r) ∧ (0 < d → r ≤ pd_c s (d - 1))
theorem pd_X_0 (s : Nat × (Nat → Nat) × (Nat → Nat)) : pd_X s 0 s.1 := ⟨Nat.zero_le _, Nat.le_refl _, fun _ => rfl, fun h => by omega⟩
section PDX
variable {a b : Nat → Int32} {al ah bl bh : Nat}
theorem pd_X_end {d : Nat} (h0 : (pd_A a b al ah bl bh).1 ≠ 0) (h : pd_X (pd_A a b al ah bl bh) d 0) : d = pd_K (pd_A a b al ah bl bh) := by
  obtain ⟨h1, h2, h3, h4⟩ := h
  by_cases c : d < pd_K (pd_A a b al ah bl bh)
  · have := h3 c
    rw [(pd_c_k h0 c).1] at this
    exact nomatch this
  · omega
theorem pd_X_Q {d r : Nat} (h0 : (pd_A a b al ah bl bh).1 ≠ 0) (ha : al ≤ ah) (h : pd_X (pd_A a b al ah bl bh) d (r + 1)) (hd : d < pd_K (pd_A a b al ah bl bh)) :
    pd_Q (pd_A a b al ah bl bh).2.1 (pd_A a b al ah bl bh).2.2 (pd_rk (pd_A a b al ah bl bh).2.2) (pd_pc (pd_A a b al ah bl bh).2.1 (pd_A a b al ah bl bh).2.2 (pd_rk (pd_A a b al ah bl bh).2.2) (pd_A a b al ah bl bh).1 (pd_K (pd_A a b al ah bl bh)) d) (pd_K (pd_A a b al ah bl bh) - d) r = true ↔ (pd_rk (pd_A a b al ah bl bh).2.2 r = pd_K (pd_A a b al ah bl bh) - d ∧ (pd_A a b al ah bl bh).2.2 r < pd_hi bh (pd_E (pd_A a b al ah bl bh)) d) := by
  have hA := pd_an_k (a := a) (b := b) (al := al) (ah := ah) (bl := bl) (bh := bh) (ah - al)
  have hA2 : pd_an a b al ah bl bh (ah - al) = pd_A a b al ah bl bh := rfl
  rw [hA2] at hA
  obtain ⟨h1, h2, h3, h4⟩ := h
  cases d with
  | zero =>
    have hr := hA.2.1 r (by omega)
    constructor
    · intro z
      exact ⟨of_decide_eq_true z, hr.2.2.2.1⟩
    · intro z
      exact decide_eq_true z.1
  | succ d =>
    have hc := pd_c_k h0 (d := d) (by omega)
    have e : pd_pc (pd_A a b al ah bl bh).2.1 (pd_A a b al ah bl bh).2.2 (pd_rk (pd_A a b al ah bl bh).2.2) (pd_A a b al ah bl bh).1 (pd_K (pd_A a b al ah bl bh)) (d + 1) = some (pd_c (pd_A a b al ah bl bh) d) := hc.1
    rw [e]
    have hr : r + 1 ≤ pd_c (pd_A a b al ah bl bh) d := h4 (by omega)
    constructor
    · intro z
      have z2 := of_decide_eq_true z
      exact ⟨z2.1, z2.2.2⟩
    · intro z
      exact decide_eq_true ⟨z.1, hA.2.2 r _ (by omega) hc.2.1, z.2⟩
theorem pd_X_hit {d r : Nat} (h0 : (pd_A a b al ah bl bh).1 ≠ 0) (ha : al ≤ ah) (h : pd_X (pd_A a b al ah bl bh) d (r + 1)) (h1 : pd_rk (pd_A a b al ah bl bh).2.2 r = pd_K (pd_A a b al ah bl bh) - d) (h2 : (pd_A a b al ah bl bh).2.2 r < pd_hi bh (pd_E (pd_A a b al ah bl bh)) d) :
    d < pd_K (pd_A a b al ah bl bh) ∧ pd_c (pd_A a b al ah bl bh) d = r ∧ pd_X (pd_A a b al ah bl bh) (d + 1) r := by
  have hA := pd_an_k (a := a) (b := b) (al := al) (ah := ah) (bl := bl) (bh := bh) (ah - al)
  have hA2 : pd_an a b al ah bl bh (ah - al) = pd_A a b al ah bl bh := rfl
  rw [hA2] at hA
  have hd : d < pd_K (pd_A a b al ah bl bh) := by
    have := pd_rk_1 (pd_A a b al ah bl bh).2.2 r
    omega
  have hQ := (pd_X_Q h0 ha h hd).mpr ⟨h1, h2⟩
  obtain ⟨k1, k2, k3, k4⟩ := h
  have e := k3 hd
  rw [pd_la_s, if_pos hQ] at e
  have ec : pd_c (pd_A a b al ah bl bh) d = r := by
    unfold pd_c
    rw [e]
    rfl
  refine ⟨hd, ec, by omega, by omega, fun hd2 => ?_, fun _ => by rw [Nat.add_sub_cancel, ec]; exact Nat.le_refl r⟩
  rw [pd_cd_s]
  refine pd_la_c _ (by omega) (fun q q1 q2 => ?_)
  rw [show pd_cd (pd_A a b al ah bl bh).2.1 (pd_A a b al ah bl bh).2.2 (pd_rk (pd_A a b al ah bl bh).2.2) (pd_A a b al ah bl bh).1 (pd_K (pd_A a b al ah bl bh)) d = some r from e]
  intro z
  have z2 := of_decide_eq_true z
  by_cases c : r = q
  · subst c
    omega
  · have := hA.2.2 r q (by omega) q2
    omega
theorem pd_X_miss {d r : Nat} (h0 : (pd_A a b al ah bl bh).1 ≠ 0) (ha : al ≤ ah) (h : pd_X (pd_A a b al ah bl bh) d (r + 1)) (h1 : ¬ (pd_rk (pd_A a b al ah bl bh).2.2 r = pd_K (pd_A a b al ah bl bh) - d ∧ (pd_A a b al ah bl bh).2.2 r < pd_hi bh (pd_E (pd_A a b al ah bl bh)) d)) : pd_X (pd_A a b al ah bl bh) d r := by
  refine ⟨h.1, by have := h.2.1; omega, fun hd => ?_, fun hd => by have := h.2.2.2 hd; omega⟩
  have hQ : ¬ _ := fun z => h1 ((pd_X_Q h0 ha h hd).mp z)
  have e := h.2.2.1 hd
  rw [pd_la_s, if_neg hQ] at e
  exact e
end PDX
/-! the table in its array: rows from al + r on are done, of the row below them the columns from bl + t on -/
def pd_tb (a b : Nat → Int32) (al ah bl bh r t : Nat) (T : Nat → Int32) : Prop :=
  ∀ x y, x ≤ ah → y ≤ bh → bl ≤ y → (al + r ≤ x ∨ (x + 1 = al + r ∧ bl + t ≤ y)) → T (x * 33 + y) = nI (pd_T a b ah bh (ah - x) (bh - y))
theorem pd_tb_p {a b : Nat → Int32} {al ah bl bh r t : Nat} {T : Nat → Int32} {v : Int32} (hb : bh ≤ 32) (ht : bl + t ≤ bh) (hv : v = nI (pd_T a b ah bh (ah - (al + r)) (bh - (bl + t)))) (h : pd_tb a b al ah bl bh (r + 1) (t + 1) T) : pd_tb a b al ah bl bh (r + 1) t (upd T ((al + r) * 33 + (bl + t)) v) := by
  intro x y h1 h2 h3 h4
  by_cases e : x = al + r ∧ y = bl + t
  · rw [e.1, e.2, pk_us, hv]
  · rw [pk_un (by omega)]
    exact h x y h1 h2 h3 (by omega)
theorem pd_tb_r {a b : Nat → Int32} {al ah bl bh r t : Nat} {T : Nat → Int32} (h : pd_tb a b al ah bl bh (r + 1) 0 T) (ht : bh < bl + t) : pd_tb a b al ah bl bh r t T := by
  intro x y h1 h2 h3 h4
  exact h x y h1 h2 h3 (by omega)
theorem pd_tb_0 {a b : Nat → Int32} {al ah bl bh r t : Nat} {T : Nat → Int32} (hr : ah < al + r) (ht : bh < bl + t) : pd_tb a b al ah bl bh r t T := by
  intro x y h1 h2 h3 h4
  omega
/-! gaps in their arrays -/
def pd_rp (lo hi : Nat) (gp : Nat → pd_g) (G0 G1 G2 G3 : Nat → Int32) : Prop := ∀ q, lo ≤ q → q < hi → G0 q = nI (gp q).1 ∧ G1 q = nI (gp q).2.1 ∧ G2 q = nI (gp q).2.2.1 ∧ G3 q = nI (gp q).2.2.2
theorem pd_rp_p {lo hi : Nat} {gp : Nat → pd_g} {G0 G1 G2 G3 : Nat → Int32} {v0 v1 v2 v3 : Nat} (h : pd_rp lo hi gp G0 G1 G2 G3) : pd_rp lo (hi + 1) (pd_ug gp hi (v0, v1, v2, v3)) (upd G0 hi (nI v0)) (upd G1 hi (nI v1)) (upd G2 hi (nI v2)) (upd G3 hi (nI v3)) := by
  intro q h1 h2
  by_cases e : q = hi
  · subst e
    rw [pk_us, pk_us, pk_us, pk_us, pd_ug_s]
    exact ⟨rfl, rfl, rfl, rfl⟩
  · rw [pk_un e, pk_un e, pk_un e, pk_un e, pd_ug_n e]
    exact h q h1 (by omega)
theorem pd_sub1 (x : Int32) : x + (-1) = x - 1 := (Int32.sub_eq_add_neg x 1).symm
theorem pd_cell (i j : Nat) : nI i * 33 + nI j = nI (i * 33 + j) := by
  show nI i * nI 33 + nI j = _
  rw [pk_mul, nI_add]
theorem pd_lt1 {a : Nat} (h : a < 2 ^ 30) : nI (a + 0) - 1 < nI a := by
  rw [Nat.add_zero, Int32.lt_iff_toInt_lt, show (1 : Int32) = nI 1 from rfl, pk_sub_toInt h (by decide), nI_toInt (by omega)]
  omega
end
section
/-! which ops are included, by counters; hunks as they are cut -/
def pd_tf (x : Int32) (P : Prop) : Prop := (P → x = 1) ∧ (¬ P → x = 0)
theorem pd_tf_c {x : Int32} {P Q : Prop} (h : pd_tf x P) (e : P ↔ Q) : pd_tf x Q := ⟨fun q => h.1 (e.mpr q), fun q => h.2 (fun p => q (e.mp p))⟩
theorem pd_tf_u {x y : Int32} {P : Prop} (h : pd_tf x P) (k : pd_tf y P) : x = y := by
  by_cases c : P
  · rw [h.1 c, k.1 c]
  · rw [h.2 c, k.2 c]
def pd_kb (K : Nat → Int32) (C p c e : Nat) : Prop := (c = 0 ∧ e = p ∧ ∀ q, q < p → K q = 0) ∨ (∃ q, q < p ∧ ¬ K q = 0 ∧ (∀ r, q < r → r < p → K r = 0) ∧ c = C ∧ e = p - 1 - q)
theorem pd_kb_b {K : Nat → Int32} {C p c e : Nat} (h : pd_kb K C p c e) : c ≤ C ∧ e ≤ p := by
  rcases h with ⟨h1, h2, _⟩ | ⟨q, h1, _, _, h2, h3⟩ <;> omega
theorem pd_kb_f {K : Nat → Int32} {C p c e : Nat} (h : pd_kb K C p c e) : e < c ↔ pd_bf K C p := by
  rcases h with ⟨h1, h2, h3⟩ | ⟨q, h1, h2, h3, h4, h5⟩
  · constructor
    · intro z; omega
    · intro ⟨q, q1, q2, q3⟩
      exact absurd (h3 q q1) q3
  · constructor
    · intro z
      exact ⟨q, h1, by omega, h2⟩
    · intro ⟨r, r1, r2, r3⟩
      by_cases c1 : q < r
      · exact absurd (h3 r c1 r1) r3
      · omega
theorem pd_kb_s {K : Nat → Int32} {C p c e : Nat} (h : pd_kb K C p c e) (hK : K p = 0) : pd_kb K C (p + 1) c (e + 1) := by
  rcases h with ⟨h1, h2, h3⟩ | ⟨q, h1, h2, h3, h4, h5⟩
  · refine Or.inl ⟨h1, by omega, fun q hq => ?_⟩
    by_cases e : q = p
    · rw [e]; exact hK
    · exact h3 q (by omega)
  · refine Or.inr ⟨q, by omega, h2, fun r r1 r2 => ?_, h4, by omega⟩
    by_cases e : r = p
    · rw [e]; exact hK
    · exact h3 r r1 (by omega)
theorem pd_kb_c {K : Nat → Int32} {C p : Nat} (hK : ¬ K p = 0) : pd_kb K C (p + 1) C 0 := Or.inr ⟨p, by omega, hK, fun r r1 r2 => by omega, rfl, by omega⟩
theorem pd_kb_0 {K : Nat → Int32} {C : Nat} : pd_kb K C 0 0 0 := Or.inl ⟨rfl, rfl, fun q h => absurd h (Nat.not_lt_zero _)⟩
def pd_ka (K : Nat → Int32) (C L r c e : Nat) : Prop := (c = 0 ∧ e = L - r ∧ ∀ q, r ≤ q → q < L → K q = 0) ∨ (∃ q, r ≤ q ∧ q < L ∧ ¬ K q = 0 ∧ (∀ t, r ≤ t → t < q → K t = 0) ∧ c = C ∧ e = q - r)
theorem pd_ka_b {K : Nat → Int32} {C L r c e : Nat} (h : pd_ka K C L r c e) : c ≤ C ∧ e ≤ L := by
  rcases h with ⟨h1, h2, _⟩ | ⟨q, h1, _, _, _, h2, h3⟩ <;> omega
theorem pd_ka_f {K : Nat → Int32} {C L p c e : Nat} (h : pd_ka K C L (p + 1) c e) : e < c ↔ pd_af K C L p := by
  rcases h with ⟨h1, h2, h3⟩ | ⟨q, h1, h2, h3, h4, h5, h6⟩
  · constructor
    · intro z; omega
    · intro ⟨q, q1, q2, q3, q4⟩
      exact absurd (h3 q q1 q2) q4
  · constructor
    · intro z
      exact ⟨q, h1, h2, by omega, h3⟩
    · intro ⟨r, r1, r2, r3, r4⟩
      by_cases c1 : r < q
      · exact absurd (h4 r r1 c1) r4
      · omega
theorem pd_ka_s {K : Nat → Int32} {C L p c e : Nat} (h : pd_ka K C L (p + 1) c e) (hp : p < L) (hK : K p = 0) : pd_ka K C L p c (e + 1) := by
  rcases h with ⟨h1, h2, h3⟩ | ⟨q, h1, h2, h3, h4, h5, h6⟩
  · refine Or.inl ⟨h1, by omega, fun q q1 q2 => ?_⟩
    by_cases e : q = p
    · rw [e]; exact hK
    · exact h3 q (by omega) q2
  · refine Or.inr ⟨q, by omega, h2, h3, fun t t1 t2 => ?_, h5, by omega⟩
    by_cases e : t = p
    · rw [e]; exact hK
    · exact h4 t (by omega) t2
theorem pd_ka_c {K : Nat → Int32} {C L p : Nat} (hp : p < L) (hK : ¬ K p = 0) : pd_ka K C L p C 0 := Or.inr ⟨p, by omega, hp, hK, fun r r1 r2 => by omega, rfl, by omega⟩
theorem pd_ka_0 {K : Nat → Int32} {C L : Nat} : pd_ka K C L L 0 0 := Or.inl ⟨rfl, by omega, fun q h1 h2 => by omega⟩
theorem pd_dle {c e : Nat} (hc : c < 2 ^ 30) (he : e < 2 ^ 30) : nI c - nI e ≤ 0 ↔ c ≤ e := by
  rw [Int32.le_iff_toInt_le, pk_sub_toInt hc he, show (0 : Int32).toInt = 0 from by decide]
  omega
theorem pd_dm1 (c e : Nat) : nI c - nI e + (-1) = nI c - nI (e + 1) := by
  rw [← nI_1 e]
  grind
theorem pd_d0 (c : Nat) : nI c - nI 0 = nI c := by
  rw [nI_0, Int32.sub_zero]
theorem pd_nb0 : vp_nar .boolean 0 = 0 := by decide
theorem pd_nb1 : vp_nar .boolean 1 = 1 := by decide
/-! hunks in their arrays -/
def pd_hA (K N : Nat → Int32) (p h : Nat) (F S O P B Q : Nat → Int32) : Prop := ∃ s e, pd_HK N p h s e ∧ F h = nI s ∧ S h = nI (e - s) ∧ O h = nI (pd_cs 2 K s) ∧ P h = nI (pd_cs 2 K e - pd_cs 2 K s) ∧ B h = nI (pd_cs 1 K s) ∧ Q h = nI (pd_cs 1 K e - pd_cs 1 K s)
def pd_hI (K N : Nat → Int32) (p : Nat) (F S O P B Q : Nat → Int32) : Prop := (∀ h, h < pd_hc N p → pd_hA K N p h F S O P B Q) ∧ (0 < p → ¬ N (p - 1) = 0 → ∃ h s, pd_hc N p = h + 1 ∧ pd_HK N p h s p)
theorem pd_HK_x {N : Nat → Int32} {p h s h' s' : Nat} (H : pd_HK N p h s p) (H' : pd_HK N p h' s' p) : h = h' := by
  obtain ⟨h1, h2, h3, h4, h5, h6⟩ := H
  obtain ⟨k1, k2, k3, k4, k5, k6⟩ := H'
  rcases Nat.lt_trichotomy s s' with c | c | c
  · rcases k3.2 with z | z
    · omega
    · exact absurd z (h5 (s' - 1) (by omega) (by omega))
  · subst c; omega
  · rcases h3.2 with z | z
    · omega
    · exact absurd z (k5 (s - 1) (by omega) (by omega))
theorem pd_hI_n {K N : Nat → Int32} {p : Nat} {F S O P B Q : Nat → Int32} (h : pd_hI K N p F S O P B Q) (hN : N p = 0) : pd_hc N (p + 1) = pd_hc N p ∧ pd_hI K N (p + 1) F S O P B Q := by
  have e := pd_hc_n (N := N) (p := p) (fun z => z.1 hN)
  refine ⟨e, fun x hx => ?_, fun _ z => absurd hN z⟩
  rw [e] at hx
  obtain ⟨s, t, ⟨k1, k2, k3, k4, k5, k6⟩, kk⟩ := h.1 x hx
  refine ⟨s, t, ⟨k1, by omega, k3, k4, k5, ?_⟩, kk⟩
  rcases k6 with z | z
  · subst z; exact Or.inr hN
  · exact Or.inr z
theorem pd_hI_o {K N : Nat → Int32} {p : Nat} {F S O P B Q F' S' O' P' B' Q' : Nat → Int32} (h : pd_hI K N p F S O P B Q) (hN : pd_st N p)
    (ho : ∀ x, x ≠ pd_hc N p → F' x = F x ∧ S' x = S x ∧ O' x = O x ∧ P' x = P x ∧ B' x = B x ∧ Q' x = Q x)
    (hv : F' (pd_hc N p) = nI p ∧ S' (pd_hc N p) = nI 1 ∧ O' (pd_hc N p) = nI (pd_cs 2 K p) ∧ P' (pd_hc N p) = nI (pd_cs 2 K (p + 1) - pd_cs 2 K p) ∧ B' (pd_hc N p) = nI (pd_cs 1 K p) ∧ Q' (pd_hc N p) = nI (pd_cs 1 K (p + 1) - pd_cs 1 K p)) :
    pd_hc N (p + 1) = pd_hc N p + 1 ∧ pd_hI K N (p + 1) F' S' O' P' B' Q' := by
  have e := pd_hc_y hN
  have hnew : pd_HK N (p + 1) (pd_hc N p) p (p + 1) := by
    refine ⟨by omega, by omega, hN, rfl, fun q q1 q2 => ?_, Or.inl rfl⟩
    have : q = p := by omega
    rw [this]; exact hN.1
  refine ⟨e, fun x hx => ?_, fun _ _ => ⟨pd_hc N p, p, e, hnew⟩⟩
  by_cases c : x = pd_hc N p
  · subst c
    obtain ⟨v1, v2, v3, v4, v5, v6⟩ := hv
    exact ⟨p, p + 1, hnew, v1, by rw [v2, Nat.add_sub_cancel_left], v3, v4, v5, v6⟩
  · obtain ⟨s, t, ⟨k1, k2, k3, k4, k5, k6⟩, kk⟩ := h.1 x (by omega)
    obtain ⟨o1, o2, o3, o4, o5, o6⟩ := ho x c
    unfold pd_hA
    rw [o1, o2, o3, o4, o5, o6]
    refine ⟨s, t, ⟨k1, by omega, k3, k4, k5, ?_⟩, kk⟩
    rcases k6 with z | z
    · subst z
      rcases hN.2 with w | w
      · omega
      · exact absurd w (k5 (t - 1) (by omega) (by omega))
    · exact Or.inr z
theorem pd_hI_g {K N : Nat → Int32} {p H : Nat} {F S O P B Q S' P' Q' : Nat → Int32} (h : pd_hI K N p F S O P B Q) (hN : ¬ N p = 0) (hp : 0 < p) (hN2 : ¬ N (p - 1) = 0) (hH : pd_hc N p = H + 1)
    (ho : ∀ x, x ≠ H → S' x = S x ∧ P' x = P x ∧ Q' x = Q x)
    (hv : S' H = S H + 1 ∧ P' H = P H + nI (pd_cs 2 K (p + 1) - pd_cs 2 K p) ∧ Q' H = Q H + nI (pd_cs 1 K (p + 1) - pd_cs 1 K p)) :
    pd_hc N (p + 1) = pd_hc N p ∧ pd_hI K N (p + 1) F S' O P' B Q' := by
  have e := pd_hc_n (N := N) (p := p) (fun z => by
    rcases z.2 with w | w
    · omega
    · exact hN2 w)
  obtain ⟨H2, s0, a1, a2⟩ := h.2 hp hN2
  have eH : H2 = H := by omega
  subst eH
  have hnew : pd_HK N (p + 1) H2 s0 (p + 1) := by
    obtain ⟨k1, k2, k3, k4, k5, k6⟩ := a2
    refine ⟨by omega, by omega, k3, k4, fun q q1 q2 => ?_, Or.inl rfl⟩
    by_cases c : q = p
    · rw [c]; exact hN
    · exact k5 q q1 (by omega)
  refine ⟨e, fun x hx => ?_, fun _ _ => ⟨H2, s0, by omega, hnew⟩⟩
  rw [e] at hx
  obtain ⟨s, t, kH, g1, g2, g3, g4, g5, g6⟩ := h.1 x hx
  by_cases c : x = H2
  · subst c
    obtain ⟨rfl, rfl⟩ := pd_HK_u kH a2
    obtain ⟨v1, v2, v3⟩ := hv
    have m1 := pd_cs_m (s := 2) (K := K) t s (by have := kH.1; omega)
    have m2 := pd_cs_m (s := 1) (K := K) t s (by have := kH.1; omega)
    have m3 := pd_cs_m (s := 2) (K := K) (t + 1) t (by omega)
    have m4 := pd_cs_m (s := 1) (K := K) (t + 1) t (by omega)
    have m5 := kH.1
    refine ⟨s, t + 1, hnew, g1, ?_, g3, ?_, g5, ?_⟩
    · rw [v1, g2, nI_1]; exact congrArg nI (by omega)
    · rw [v2, g4, nI_add]; exact congrArg nI (by omega)
    · rw [v3, g6, nI_add]; exact congrArg nI (by omega)
  · obtain ⟨o1, o2, o3⟩ := ho x c
    obtain ⟨k1, k2, k3, k4, k5, k6⟩ := kH
    refine ⟨s, t, ⟨k1, by omega, k3, k4, k5, ?_⟩, g1, by rw [o1]; exact g2, g3, by rw [o2]; exact g4, g5, by rw [o3]; exact g6⟩
    rcases k6 with z | z
    · subst z
      exact absurd (pd_HK_x ⟨k1, k2, k3, k4, k5, Or.inl rfl⟩ a2) c
    · exact Or.inr z
theorem pd_hI_0 {K N : Nat → Int32} {F S O P B Q : Nat → Int32} : pd_hI K N 0 F S O P B Q := ⟨fun h hh => absurd hh (Nat.not_lt_zero _), fun h => absurd h (Nat.lt_irrefl 0)⟩
end
section
/-! X: addPair, addGap, common beginning, common end -/
section XPR
variable {xcp xcx xoc xnc xbc xrc xhd xhr xpc xop xht xgc xac : Int32} {xol xnl xbl xrl xpa xok xoh xoi xhf xhs xho xhp xhn xhm xtp xap xg0 xg1 xg2 xg3 xao xan xar xlc : Nat → Int32}
variable {post : St2 → Prop} {n m : Nat} {V0 : Nat → Option Nat} {lo hi : Nat} {gp : Nat → pd_g}
theorem xa_addPair {i c : Nat} {x : Int32} (h1 : i < 32) (k : post (xcp, xcx, xoc, xnc, xbc, xrc, xhd, xhr, nI (c + 1), xop, xht, xgc, xac, xol, xnl, xbl, xrl, upd xpa i x, xok, xoh, xoi, xhf, xhs, xho, xhp, xhn, xhm, xtp, xap, xg0, xg1, xg2, xg3, xao, xan, xar, xlc)) : wpX_addPair post (xcp, xcx, xoc, xnc, xbc, xrc, xhd, xhr, nI c, xop, xht, xgc, xac, xol, xnl, xbl, xrl, xpa, xok, xoh, xoi, xhf, xhs, xho, xhp, xhn, xhm, xtp, xap, xg0, xg1, xg2, xg3, xao, xan, xar, xlc) (nI i) x :=
  And.intro (vp_in_nI h1 (by decide)) (nm_r (e' := upd xpa i x) (by rw [nI_clamp (by omega)]) (nm_r (nI_1 c) k))
theorem xa_addGap {G : Nat} {p0 p1 p2 p3 : Int32} (h1 : G < 65) (k : post (xcp, xcx, xoc, xnc, xbc, xrc, xhd, xhr, xpc, xop, xht, nI (G + 1), xac, xol, xnl, xbl, xrl, xpa, xok, xoh, xoi, xhf, xhs, xho, xhp, xhn, xhm, xtp, xap, upd xg0 G p0, upd xg1 G p1, upd xg2 G p2, upd xg3 G p3, xao, xan, xar, xlc)) : wpX_addGap post (xcp, xcx, xoc, xnc, xbc, xrc, xhd, xhr, xpc, xop, xht, nI G, xac, xol, xnl, xbl, xrl, xpa, xok, xoh, xoi, xhf, xhs, xho, xhp, xhn, xhm, xtp, xap, xg0, xg1, xg2, xg3, xao, xan, xar, xlc) p0 p1 p2 p3 := by
  have z : (nI G).toNatClampNeg = G := nI_clamp (by omega)
  have v : vp_in (nI G) 65 := vp_in_nI h1 (by decide)
  exact br_t (nI_lt (b := 65) h1 (by decide)) (And.intro v (nm_r (e' := upd xg0 G p0) (by rw [z]) (And.intro v (nm_r (e' := upd xg1 G p1) (by rw [z]) (And.intro v (nm_r (e' := upd xg2 G p2) (by rw [z]) (And.intro v (nm_r (e' := upd xg3 G p3) (by rw [z]) (nm_r (nI_1 G) k)))))))))
theorem xa_pre14 {g ah bh : Nat} (hg : g < 65) (e1 : xg1 g = nI ah) (e3 : xg3 g = nI bh) (h1 : ah ≤ n) (h2 : n ≤ 32) (h3 : bh ≤ 32) : ∀ (k i j : Nat) (M : Nat → Int32), min (ah - i) (bh - j) = k → i ≤ ah → j ≤ bh →
    (∀ x, x < pd_pf xol xnl k i j → V0 (i + x) = some (j + x)) →
    pd_I xol xnl n m V0 lo hi gp i ah M →
    (∀ M', pd_I xol xnl n m V0 lo hi gp (i + pd_pf xol xnl k i j) ah M' → wX_matchPrefix_64 post (nI g) (nI (i + pd_pf xol xnl k i j)) (nI (j + pd_pf xol xnl k i j)) xcp xcx xoc xnc xbc xrc xhd xhr (nI (pd_cm M' n)) xop xht xgc xac xol xnl xbl xrl M' xok xoh xoi xhf xhs xho xhp xhn xhm xtp xap xg0 xg1 xg2 xg3 xao xan xar xlc) →
    wX_matchPrefix_14 post (nI g) (k + 1) (nI i) (nI j) xcp xcx xoc xnc xbc xrc xhd xhr (nI (pd_cm M n)) xop xht xgc xac xol xnl xbl xrl M xok xoh xoi xhf xhs xho xhp xhn xhm xtp xap xg0 xg1 xg2 xg3 xao xan xar xlc := by
  have z : (nI g).toNatClampNeg = g := nI_clamp (by omega)
  have v : vp_in (nI g) 65 := vp_in_nI hg (by decide)
  have f1 : xg1 (nI g).toNatClampNeg = nI ah := by rw [z, e1]
  have f3 : xg3 (nI g).toNatClampNeg = nI bh := by rw [z, e3]
  intro k
  induction k with
  | zero =>
    intro i j M hk hi hj hV hI K
    have K' := K M hI
    exact And.intro v (pk_le ah i (fun _ => K') (fun c1 => And.intro v (pk_le bh j (fun _ => K') (fun c2 => absurd hk (by omega)) f3)) f1)
  | succ k ih =>
    intro i j M hk hi hj hV hI K
    have zi : (nI i).toNatClampNeg = i := nI_clamp (by omega)
    have zj : (nI j).toNatClampNeg = j := nI_clamp (by omega)
    refine And.intro v (pk_le ah i (fun c => absurd hk (by omega)) (fun c1 => And.intro v (pk_le bh j (fun c => absurd hk (by omega)) (fun c2 => And.intro (vp_in_nI (by omega) (by decide)) (And.intro (vp_in_nI (by omega) (by decide)) (br_c (fun c3 => ?_) (fun c3 => ?_)))) f3)) f1)
    · rw [zi, zj] at c3
      rw [pd_pf_s, if_pos c3] at hV K
      have hm : M i = -1 := hI.2.2.2.1 i (Nat.le_refl i) c1
      have ec : pd_cm (upd M i (nI j)) n = pd_cm M n + 1 := pd_cm_u hm (pd_ne1 (by omega)) n (by omega)
      refine xa_addPair (by omega) (nm_r (nI_1 i) (nm_r (nI_1 j) ?_))
      rw [← ec]
      refine ih (i + 1) (j + 1) _ (by omega) (by omega) (by omega) (fun x hx => ?_) (pd_I_lo hI c1 (hV 0 (by omega))) (fun M' hM' => ?_)
      · rw [show i + 1 + x = i + (x + 1) by omega, show j + 1 + x = j + (x + 1) by omega]
        exact hV (x + 1) (by omega)
      · rw [show i + 1 + pd_pf xol xnl k (i + 1) (j + 1) = i + (pd_pf xol xnl k (i + 1) (j + 1) + 1) by omega] at hM' ⊢
        rw [show j + 1 + pd_pf xol xnl k (i + 1) (j + 1) = j + (pd_pf xol xnl k (i + 1) (j + 1) + 1) by omega]
        exact K M' hM'
    · rw [zi, zj] at c3
      rw [pd_pf_s, if_neg c3] at K
      exact K M hI
theorem xa_prefix {g al ah bl bh : Nat} (hg : g < 65) (e0 : xg0 g = nI al) (e1 : xg1 g = nI ah) (e2 : xg2 g = nI bl) (e3 : xg3 g = nI bh) (h0 : al ≤ ah) (h1 : ah ≤ n) (h2 : n ≤ 32) (h4 : bl ≤ bh) (h3 : bh ≤ 32)
    (hV : ∀ x, x < pd_p xol xnl al ah bl bh → V0 (al + x) = some (bl + x))
    (hI : pd_I xol xnl n m V0 lo hi gp al ah xpa)
    (k : ∀ M', pd_I xol xnl n m V0 lo hi gp (al + pd_p xol xnl al ah bl bh) ah M' → post (xcp, xcx, xoc, xnc, xbc, xrc, xhd, xhr, nI (pd_cm M' n), xop, xht, xgc, xac, xol, xnl, xbl, xrl, M', xok, xoh, xoi, xhf, xhs, xho, xhp, xhn, xhm, xtp, xap, upd xg0 g (nI (al + pd_p xol xnl al ah bl bh)), xg1, upd xg2 g (nI (bl + pd_p xol xnl al ah bl bh)), xg3, xao, xan, xar, xlc)) :
    wpX_matchPrefix post (xcp, xcx, xoc, xnc, xbc, xrc, xhd, xhr, nI (pd_cm xpa n), xop, xht, xgc, xac, xol, xnl, xbl, xrl, xpa, xok, xoh, xoi, xhf, xhs, xho, xhp, xhn, xhm, xtp, xap, xg0, xg1, xg2, xg3, xao, xan, xar, xlc) (nI g) := by
  have z : (nI g).toNatClampNeg = g := nI_clamp (by omega)
  have v : vp_in (nI g) 65 := vp_in_nI hg (by decide)
  refine And.intro v (nm_r (e' := nI al) (by rw [z, e0]) (And.intro v (nm_r (e' := nI bl) (by rw [z, e2]) ⟨_, xa_pre14 hg e1 e3 h1 h2 h3 _ al bl xpa rfl h0 h4 hV hI (fun M' hM' => ?_)⟩)))
  exact And.intro v (nm_r (by rw [z]; rfl) (And.intro v (nm_r (by rw [z]; rfl) (k M' hM'))))
theorem xa_suf14 {g al bl : Nat} (hg : g < 65) (e1 : xg0 g = nI al) (e3 : xg2 g = nI bl) (h2 : n ≤ 32) : ∀ (k i j : Nat) (M : Nat → Int32), min (i - al) (j - bl) = k → al ≤ i → bl ≤ j → i ≤ n → j ≤ 32 →
    (∀ x, x < pd_sf xol xnl k i j → V0 (i - 1 - x) = some (j - 1 - x)) →
    pd_I xol xnl n m V0 lo hi gp al i M →
    (∀ M', pd_I xol xnl n m V0 lo hi gp al (i - pd_sf xol xnl k i j) M' → wX_matchSuffix_68 post (nI g) (nI (i - pd_sf xol xnl k i j)) (nI (j - pd_sf xol xnl k i j)) xcp xcx xoc xnc xbc xrc xhd xhr (nI (pd_cm M' n)) xop xht xgc xac xol xnl xbl xrl M' xok xoh xoi xhf xhs xho xhp xhn xhm xtp xap xg0 xg1 xg2 xg3 xao xan xar xlc) →
    wX_matchSuffix_14 post (nI g) (k + 1) (nI i) (nI j) xcp xcx xoc xnc xbc xrc xhd xhr (nI (pd_cm M n)) xop xht xgc xac xol xnl xbl xrl M xok xoh xoi xhf xhs xho xhp xhn xhm xtp xap xg0 xg1 xg2 xg3 xao xan xar xlc := by
  have z : (nI g).toNatClampNeg = g := nI_clamp (by omega)
  have v : vp_in (nI g) 65 := vp_in_nI hg (by decide)
  have f1 : xg0 (nI g).toNatClampNeg = nI al := by rw [z, e1]
  have f3 : xg2 (nI g).toNatClampNeg = nI bl := by rw [z, e3]
  intro k
  induction k with
  | zero =>
    intro i j M hk hi hj hi2 hj2 hV hI K
    have K' := K M hI
    exact And.intro v (pk_le i al (fun _ => K') (fun c1 => And.intro v (pk_le j bl (fun _ => K') (fun c2 => absurd hk (by omega)) rfl f3)) rfl f1)
  | succ k ih =>
    intro i j M hk hi hj hi2 hj2 hV hI K
    obtain ⟨i, rfl⟩ : ∃ y, i = y + 1 := ⟨i - 1, by omega⟩
    obtain ⟨j, rfl⟩ : ∃ y, j = y + 1 := ⟨j - 1, by omega⟩
    have zi : (nI (i + 1) - 1).toNatClampNeg = i := by rw [nI_pred, nI_clamp (by omega)]
    have zj : (nI (j + 1) - 1).toNatClampNeg = j := by rw [nI_pred, nI_clamp (by omega)]
    refine And.intro v (pk_le (i + 1) al (fun c => absurd hk (by omega)) (fun c1 => And.intro v (pk_le (j + 1) bl (fun c => absurd hk (by omega)) (fun c2 => And.intro (by rw [nI_pred]; exact vp_in_nI (by omega) (by decide)) (And.intro (by rw [nI_pred]; exact vp_in_nI (by omega) (by decide)) (br_c (fun c3 => ?_) (fun c3 => ?_)))) rfl f3)) rfl f1)
    · rw [zi, zj] at c3
      rw [pd_sf_s] at hV K
      rw [Nat.add_sub_cancel, Nat.add_sub_cancel, if_pos c3] at hV K
      have hm : M i = -1 := hI.2.2.2.1 i (by omega) (by omega)
      have ec : pd_cm (upd M i (nI j)) n = pd_cm M n + 1 := pd_cm_u hm (pd_ne1 (by omega)) n (by omega)
      refine nm_r (pk_m1 i) (nm_r (pk_m1 j) (xa_addPair (by omega) ?_))
      show wX_matchSuffix_14 post (nI g) (k + 1) (nI i) (nI j) xcp xcx xoc xnc xbc xrc xhd xhr (nI (pd_cm M n + 1)) xop xht xgc xac xol xnl xbl xrl (upd M i (nI j)) xok xoh xoi xhf xhs xho xhp xhn xhm xtp xap xg0 xg1 xg2 xg3 xao xan xar xlc
      rw [← ec]
      refine ih i j _ (by omega) (by omega) (by omega) (by omega) (by omega) (fun x hx => ?_) (pd_I_hi hI (by omega) (hV 0 (by omega))) (fun M' hM' => ?_)
      · rw [show i - 1 - x = i - (x + 1) by omega, show j - 1 - x = j - (x + 1) by omega]
        exact hV (x + 1) (by omega)
      · rw [show i - pd_sf xol xnl k i j = i + 1 - (pd_sf xol xnl k i j + 1) by omega] at hM' ⊢
        rw [show j - pd_sf xol xnl k i j = j + 1 - (pd_sf xol xnl k i j + 1) by omega]
        exact K M' hM'
    · rw [zi, zj] at c3
      rw [pd_sf_s, Nat.add_sub_cancel, Nat.add_sub_cancel, if_neg c3] at K
      exact K M hI
theorem xa_suffix {g al ah bl bh : Nat} (hg : g < 65) (e0 : xg0 g = nI al) (e1 : xg1 g = nI ah) (e2 : xg2 g = nI bl) (e3 : xg3 g = nI bh) (h0 : al ≤ ah) (h1 : ah ≤ n) (h2 : n ≤ 32) (h4 : bl ≤ bh) (h3 : bh ≤ 32)
    (hV : ∀ x, x < pd_s xol xnl al ah bl bh → V0 (ah - 1 - x) = some (bh - 1 - x))
    (hI : pd_I xol xnl n m V0 lo hi gp al ah xpa)
    (k : ∀ M', pd_I xol xnl n m V0 lo hi gp al (ah - pd_s xol xnl al ah bl bh) M' → post (xcp, xcx, xoc, xnc, xbc, xrc, xhd, xhr, nI (pd_cm M' n), xop, xht, xgc, xac, xol, xnl, xbl, xrl, M', xok, xoh, xoi, xhf, xhs, xho, xhp, xhn, xhm, xtp, xap, xg0, upd xg1 g (nI (ah - pd_s xol xnl al ah bl bh)), xg2, upd xg3 g (nI (bh - pd_s xol xnl al ah bl bh)), xao, xan, xar, xlc)) :
    wpX_matchSuffix post (xcp, xcx, xoc, xnc, xbc, xrc, xhd, xhr, nI (pd_cm xpa n), xop, xht, xgc, xac, xol, xnl, xbl, xrl, xpa, xok, xoh, xoi, xhf, xhs, xho, xhp, xhn, xhm, xtp, xap, xg0, xg1, xg2, xg3, xao, xan, xar, xlc) (nI g) := by
  have z : (nI g).toNatClampNeg = g := nI_clamp (by omega)
  have v : vp_in (nI g) 65 := vp_in_nI hg (by decide)
  refine And.intro v (nm_r (e' := nI ah) (by rw [z, e1]) (And.intro v (nm_r (e' := nI bh) (by rw [z, e3]) ⟨_, xa_suf14 hg e0 e2 h2 _ ah bh xpa rfl h0 h4 h1 h3 hV hI (fun M' hM' => ?_)⟩)))
  exact And.intro v (nm_r (by rw [z]; rfl) (And.intro v (nm_r (by rw [z]; rfl) (k M' hM'))))
end XPR
end
section
/-! X: onlyPlace, findAnchors, rankAnchors -/
section XAN
variable {xcp xcx xoc xnc xbc xrc xhd xhr xpc xop xht xgc xac : Int32} {xol xnl xbl xrl xpa xok xoh xoi xhf xhs xho xhp xhn xhm xtp xap xg0 xg1 xg2 xg3 xao xan xar xlc : Nat → Int32}
theorem xa_only9_xol {post : Int32 → Prop} {v : Int32} {l h : Nat} (hh : h ≤ 32) : ∀ (d k s : Nat) (p : Int32), l + k + d = h → p = pd_pl xol v l k → s = pd_ct xol v l k → post (pd_op xol v l (k + d)) → wX_onlyPlace_9 post (nI h) v xol (d + 1) p (nI s) (nI (l + k)) := by
  intro d
  induction d with
  | zero =>
    intro k s p hk hp hs K
    have hc := pd_ct_le (f := xol) (v := v) (lo := l) k
    refine pk_le h (l + k) (fun _ => pk_eq s 1 (fun c => ?_) (fun c => ?_)) (fun c => absurd hk (by omega))
    · subst hp hs
      have e : pd_op xol v l (k + 0) = pd_pl xol v l k := by
        unfold pd_op pd_pl
        rw [Nat.add_zero, if_pos c, if_neg (by omega)]
      rw [e] at K
      exact K
    · subst hs
      have e : pd_op xol v l (k + 0) = -1 := if_neg c
      rw [e] at K
      exact K
  | succ d ih =>
    intro k s p hk hp hs K
    have hc := pd_ct_le (f := xol) (v := v) (lo := l) k
    have zi : (nI (l + k)).toNatClampNeg = l + k := nI_clamp (by omega)
    rw [show k + (d + 1) = k + 1 + d by omega] at K
    refine pk_le h (l + k) (fun c => absurd hk (by omega)) (fun c => And.intro (vp_in_nI (by omega) (by decide)) (br_c (fun c1 => ?_) (fun c1 => ?_)))
    · rw [zi] at c1
      refine nm_r (nI_1 s) (nm_r (nI_1 (l + k)) ?_)
      exact ih (k + 1) (s + 1) _ (by omega) (pd_pl_y c1).symm (by rw [pd_ct_y c1, hs]) K
    · rw [zi] at c1
      refine nm_r (nI_1 (l + k)) ?_
      exact ih (k + 1) s p (by omega) (by rw [pd_pl_n c1, hp]) (by rw [pd_ct_n c1, hs]) K
theorem xa_only_xol {post : Int32 → Prop} {p1 p2 p3 v : Int32} {l h : Nat} (e1 : p1 = nI l) (e2 : p2 = nI h) (e3 : p3 = v) (hl : l ≤ h) (hh : h ≤ 32) (K : post (pd_op xol v l (h - l))) : wpX_onlyPlace post xol p1 p2 p3 := by
  subst e1 e2 e3
  exact ⟨_, xa_only9_xol hh (h - l) 0 0 (-1) (by omega) rfl rfl (by rw [Nat.zero_add]; exact K)⟩
theorem xa_only9_xnl {post : Int32 → Prop} {v : Int32} {l h : Nat} (hh : h ≤ 32) : ∀ (d k s : Nat) (p : Int32), l + k + d = h → p = pd_pl xnl v l k → s = pd_ct xnl v l k → post (pd_op xnl v l (k + d)) → wX_onlyPlace_9 post (nI h) v xnl (d + 1) p (nI s) (nI (l + k)) := by
  intro d
  induction d with
  | zero =>
    intro k s p hk hp hs K
    have hc := pd_ct_le (f := xnl) (v := v) (lo := l) k
    refine pk_le h (l + k) (fun _ => pk_eq s 1 (fun c => ?_) (fun c => ?_)) (fun c => absurd hk (by omega))
    · subst hp hs
      have e : pd_op xnl v l (k + 0) = pd_pl xnl v l k := by
        unfold pd_op pd_pl
        rw [Nat.add_zero, if_pos c, if_neg (by omega)]
      rw [e] at K
      exact K
    · subst hs
      have e : pd_op xnl v l (k + 0) = -1 := if_neg c
      rw [e] at K
      exact K
  | succ d ih =>
    intro k s p hk hp hs K
    have hc := pd_ct_le (f := xnl) (v := v) (lo := l) k
    have zi : (nI (l + k)).toNatClampNeg = l + k := nI_clamp (by omega)
    rw [show k + (d + 1) = k + 1 + d by omega] at K
    refine pk_le h (l + k) (fun c => absurd hk (by omega)) (fun c => And.intro (vp_in_nI (by omega) (by decide)) (br_c (fun c1 => ?_) (fun c1 => ?_)))
    · rw [zi] at c1
      refine nm_r (nI_1 s) (nm_r (nI_1 (l + k)) ?_)
      exact ih (k + 1) (s + 1) _ (by omega) (pd_pl_y c1).symm (by rw [pd_ct_y c1, hs]) K
    · rw [zi] at c1
      refine nm_r (nI_1 (l + k)) ?_
      exact ih (k + 1) s p (by omega) (by rw [pd_pl_n c1, hp]) (by rw [pd_ct_n c1, hs]) K
theorem xa_only_xnl {post : Int32 → Prop} {p1 p2 p3 v : Int32} {l h : Nat} (e1 : p1 = nI l) (e2 : p2 = nI h) (e3 : p3 = v) (hl : l ≤ h) (hh : h ≤ 32) (K : post (pd_op xnl v l (h - l))) : wpX_onlyPlace post xnl p1 p2 p3 := by
  subst e1 e2 e3
  exact ⟨_, xa_only9_xnl hh (h - l) 0 0 (-1) (by omega) rfl rfl (by rw [Nat.zero_add]; exact K)⟩
theorem xa_find12 {post : St2 → Prop} {g al ah bl bh : Nat} (hg : g < 65) (e0 : xg0 g = nI al) (e1 : xg1 g = nI ah) (e2 : xg2 g = nI bl) (e3 : xg3 g = nI bh) (h0 : al ≤ ah) (h1 : ah ≤ 32) (h2 : bl ≤ bh) (h3 : bh ≤ 32) : ∀ (d k : Nat) (AO AN : Nat → Int32), al + k + d = ah → pd_ar (pd_an xol xnl al ah bl bh k) AO AN →
    (∀ AO' AN', pd_ar (pd_A xol xnl al ah bl bh) AO' AN' → post (xcp, xcx, xoc, xnc, xbc, xrc, xhd, xhr, xpc, xop, xht, xgc, nI (pd_A xol xnl al ah bl bh).1, xol, xnl, xbl, xrl, xpa, xok, xoh, xoi, xhf, xhs, xho, xhp, xhn, xhm, xtp, xap, xg0, xg1, xg2, xg3, AO', AN', xar, xlc)) →
    wX_findAnchors_12 post (nI g) xcp xcx xoc xnc xbc xrc xhd xhr xpc xop xht xgc (d + 1) (nI (al + k)) (nI (pd_an xol xnl al ah bl bh k).1) xol xnl xbl xrl xpa xok xoh xoi xhf xhs xho xhp xhn xhm xtp xap xg0 xg1 xg2 xg3 AO AN xar xlc := by
  have z : (nI g).toNatClampNeg = g := nI_clamp (by omega)
  have v : vp_in (nI g) 65 := vp_in_nI hg (by decide)
  have f0 : xg0 (nI g).toNatClampNeg = nI al := by rw [z, e0]
  have f1 : xg1 (nI g).toNatClampNeg = nI ah := by rw [z, e1]
  have f2 : xg2 (nI g).toNatClampNeg = nI bl := by rw [z, e2]
  have f3 : xg3 (nI g).toNatClampNeg = nI bh := by rw [z, e3]
  intro d
  induction d with
  | zero =>
    intro k AO AN hk hr K
    have ek : k = ah - al := by omega
    subst ek
    exact And.intro v (pk_le ah (al + (ah - al)) (fun _ => K AO AN hr) (fun c => absurd hk (by omega)) f1)
  | succ d ih =>
    intro k AO AN hk hr K
    have zi : (nI (al + k)).toNatClampNeg = al + k := nI_clamp (by omega)
    have vi : vp_in (nI (al + k)) 32 := vp_in_nI (by omega) (by decide)
    have hn := (pd_an_k (a := xol) (b := xnl) (al := al) (ah := ah) (bl := bl) (bh := bh) k).1
    have zn : (nI (pd_an xol xnl al ah bl bh k).1).toNatClampNeg = (pd_an xol xnl al ah bl bh k).1 := nI_clamp (by omega)
    have vn : vp_in (nI (pd_an xol xnl al ah bl bh k).1) 32 := vp_in_nI (by omega) (by decide)
    refine And.intro v (pk_le ah (al + k) (fun c => absurd hk (by omega)) (fun c => And.intro v (And.intro v (And.intro vi (xa_only_xol (v := xol (al + k)) f0 f1 (by rw [zi]) h0 h1 (And.intro v (And.intro v (And.intro vi (xa_only_xnl (v := xol (al + k)) f2 f3 (by rw [zi]) h2 h3 ?_)))))))) f1)
    by_cases c1 : pd_ct xol (xol (al + k)) al (ah - al) = 1
    · have o1 : pd_op xol (xol (al + k)) al (ah - al) = nI (pd_lp xol (xol (al + k)) al (ah - al)) := if_pos c1
      have l1 := pd_lp_in (f := xol) (v := xol (al + k)) (lo := al) (ah - al) (by omega)
      by_cases c2 : pd_ct xnl (xol (al + k)) bl (bh - bl) = 1
      · have o2 : pd_op xnl (xol (al + k)) bl (bh - bl) = nI (pd_lp xnl (xol (al + k)) bl (bh - bl)) := if_pos c2
        have l2 := pd_lp_in (f := xnl) (v := xol (al + k)) (lo := bl) (bh - bl) (by omega)
        obtain ⟨q1, q2⟩ := pd_ar_y hr c1 c2
        refine br_f (by rw [o1]; exact pd_ne1 (by omega)) (br_f (by rw [o2]; exact pd_ne1 (by omega)) (And.intro vn (nm_r (e' := upd AO (pd_an xol xnl al ah bl bh k).1 (nI (al + k))) (by rw [zn]) (And.intro vn (nm_r (e' := upd AN (pd_an xol xnl al ah bl bh k).1 (nI (pd_lp xnl (xol (al + k)) bl (bh - bl)))) (by rw [zn, o2]) (nm_r (nI_1 _) (nm_r (nI_1 (al + k)) ?_)))))))
        rw [← q1]
        exact ih (k + 1) _ _ (by omega) q2 K
      · have o2 : pd_op xnl (xol (al + k)) bl (bh - bl) = -1 := if_neg c2
        have q := pd_an_n (a := xol) (b := xnl) (al := al) (ah := ah) (bl := bl) (bh := bh) (k := k) (fun w => c2 w.2)
        refine br_f (by rw [o1]; exact pd_ne1 (by omega)) (br_t o2 (nm_r (nI_1 (al + k)) ?_))
        rw [← q]
        exact ih (k + 1) _ _ (by omega) (by rw [q]; exact hr) K
    · have o1 : pd_op xol (xol (al + k)) al (ah - al) = -1 := if_neg c1
      have q := pd_an_n (a := xol) (b := xnl) (al := al) (ah := ah) (bl := bl) (bh := bh) (k := k) (fun w => c1 w.1)
      refine br_t o1 (nm_r (nI_1 (al + k)) ?_)
      rw [← q]
      exact ih (k + 1) _ _ (by omega) (by rw [q]; exact hr) K
theorem xa_find {post : St2 → Prop} {g al ah bl bh : Nat} (hg : g < 65) (e0 : xg0 g = nI al) (e1 : xg1 g = nI ah) (e2 : xg2 g = nI bl) (e3 : xg3 g = nI bh) (h0 : al ≤ ah) (h1 : ah ≤ 32) (h2 : bl ≤ bh) (h3 : bh ≤ 32)
    (K : ∀ AO' AN', pd_ar (pd_A xol xnl al ah bl bh) AO' AN' → post (xcp, xcx, xoc, xnc, xbc, xrc, xhd, xhr, xpc, xop, xht, xgc, nI (pd_A xol xnl al ah bl bh).1, xol, xnl, xbl, xrl, xpa, xok, xoh, xoi, xhf, xhs, xho, xhp, xhn, xhm, xtp, xap, xg0, xg1, xg2, xg3, AO', AN', xar, xlc)) : wpX_findAnchors post (xcp, xcx, xoc, xnc, xbc, xrc, xhd, xhr, xpc, xop, xht, xgc, xac, xol, xnl, xbl, xrl, xpa, xok, xoh, xoi, xhf, xhs, xho, xhp, xhn, xhm, xtp, xap, xg0, xg1, xg2, xg3, xao, xan, xar, xlc) (nI g) := by
  have z : (nI g).toNatClampNeg = g := nI_clamp (by omega)
  exact And.intro (vp_in_nI hg (by decide)) (nm_r (e' := nI al) (by rw [z, e0]) ⟨_, xa_find12 hg e0 e1 e2 e3 h0 h1 h2 h3 (ah - al) 0 xao xan (by omega) (fun p hp => absurd hp (Nat.not_lt_zero _)) K⟩)
theorem xa_rank17 {post : Int32 → St2 → Prop} {J4 : Int32 → Int32 → (Nat → Int32) → (Nat → Int32) → (Nat → Int32) → (Nat → Int32) → (Nat → Int32) → (Nat → Int32) → (Nat → Int32) → (Nat → Int32) → (Nat → Int32) → (Nat → Int32) → (Nat → Int32) → (Nat → Int32) → (Nat → Int32) → (Nat → Int32) → (Nat → Int32) → (Nat → Int32) → (Nat → Int32) → (Nat → Int32) → (Nat → Int32) → (Nat → Int32) → (Nat → Int32) → (Nat → Int32) → (Nat → Int32) → (Nat → Int32) → Prop} {s : Nat × (Nat → Nat) × (Nat → Nat)} {p : Nat} (hn : s.1 ≤ 32) (hp : p < s.1) (hb : ∀ q, q < s.1 → s.2.2 q < 32) (hr : pd_ar s xao xan) (hk : ∀ q, q < p → xar q = nI (pd_rk s.2.2 q))
    (K : J4 (nI (pd_gr (pd_rk s.2.2) (p + 1))) (nI (p + 1)) xol xnl xbl xrl xpa xok xoh xoi xhf xhs xho xhp xhn xhm xtp xap xg0 xg1 xg2 xg3 xao xan (upd xar p (nI (pd_rk s.2.2 p))) xlc) :
    ∀ d q, q + d = p → wX_rankAnchors_17 post J4 (nI (pd_gr (pd_rk s.2.2) p)) (nI p) xcp xcx xoc xnc xbc xrc xhd xhr xpc xop xht xgc xac xol xnl xbl xrl xpa xok xoh xoi xhf xhs xho xhp xhn xhm xtp xap xg0 xg1 xg2 xg3 xao xan xar xlc (d + 1) (nI (pd_bs s.2.2 (pd_rk s.2.2) p q)) (nI q) := by
  have zp : (nI p).toNatClampNeg = p := nI_clamp (by omega)
  have vp : vp_in (nI p) 32 := vp_in_nI (by omega) (by decide)
  have hg : pd_gr (pd_rk s.2.2) p ≤ p := pd_gr_le p (fun q hq => by have := pd_rk_l s.2.2 q; omega)
  have hl := pd_rk_l s.2.2 p
  intro d
  induction d with
  | zero =>
    intro q hq
    have eq : q = p := by omega
    subst eq
    have es : (upd xar q (nI (pd_rk s.2.2 q))) (nI q).toNatClampNeg = nI (pd_rk s.2.2 q) := by rw [zp, pk_us]
    refine br_t (nI_le (Nat.le_refl q) (by omega)) (And.intro vp (nm_r (e' := upd xar q (nI (pd_rk s.2.2 q))) (by rw [zp, nI_1, ← pd_rk_e]) (And.intro vp (pk_le (pd_rk s.2.2 q) (pd_gr (pd_rk s.2.2) q) (fun c => nm_r (nI_1 q) ?_) (fun c => And.intro vp (nm_r es (nm_r (nI_1 q) ?_))) es))))
    · rw [pd_gr_s, if_neg (by omega)] at K
      exact K
    · rw [pd_gr_s, if_pos c] at K
      exact K
  | succ d ih =>
    intro q hq
    have zq : (nI q).toNatClampNeg = q := nI_clamp (by omega)
    have vq : vp_in (nI q) 32 := vp_in_nI (by omega) (by decide)
    have b1 := hb p hp
    have b2 := hb q (by omega)
    have b3 := pd_rk_l s.2.2 q
    have b4 : pd_bs s.2.2 (pd_rk s.2.2) p q ≤ p := pd_bs_le q (fun x hx => by have := pd_rk_l s.2.2 x; omega)
    have f1 : xan (nI p).toNatClampNeg = nI (s.2.2 p) := by rw [zp, (hr p hp).2]
    have f2 : xan (nI q).toNatClampNeg = nI (s.2.2 q) := by rw [zq, (hr q (by omega)).2]
    have f3 : xar (nI q).toNatClampNeg = nI (pd_rk s.2.2 q) := by rw [zq, hk q (by omega)]
    have I := ih (q + 1) (by omega)
    rw [pd_bs_s] at I
    refine br_f (nI_ge (by omega) (by omega)) (And.intro vq (And.intro vp (pk_le (s.2.2 p) (s.2.2 q) (fun c => nm_r (nI_1 q) ?_) (fun c => And.intro vq (pk_le (pd_rk s.2.2 q) (pd_bs s.2.2 (pd_rk s.2.2) p q) (fun c2 => nm_r (nI_1 q) ?_) (fun c2 => And.intro vq (nm_r f3 (nm_r (nI_1 q) ?_))) f3)) f1 f2)))
    · rw [if_neg (by omega)] at I
      exact I
    · rw [if_neg (by omega)] at I
      exact I
    · rw [if_pos ⟨c, c2⟩] at I
      exact I
theorem xa_rank4 {post : Int32 → St2 → Prop} {s : Nat × (Nat → Nat) × (Nat → Nat)} (hn : s.1 ≤ 32) (hb : ∀ q, q < s.1 → s.2.2 q < 32) (hr : pd_ar s xao xan)
    (K : ∀ AR, (∀ q, q < s.1 → AR q = nI (pd_rk s.2.2 q)) → post (nI (pd_K s)) (xcp, xcx, xoc, xnc, xbc, xrc, xhd, xhr, xpc, xop, xht, xgc, nI s.1, xol, xnl, xbl, xrl, xpa, xok, xoh, xoi, xhf, xhs, xho, xhp, xhn, xhm, xtp, xap, xg0, xg1, xg2, xg3, xao, xan, AR, xlc)) :
    ∀ d p AR, p + d = s.1 → (∀ q, q < p → AR q = nI (pd_rk s.2.2 q)) → wX_rankAnchors_4 post xcp xcx xoc xnc xbc xrc xhd xhr xpc xop xht xgc (nI s.1) (d + 1) (nI (pd_gr (pd_rk s.2.2) p)) (nI p) xol xnl xbl xrl xpa xok xoh xoi xhf xhs xho xhp xhn xhm xtp xap xg0 xg1 xg2 xg3 xao xan AR xlc := by
  intro d
  induction d with
  | zero =>
    intro p AR hp hA
    have ep : p = s.1 := by omega
    subst ep
    exact br_t (nI_le (Nat.le_refl _) (by omega)) (K AR hA)
  | succ d ih =>
    intro p AR hp hA
    refine br_f (nI_ge (by omega) (by omega)) ⟨_, xa_rank17 hn (by omega) hb hr hA (ih (p + 1) _ (by omega) (fun q hq => ?_)) p 0 (by omega)⟩
    by_cases e : q = p
    · subst e; rw [pk_us]
    · rw [pk_un e]; exact hA q (by omega)
theorem xa_rank {post : Int32 → St2 → Prop} {s : Nat × (Nat → Nat) × (Nat → Nat)} (hn : s.1 ≤ 32) (hb : ∀ q, q < s.1 → s.2.2 q < 32) (hr : pd_ar s xao xan)
    (K : ∀ AR, (∀ q, q < s.1 → AR q = nI (pd_rk s.2.2 q)) → post (nI (pd_K s)) (xcp, xcx, xoc, xnc, xbc, xrc, xhd, xhr, xpc, xop, xht, xgc, nI s.1, xol, xnl, xbl, xrl, xpa, xok, xoh, xoi, xhf, xhs, xho, xhp, xhn, xhm, xtp, xap, xg0, xg1, xg2, xg3, xao, xan, AR, xlc)) : wpX_rankAnchors post (xcp, xcx, xoc, xnc, xbc, xrc, xhd, xhr, xpc, xop, xht, xgc, nI s.1, xol, xnl, xbl, xrl, xpa, xok, xoh, xoi, xhf, xhs, xho, xhp, xhn, xhm, xtp, xap, xg0, xg1, xg2, xg3, xao, xan, xar, xlc) :=
  ⟨_, xa_rank4 hn hb hr K s.1 0 xar (by omega) (fun q hq => absurd hq (Nat.not_lt_zero _))⟩
end XAN
end
section
/-! X: matchChain -/
section XCH
variable {xcp xcx xoc xnc xbc xrc xhd xhr xpc xop xht xgc xac : Int32} {xol xnl xbl xrl xpa xok xoh xoi xhf xhs xho xhp xhn xhm xtp xap xg0 xg1 xg2 xg3 xao xan xar xlc : Nat → Int32}
variable {post : St2 → Prop} {n m : Nat} {V0 : Nat → Option Nat}
/-- what the chain's part of V0 says -/
def pd_cv (a b : Nat → Int32) (n m : Nat) (V0 : Nat → Option Nat) (al ah bl bh : Nat) : Prop :=
  (∀ d, d < pd_K (pd_A a b al ah bl bh) → V0 (pd_D (pd_A a b al ah bl bh) d) = some (pd_E (pd_A a b al ah bl bh) d)) ∧
  (∀ t, t ≤ pd_K (pd_A a b al ah bl bh) → pd_gk a b n m V0 (pd_lo al (pd_D (pd_A a b al ah bl bh)) (pd_K (pd_A a b al ah bl bh)) t, pd_hi ah (pd_D (pd_A a b al ah bl bh)) t, pd_lo bl (pd_E (pd_A a b al ah bl bh)) (pd_K (pd_A a b al ah bl bh)) t, pd_hi bh (pd_E (pd_A a b al ah bl bh)) t))
theorem xa_chain28 {g al ah bl bh B : Nat} (hg : g < 65) (h0 : al ≤ ah) (h1 : ah ≤ n) (hn : n ≤ 32) (h2 : bl ≤ bh) (h3 : bh ≤ 32) (hz : (pd_A xol xnl al ah bl bh).1 ≠ 0) (hc : pd_cv xol xnl n m V0 al ah bl bh)
    (hr : pd_ar (pd_A xol xnl al ah bl bh) xao xan) (hk : ∀ q, q < (pd_A xol xnl al ah bl bh).1 → xar q = nI (pd_rk (pd_A xol xnl al ah bl bh).2.2 q)) (hB : B ≤ 65)
    (K : ∀ G gp M G0 G1 G2 G3, pd_I xol xnl n m V0 (g + 1) G gp 0 0 M → g < G → pd_sm gp (g + 1) = pd_sm gp (g + 1) → G + 2 * pd_sm gp G ≤ B + 2 * pd_sm gp (g + 1) → pd_rp (g + 1) G gp G0 G1 G2 G3 → post (xcp, xcx, xoc, xnc, xbc, xrc, xhd, xhr, nI (pd_cm M n), xop, xht, nI G, xac, xol, xnl, xbl, xrl, M, xok, xoh, xoi, xhf, xhs, xho, xhp, xhn, xhm, xtp, xap, G0, G1, G2, G3, xao, xan, xar, xlc)) :
    ∀ r d G gp M G0 G1 G2 G3, pd_X (pd_A xol xnl al ah bl bh) d r → pd_I xol xnl n m V0 (g + 1) G gp al (pd_hi ah (pd_D (pd_A xol xnl al ah bl bh)) d) M → g < G → G + 2 * pd_sm gp G + 2 * (pd_hi ah (pd_D (pd_A xol xnl al ah bl bh)) d - al) + d ≤ B + 2 * pd_sm gp (g + 1) → pd_rp (g + 1) G gp G0 G1 G2 G3 → G0 g = nI al → G2 g = nI bl →
    wX_matchChain_28 post (nI g) (r + 1) (nI (pd_K (pd_A xol xnl al ah bl bh) - d)) (nI (pd_hi ah (pd_D (pd_A xol xnl al ah bl bh)) d)) (nI (pd_hi bh (pd_E (pd_A xol xnl al ah bl bh)) d)) (nI r - 1) xcp xcx xoc xnc xbc xrc xhd xhr (nI (pd_cm M n)) xop xht (nI G) xac xol xnl xbl xrl M xok xoh xoi xhf xhs xho xhp xhn xhm xtp xap G0 G1 G2 G3 xao xan xar xlc := by
  have z : (nI g).toNatClampNeg = g := nI_clamp (by omega)
  have v : vp_in (nI g) 65 := vp_in_nI hg (by decide)
  have hC := pd_CK_A hz h0
  have hA := pd_an_k (a := xol) (b := xnl) (al := al) (ah := ah) (bl := bl) (bh := bh) (ah - al)
  have hA2 : pd_an xol xnl al ah bl bh (ah - al) = pd_A xol xnl al ah bl bh := rfl
  rw [hA2, show al + (ah - al) = ah by omega] at hA
  have hK := pd_K_le (pd_A xol xnl al ah bl bh)
  intro r
  induction r with
  | zero =>
    intro d G gp M G0 G1 G2 G3 hX hI hG hS hR e0 e2
    have ed := pd_X_end hz hX
    have f0 : G0 (nI g).toNatClampNeg = nI al := by rw [z, e0]
    have f2 : G2 (nI g).toNatClampNeg = nI bl := by rw [z, e2]
    have hm := pd_sm_m (gp := gp) G (g + 1) (by omega)
    have hk1 := hC.1
    have hgk := hc.2 d (by omega)
    have el : pd_lo al (pd_D (pd_A xol xnl al ah bl bh)) (pd_K (pd_A xol xnl al ah bl bh)) d = al := if_neg (by omega)
    have el2 : pd_lo bl (pd_E (pd_A xol xnl al ah bl bh)) (pd_K (pd_A xol xnl al ah bl bh)) d = bl := if_neg (by omega)
    rw [el, el2] at hgk
    have hlh : al ≤ pd_hi ah (pd_D (pd_A xol xnl al ah bl bh)) d := hgk.1
    refine br_t (by decide) (And.intro v (And.intro v ?_))
    rw [f0, f2]
    refine xa_addGap (by omega) ?_
    have hI' := pd_I_em (L' := 0) (H' := 0) (pd_I_dn hI (by omega) hlh (Nat.le_refl _) hgk) (Nat.le_refl _) (Nat.le_refl _)
    have e1 := pd_sm_u (gp := gp) (k := G) (v := (al, pd_hi ah (pd_D (pd_A xol xnl al ah bl bh)) d, bl, pd_hi bh (pd_E (pd_A xol xnl al ah bl bh)) d)) (g + 1) (by omega)
    have e3 := pd_sm_p (gp := gp) (k := G) (v := (al, pd_hi ah (pd_D (pd_A xol xnl al ah bl bh)) d, bl, pd_hi bh (pd_E (pd_A xol xnl al ah bl bh)) d))
    refine K (G + 1) _ M _ _ _ _ hI' (by omega) rfl ?_ (pd_rp_p hR)
    rw [e1, e3]
    show G + 1 + 2 * (pd_sm gp G + (pd_hi ah (pd_D (pd_A xol xnl al ah bl bh)) d - al)) ≤ _
    omega
  | succ r ih =>
    intro d G gp M G0 G1 G2 G3 hX hI hG hS hR e0 e2
    have hr1 : r < (pd_A xol xnl al ah bl bh).1 := by have := hX.2.1; omega
    have hrr := hA.2.1 r hr1
    have zr : (nI (r + 1) - 1).toNatClampNeg = r := by rw [nI_pred, nI_clamp (by omega)]
    have vr : vp_in (nI (r + 1) - 1) 32 := by rw [nI_pred]; exact vp_in_nI (by omega) (by decide)
    have fr : xar (nI (r + 1) - 1).toNatClampNeg = nI (pd_rk (pd_A xol xnl al ah bl bh).2.2 r) := by rw [zr, hk r hr1]
    have fo : xao (nI (r + 1) - 1).toNatClampNeg = nI ((pd_A xol xnl al ah bl bh).2.1 r) := by rw [zr, (hr r hr1).1]
    have fn : xan (nI (r + 1) - 1).toNatClampNeg = nI ((pd_A xol xnl al ah bl bh).2.2 r) := by rw [zr, (hr r hr1).2]
    have bk := pd_rk_l (pd_A xol xnl al ah bl bh).2.2 r
    have hx : nI (r + 1) - 1 + (-1) = nI r - 1 := by rw [nI_pred, pd_sub1]
    have hlh : pd_hi ah (pd_D (pd_A xol xnl al ah bl bh)) d ≤ ah ∧ pd_hi bh (pd_E (pd_A xol xnl al ah bl bh)) d ≤ bh := by
      have := pd_CK_lh hC h0 h2 (t := d) hX.1
      exact ⟨this.2.2.1, this.2.2.2.2.2.1⟩
    refine br_f (by rw [nI_pred]; exact nI_pos (by omega)) (And.intro vr (pk_eq (pd_rk (pd_A xol xnl al ah bl bh).2.2 r) (pd_K (pd_A xol xnl al ah bl bh) - d) (fun c1 => And.intro vr (pk_le (pd_hi bh (pd_E (pd_A xol xnl al ah bl bh)) d) ((pd_A xol xnl al ah bl bh).2.2 r) (fun c2 => nm_r hx ?_) (fun c2 => And.intro vr (And.intro vr ?_)) rfl fn)) (fun c1 => nm_r hx ?_) fr))
    · exact ih d G gp M G0 G1 G2 G3 (pd_X_miss hz h0 hX (fun w => absurd w.2 (by omega))) hI hG hS hR e0 e2
    · obtain ⟨hd, ec, hX'⟩ := pd_X_hit hz h0 hX c1 c2
      have eD : pd_D (pd_A xol xnl al ah bl bh) d = (pd_A xol xnl al ah bl bh).2.1 r := by unfold pd_D; rw [ec]
      have eE : pd_E (pd_A xol xnl al ah bl bh) d = (pd_A xol xnl al ah bl bh).2.2 r := by unfold pd_E; rw [ec]
      have hgk := hc.2 d (by omega)
      have hV := hc.1 d hd
      have el : pd_lo al (pd_D (pd_A xol xnl al ah bl bh)) (pd_K (pd_A xol xnl al ah bl bh)) d = pd_D (pd_A xol xnl al ah bl bh) d + 1 := if_pos hd
      have el2 : pd_lo bl (pd_E (pd_A xol xnl al ah bl bh)) (pd_K (pd_A xol xnl al ah bl bh)) d = pd_E (pd_A xol xnl al ah bl bh) d + 1 := if_pos hd
      rw [el, el2] at hgk
      rw [eD, eE] at hgk hV
      have hlo : (pd_A xol xnl al ah bl bh).2.1 r + 1 ≤ pd_hi ah (pd_D (pd_A xol xnl al ah bl bh)) d := hgk.1
      have hm := pd_sm_m (gp := gp) G (g + 1) (by omega)
      have hI' := pd_I_up hI (by omega) hrr.1 (by omega) hV hgk
      have hMr : M ((pd_A xol xnl al ah bl bh).2.1 r) = -1 := hI.2.2.2.1 _ hrr.1 (by omega)
      have ecm : pd_cm (upd M ((pd_A xol xnl al ah bl bh).2.1 r) (nI ((pd_A xol xnl al ah bl bh).2.2 r))) n = pd_cm M n + 1 := pd_cm_u hMr (pd_ne1 (by omega)) n (by omega)
      rw [fo, fn]
      refine xa_addPair (by omega) (And.intro vr (And.intro vr ?_))
      rw [fo, fn, nI_1, nI_1]
      refine xa_addGap (by omega) (And.intro vr (nm_r fo (And.intro vr (nm_r fn (nm_r (e' := nI (pd_K (pd_A xol xnl al ah bl bh) - (d + 1))) ?_ (nm_r hx ?_))))))
      · rw [show pd_K (pd_A xol xnl al ah bl bh) - d = pd_K (pd_A xol xnl al ah bl bh) - (d + 1) + 1 by omega]
        exact pk_m1 _
      · have e1 := pd_sm_u (gp := gp) (k := G) (v := ((pd_A xol xnl al ah bl bh).2.1 r + 1, pd_hi ah (pd_D (pd_A xol xnl al ah bl bh)) d, (pd_A xol xnl al ah bl bh).2.2 r + 1, pd_hi bh (pd_E (pd_A xol xnl al ah bl bh)) d)) (g + 1) (by omega)
        have e3 := pd_sm_p (gp := gp) (k := G) (v := ((pd_A xol xnl al ah bl bh).2.1 r + 1, pd_hi ah (pd_D (pd_A xol xnl al ah bl bh)) d, (pd_A xol xnl al ah bl bh).2.2 r + 1, pd_hi bh (pd_E (pd_A xol xnl al ah bl bh)) d))
        have eh : pd_hi ah (pd_D (pd_A xol xnl al ah bl bh)) (d + 1) = (pd_A xol xnl al ah bl bh).2.1 r := eD
        have eh2 : pd_hi bh (pd_E (pd_A xol xnl al ah bl bh)) (d + 1) = (pd_A xol xnl al ah bl bh).2.2 r := eE
        have I := ih (d + 1) (G + 1) _ _ _ _ _ _ hX' (by rw [eh]; exact hI') (by omega) (by
          rw [e1, e3, eh]
          show G + 1 + 2 * (pd_sm gp G + (pd_hi ah (pd_D (pd_A xol xnl al ah bl bh)) d - ((pd_A xol xnl al ah bl bh).2.1 r + 1))) + 2 * ((pd_A xol xnl al ah bl bh).2.1 r - al) + (d + 1) ≤ _
          omega) (pd_rp_p hR) (by rw [pk_un (by omega)]; exact e0) (by rw [pk_un (by omega)]; exact e2)
        rw [eh, eh2, ecm] at I
        exact I
    · exact ih d G gp M G0 G1 G2 G3 (pd_X_miss hz h0 hX (fun w => absurd w.1 c1)) hI hG hS hR e0 e2
end XCH
end
section
/-! X: fillLcs, walkLcs -/
section XLC
variable {xcp xcx xoc xnc xbc xrc xhd xhr xpc xop xht xgc xac : Int32} {xol xnl xbl xrl xpa xok xoh xoi xhf xhs xho xhp xhn xhm xtp xap xg0 xg1 xg2 xg3 xao xan xar xlc : Nat → Int32}
variable {post : St2 → Prop} {n m : Nat} {V0 : Nat → Option Nat} {lo hi : Nat} {gp : Nat → pd_g}
theorem xa_fill24 {J7 : Int32 → (Nat → Int32) → (Nat → Int32) → (Nat → Int32) → (Nat → Int32) → (Nat → Int32) → (Nat → Int32) → (Nat → Int32) → (Nat → Int32) → (Nat → Int32) → (Nat → Int32) → (Nat → Int32) → (Nat → Int32) → (Nat → Int32) → (Nat → Int32) → (Nat → Int32) → (Nat → Int32) → (Nat → Int32) → (Nat → Int32) → (Nat → Int32) → (Nat → Int32) → (Nat → Int32) → (Nat → Int32) → (Nat → Int32) → (Nat → Int32) → Prop} {g al ah bl bh r : Nat} (hg : g < 65) (e1 : xg1 g = nI ah) (e2 : xg2 g = nI bl) (e3 : xg3 g = nI bh) (h1 : ah ≤ 32) (h3 : bh ≤ 32) (hr : al + r ≤ ah)
    (K : ∀ T, pd_tb xol xnl al ah bl bh (r + 1) 0 T → J7 (nI (al + r) - 1) xol xnl xbl xrl xpa xok xoh xoi xhf xhs xho xhp xhn xhm xtp xap xg0 xg1 xg2 xg3 xao xan xar T) :
    ∀ t T, bl + t ≤ bh + 1 → pd_tb xol xnl al ah bl bh (r + 1) t T → wX_fillLcs_24 post J7 (nI g) (nI (al + r)) xcp xcx xoc xnc xbc xrc xhd xhr xpc xop xht xgc xac (t + 1) (nI (bl + t) - 1) xol xnl xbl xrl xpa xok xoh xoi xhf xhs xho xhp xhn xhm xtp xap xg0 xg1 xg2 xg3 xao xan xar T := by
  have z : (nI g).toNatClampNeg = g := nI_clamp (by omega)
  have v : vp_in (nI g) 65 := vp_in_nI hg (by decide)
  have f1 : xg1 (nI g).toNatClampNeg = nI ah := by rw [z, e1]
  have f2 : xg2 (nI g).toNatClampNeg = nI bl := by rw [z, e2]
  have f3 : xg3 (nI g).toNatClampNeg = nI bh := by rw [z, e3]
  have zi : (nI (al + r)).toNatClampNeg = al + r := nI_clamp (by omega)
  intro t
  induction t with
  | zero =>
    intro T ht hT
    refine And.intro v (br_t ?_ (nm_r (pd_sub1 _) (K T hT)))
    rw [f2]
    exact pd_lt1 (by omega)
  | succ t ih =>
    intro T ht hT
    have hx : nI (bl + (t + 1)) - 1 = nI (bl + t) := nI_pred (bl + t)
    have hx2 : nI (bl + t) + (-1) = nI (bl + t) - 1 := pd_sub1 _
    have zj : (nI (bl + t)).toNatClampNeg = bl + t := nI_clamp (by omega)
    have zc : (nI ((al + r) * 33 + (bl + t))).toNatClampNeg = (al + r) * 33 + (bl + t) := nI_clamp (by omega)
    have vc : vp_in (nI ((al + r) * 33 + (bl + t))) 1089 := vp_in_nI (by omega) (by decide)
    rw [hx]
    refine And.intro v (br_f (by rw [f2]; exact nI_nlt (by omega) (by omega)) (nm_r (pd_cell (al + r) (bl + t)) (And.intro v (pk_eq (al + r) ah (fun c => ?_) (fun c => And.intro v (pk_eq (bl + t) bh (fun c2 => ?_) (fun c2 => And.intro (vp_in_nI (by omega) (by decide)) (And.intro (vp_in_nI (by omega) (by decide)) (br_c (fun c3 => ?_) (fun c3 => ?_)))) rfl f3)) rfl f1))))
    · refine And.intro vc (nm_r (e' := upd T ((al + r) * 33 + (bl + t)) 0) (by rw [zc]) (nm_r hx2 (ih _ (by omega) (pd_tb_p h3 (by omega) ?_ hT))))
      rw [show ah - (al + r) = 0 by omega]
      rfl
    · refine And.intro vc (nm_r (e' := upd T ((al + r) * 33 + (bl + t)) 0) (by rw [zc]) (nm_r hx2 (ih _ (by omega) (pd_tb_p h3 (by omega) ?_ hT))))
      rw [show bh - (bl + t) = 0 by omega, pd_T_0]
      rfl
    · rw [zi, zj] at c3
      have ec : nI ((al + r) * 33 + (bl + t)) + 33 + 1 = nI ((al + r + 1) * 33 + (bl + t + 1)) := by
        rw [show nI ((al + r) * 33 + (bl + t)) + 33 = nI ((al + r) * 33 + (bl + t) + 33) from nI_add _ 33, nI_1]
        exact congrArg nI (by omega)
      have et := hT (al + r + 1) (bl + t + 1) (by omega) (by omega) (by omega) (by omega)
      refine And.intro (by rw [ec]; exact vp_in_nI (by omega) (by decide)) (And.intro vc (nm_r (e' := upd T ((al + r) * 33 + (bl + t)) (nI (pd_T xol xnl ah bh (ah - (al + r)) (bh - (bl + t))))) ?_ (nm_r hx2 (ih _ (by omega) (pd_tb_p h3 (by omega) rfl hT)))))
      rw [zc, ec, nI_clamp (by omega), et, nI_1]
      rw [show ah - (al + r) = ah - (al + r + 1) + 1 by omega, show bh - (bl + t) = bh - (bl + t + 1) + 1 by omega, pd_T_s, if_pos (by rw [show ah - (ah - (al + r + 1) + 1) = al + r by omega, show bh - (bh - (bl + t + 1) + 1) = bl + t by omega]; exact c3)]
    · rw [zi, zj] at c3
      have ec : nI ((al + r) * 33 + (bl + t)) + 33 = nI ((al + r + 1) * 33 + (bl + t)) := by
        rw [show nI ((al + r) * 33 + (bl + t)) + 33 = nI ((al + r) * 33 + (bl + t) + 33) from nI_add _ 33]
        exact congrArg nI (by omega)
      have ed : nI ((al + r) * 33 + (bl + t)) + 1 = nI ((al + r) * 33 + (bl + t + 1)) := by
        rw [nI_1]
        exact congrArg nI (by omega)
      have et := hT (al + r + 1) (bl + t) (by omega) (by omega) (by omega) (by omega)
      have eu := hT (al + r) (bl + t + 1) (by omega) (by omega) (by omega) (by omega)
      have b1 := pd_T_le (a := xol) (b := xnl) (ah := ah) (bh := bh) (ah - (al + r + 1)) (bh - (bl + t))
      have b2 := pd_T_le (a := xol) (b := xnl) (ah := ah) (bh := bh) (ah - (al + r)) (bh - (bl + t + 1))
      have eT : pd_T xol xnl ah bh (ah - (al + r)) (bh - (bl + t)) = if pd_T xol xnl ah bh (ah - (al + r)) (bh - (bl + t + 1)) ≤ pd_T xol xnl ah bh (ah - (al + r + 1)) (bh - (bl + t)) then pd_T xol xnl ah bh (ah - (al + r + 1)) (bh - (bl + t)) else pd_T xol xnl ah bh (ah - (al + r)) (bh - (bl + t + 1)) := by
        rw [show ah - (al + r) = ah - (al + r + 1) + 1 by omega, show bh - (bl + t) = bh - (bl + t + 1) + 1 by omega, pd_T_s, if_neg (by rw [show ah - (ah - (al + r + 1) + 1) = al + r by omega, show bh - (bh - (bl + t + 1) + 1) = bl + t by omega]; exact c3)]
      refine And.intro (by rw [ec]; exact vp_in_nI (by omega) (by decide)) (nm_r (e' := nI (pd_T xol xnl ah bh (ah - (al + r + 1)) (bh - (bl + t)))) (by rw [ec, nI_clamp (by omega), et]) (And.intro (by rw [ed]; exact vp_in_nI (by omega) (by decide)) (nm_r (e' := nI (pd_T xol xnl ah bh (ah - (al + r)) (bh - (bl + t + 1)))) (by rw [ed, nI_clamp (by omega), eu]) (pk_le (pd_T xol xnl ah bh (ah - (al + r + 1)) (bh - (bl + t))) (pd_T xol xnl ah bh (ah - (al + r)) (bh - (bl + t + 1))) (fun c4 => ?_) (fun c4 => ?_)))))
      · refine And.intro vc (nm_r (e' := upd T ((al + r) * 33 + (bl + t)) (nI (pd_T xol xnl ah bh (ah - (al + r)) (bh - (bl + t + 1))))) (by rw [zc]) (nm_r hx2 (ih _ (by omega) (pd_tb_p h3 (by omega) ?_ hT))))
        rw [eT]
        split
        · exact congrArg nI (by omega)
        · rfl
      · refine And.intro vc (nm_r (e' := upd T ((al + r) * 33 + (bl + t)) (nI (pd_T xol xnl ah bh (ah - (al + r + 1)) (bh - (bl + t))))) (by rw [zc]) (nm_r hx2 (ih _ (by omega) (pd_tb_p h3 (by omega) ?_ hT))))
        rw [eT, if_pos (by omega)]
theorem xa_fill7 {g al ah bl bh : Nat} (hg : g < 65) (e0 : xg0 g = nI al) (e1 : xg1 g = nI ah) (e2 : xg2 g = nI bl) (e3 : xg3 g = nI bh) (h0 : al ≤ ah) (h1 : ah ≤ 32) (h2 : bl ≤ bh) (h3 : bh ≤ 32)
    (K : ∀ T, pd_tb xol xnl al ah bl bh 0 (bh + 1) T → post (xcp, xcx, xoc, xnc, xbc, xrc, xhd, xhr, xpc, xop, xht, xgc, xac, xol, xnl, xbl, xrl, xpa, xok, xoh, xoi, xhf, xhs, xho, xhp, xhn, xhm, xtp, xap, xg0, xg1, xg2, xg3, xao, xan, xar, T)) :
    ∀ r T, al + r ≤ ah + 1 → pd_tb xol xnl al ah bl bh r (bh + 1) T → wX_fillLcs_7 post (nI g) xcp xcx xoc xnc xbc xrc xhd xhr xpc xop xht xgc xac (r + 1) (nI (al + r) - 1) xol xnl xbl xrl xpa xok xoh xoi xhf xhs xho xhp xhn xhm xtp xap xg0 xg1 xg2 xg3 xao xan xar T := by
  have z : (nI g).toNatClampNeg = g := nI_clamp (by omega)
  have v : vp_in (nI g) 65 := vp_in_nI hg (by decide)
  have f0 : xg0 (nI g).toNatClampNeg = nI al := by rw [z, e0]
  have f3 : xg3 (nI g).toNatClampNeg = nI bh := by rw [z, e3]
  intro r
  induction r with
  | zero =>
    intro T hr hT
    refine And.intro v (br_t ?_ (K T hT))
    rw [f0]
    exact pd_lt1 (by omega)
  | succ r ih =>
    intro T hr hT
    have hx : nI (al + (r + 1)) - 1 = nI (al + r) := nI_pred (al + r)
    have hb : nI bh = nI (bl + (bh + 1 - bl)) - 1 := by
      rw [show bl + (bh + 1 - bl) = bh + 1 by omega, nI_pred]
    rw [hx]
    refine And.intro v (br_f (by rw [f0]; exact nI_nlt (by omega) (by omega)) (And.intro v (nm_r (e' := nI (bl + (bh + 1 - bl)) - 1) (by rw [f3, hb]) ⟨_, xa_fill24 hg e1 e2 e3 h1 h3 (by omega) (fun T' hT' => ih T' (by omega) (pd_tb_r hT' (by omega))) (bh + 1 - bl) T (by omega) ?_⟩)))
    intro x y k1 k2 k3 k4
    exact hT x y k1 k2 k3 (by omega)
theorem xa_fill {g al ah bl bh : Nat} (hg : g < 65) (e0 : xg0 g = nI al) (e1 : xg1 g = nI ah) (e2 : xg2 g = nI bl) (e3 : xg3 g = nI bh) (h0 : al ≤ ah) (h1 : ah ≤ 32) (h2 : bl ≤ bh) (h3 : bh ≤ 32)
    (K : ∀ T, pd_tb xol xnl al ah bl bh 0 (bh + 1) T → post (xcp, xcx, xoc, xnc, xbc, xrc, xhd, xhr, xpc, xop, xht, xgc, xac, xol, xnl, xbl, xrl, xpa, xok, xoh, xoi, xhf, xhs, xho, xhp, xhn, xhm, xtp, xap, xg0, xg1, xg2, xg3, xao, xan, xar, T)) : wpX_fillLcs post (xcp, xcx, xoc, xnc, xbc, xrc, xhd, xhr, xpc, xop, xht, xgc, xac, xol, xnl, xbl, xrl, xpa, xok, xoh, xoi, xhf, xhs, xho, xhp, xhn, xhm, xtp, xap, xg0, xg1, xg2, xg3, xao, xan, xar, xlc) (nI g) := by
  have z : (nI g).toNatClampNeg = g := nI_clamp (by omega)
  refine And.intro (vp_in_nI hg (by decide)) (nm_r (e' := nI (al + (ah + 1 - al)) - 1) ?_ ⟨_, xa_fill7 hg e0 e1 e2 e3 h0 h1 h2 h3 K (ah + 1 - al) xlc (by omega) (pd_tb_0 (by omega) (by omega))⟩)
  rw [z, e1, show al + (ah + 1 - al) = ah + 1 by omega, nI_pred]
theorem xa_walk14 {g al ah bl bh : Nat} (hg : g < 65) (e1 : xg1 g = nI ah) (e3 : xg3 g = nI bh) (h1 : ah ≤ n) (hn : n ≤ 32) (h3 : bh ≤ 32) (hT : pd_tb xol xnl al ah bl bh 0 (bh + 1) xlc)
    (K : ∀ M, pd_I xol xnl n m V0 lo hi gp ah ah M → post (xcp, xcx, xoc, xnc, xbc, xrc, xhd, xhr, nI (pd_cm M n), xop, xht, xgc, xac, xol, xnl, xbl, xrl, M, xok, xoh, xoi, xhf, xhs, xho, xhp, xhn, xhm, xtp, xap, xg0, xg1, xg2, xg3, xao, xan, xar, xlc)) :
    ∀ f i j M, (ah - i) + (bh - j) ≤ f → al ≤ i → bl ≤ j → i ≤ ah → j ≤ bh → (∀ x, i ≤ x → x < ah → V0 x = pd_lm xol xnl ah bh f i j x) → pd_I xol xnl n m V0 lo hi gp i ah M →
    wX_walkLcs_14 post (nI g) (f + 1) (nI i) (nI j) xcp xcx xoc xnc xbc xrc xhd xhr (nI (pd_cm M n)) xop xht xgc xac xol xnl xbl xrl M xok xoh xoi xhf xhs xho xhp xhn xhm xtp xap xg0 xg1 xg2 xg3 xao xan xar xlc := by
  have z : (nI g).toNatClampNeg = g := nI_clamp (by omega)
  have v : vp_in (nI g) 65 := vp_in_nI hg (by decide)
  have f1 : xg1 (nI g).toNatClampNeg = nI ah := by rw [z, e1]
  have f3 : xg3 (nI g).toNatClampNeg = nI bh := by rw [z, e3]
  intro f
  induction f with
  | zero =>
    intro i j M hf ha hb hi hj hV hI
    have ei : i = ah := by omega
    subst ei
    exact And.intro v (pk_le i i (fun _ => K M hI) (fun c => absurd c (by omega)) f1)
  | succ f ih =>
    intro i j M hf ha hb hi hj hV hI
    refine And.intro v (pk_le ah i (fun c => ?_) (fun c => And.intro v (pk_le bh j (fun c2 => ?_) (fun c2 => nm_r (pd_cell i j) (And.intro (vp_in_nI (by omega) (by decide)) (And.intro (vp_in_nI (by omega) (by decide)) (br_c (fun c3 => ?_) (fun c3 => ?_))))) f3)) f1)
    · have ei : i = ah := by omega
      subst ei
      exact K M hI
    · refine K M (pd_I_sk hI hi (fun x x1 x2 => ?_))
      rw [hV x x1 x2, pd_lm_s, if_neg (by omega)]
    · rw [nI_clamp (by omega), nI_clamp (by omega)] at c3
      have hm : M i = -1 := hI.2.2.2.1 i (Nat.le_refl i) c
      have ec : pd_cm (upd M i (nI j)) n = pd_cm M n + 1 := pd_cm_u hm (pd_ne1 (by omega)) n (by omega)
      have hVi : V0 i = some j := by rw [hV i (Nat.le_refl i) c, pd_lm_s, if_pos ⟨c, c2⟩, if_pos c3, if_pos rfl]
      refine xa_addPair (by omega) (nm_r (nI_1 i) (nm_r (nI_1 j) ?_))
      rw [← ec]
      refine ih (i + 1) (j + 1) _ (by omega) (by omega) (by omega) (by omega) (by omega) (fun x x1 x2 => ?_) (pd_I_lo hI c hVi)
      rw [hV x (by omega) x2, pd_lm_s, if_pos ⟨c, c2⟩, if_pos c3, if_neg (by omega)]
    · rw [nI_clamp (by omega), nI_clamp (by omega)] at c3
      have ec : nI (i * 33 + j) + 33 = nI ((i + 1) * 33 + j) := by
        rw [show nI (i * 33 + j) + 33 = nI (i * 33 + j + 33) from nI_add _ 33]
        exact congrArg nI (by omega)
      have ed : nI (i * 33 + j) + 1 = nI (i * 33 + (j + 1)) := by
        rw [nI_1]
        exact congrArg nI (by omega)
      have et := hT (i + 1) j (by omega) (by omega) (by omega) (by omega)
      have eu := hT i (j + 1) (by omega) (by omega) (by omega) (by omega)
      have b1 := pd_T_le (a := xol) (b := xnl) (ah := ah) (bh := bh) (ah - (i + 1)) (bh - j)
      have b2 := pd_T_le (a := xol) (b := xnl) (ah := ah) (bh := bh) (ah - i) (bh - (j + 1))
      refine And.intro (by rw [ec]; exact vp_in_nI (by omega) (by decide)) (And.intro (by rw [ed]; exact vp_in_nI (by omega) (by decide)) (pk_lt (pd_T xol xnl ah bh (ah - (i + 1)) (bh - j)) (pd_T xol xnl ah bh (ah - i) (bh - (j + 1))) (fun c4 => nm_r (nI_1 j) ?_) (fun c4 => nm_r (nI_1 i) ?_) (by rw [ec, nI_clamp (by omega), et]) (by rw [ed, nI_clamp (by omega), eu])))
      · refine ih i (j + 1) M (by omega) ha (by omega) hi (by omega) (fun x x1 x2 => ?_) hI
        rw [hV x x1 x2, pd_lm_s, if_pos ⟨c, c2⟩, if_neg c3, if_neg (by omega)]
      · have hVi : ∀ x, i ≤ x → x < ah → V0 x = pd_lm xol xnl ah bh f (i + 1) j x := fun x x1 x2 => by rw [hV x x1 x2, pd_lm_s, if_pos ⟨c, c2⟩, if_neg c3, if_pos c4]
        refine ih (i + 1) j M (by omega) (by omega) hb (by omega) hj (fun x x1 x2 => hVi x (by omega) x2) (pd_I_sk hI (by omega) (fun x x1 x2 => ?_))
        have ex : x = i := by omega
        subst ex
        rw [hVi x (Nat.le_refl x) c]
        cases hh : pd_lm xol xnl ah bh f (x + 1) j x with
        | none => rfl
        | some y => have := pd_lm_lo _ _ _ _ _ hh; omega
theorem xa_walk {g al ah bl bh : Nat} (hg : g < 65) (e0 : xg0 g = nI al) (e1 : xg1 g = nI ah) (e2 : xg2 g = nI bl) (e3 : xg3 g = nI bh) (h0 : al ≤ ah) (h1 : ah ≤ n) (hn : n ≤ 32) (h2 : bl ≤ bh) (h3 : bh ≤ 32) (hT : pd_tb xol xnl al ah bl bh 0 (bh + 1) xlc)
    (hV : ∀ x, al ≤ x → x < ah → V0 x = pd_lm xol xnl ah bh ((ah - al) + (bh - bl)) al bl x) (hI : pd_I xol xnl n m V0 lo hi gp al ah xpa)
    (K : ∀ M, pd_I xol xnl n m V0 lo hi gp ah ah M → post (xcp, xcx, xoc, xnc, xbc, xrc, xhd, xhr, nI (pd_cm M n), xop, xht, xgc, xac, xol, xnl, xbl, xrl, M, xok, xoh, xoi, xhf, xhs, xho, xhp, xhn, xhm, xtp, xap, xg0, xg1, xg2, xg3, xao, xan, xar, xlc)) : wpX_walkLcs post (xcp, xcx, xoc, xnc, xbc, xrc, xhd, xhr, nI (pd_cm xpa n), xop, xht, xgc, xac, xol, xnl, xbl, xrl, xpa, xok, xoh, xoi, xhf, xhs, xho, xhp, xhn, xhm, xtp, xap, xg0, xg1, xg2, xg3, xao, xan, xar, xlc) (nI g) := by
  have z : (nI g).toNatClampNeg = g := nI_clamp (by omega)
  have v : vp_in (nI g) 65 := vp_in_nI hg (by decide)
  exact And.intro v (nm_r (e' := nI al) (by rw [z, e0]) (And.intro v (nm_r (e' := nI bl) (by rw [z, e2]) ⟨_, xa_walk14 hg e1 e3 h1 hn h3 hT K _ al bl xpa (Nat.le_refl _) (Nat.le_refl _) (Nat.le_refl _) h0 h2 hV hI⟩)))
end XLC
end
section
/-! V's steps, then X: refineGap, matchLines -/
section XVS
variable {a b : Nat → Int32} {f al ah bl bh x : Nat} {W : pd_W}
theorem pd_V_pre (hx : x < pd_p a b al ah bl bh) : pd_V a b (f + 1) al ah bl bh (al + x) = some (bl + x) := by
  rw [pd_V_s]
  unfold pd_vs
  rw [if_pos (by omega), Nat.add_sub_cancel_left]
theorem pd_V_mid (hx : al + pd_p a b al ah bl bh ≤ x) : pd_V a b (f + 1) al ah bl bh x = pd_vt a b (pd_V a b f) (al + pd_p a b al ah bl bh) ah (bl + pd_p a b al ah bl bh) bh x := by
  rw [pd_V_s]
  unfold pd_vs
  rw [if_neg (by omega)]
theorem pd_vt_suf (hx : x < pd_s a b al ah bl bh) : pd_vt a b W al ah bl bh (ah - 1 - x) = some (bh - 1 - x) := by
  have hs := pd_s_le (a := a) (b := b) (al := al) (ah := ah) (bl := bl) (bh := bh)
  unfold pd_vt
  rw [if_pos (by omega)]
  exact congrArg some (by omega)
theorem pd_vt_mid (hx : x < ah - pd_s a b al ah bl bh) : pd_vt a b W al ah bl bh x = pd_vm a b W al (ah - pd_s a b al ah bl bh) bl (bh - pd_s a b al ah bl bh) x := by
  unfold pd_vt
  rw [if_neg (by omega)]
theorem pd_vm_cv {n m : Nat} {V0 : Nat → Option Nat} (hz : (pd_A a b al ah bl bh).1 ≠ 0) (he : ¬ (al = ah ∨ bl = bh)) (ha : al ≤ ah) (hb : bl ≤ bh) (hn : ah ≤ n) (hm : bh ≤ m) (hf : ah - al ≤ f) (hV : ∀ x, al ≤ x → x < ah → V0 x = pd_vm a b (pd_V a b f) al ah bl bh x) : pd_cv a b n m V0 al ah bl bh := by
  have hC := pd_CK_A hz ha
  have hF : ∀ x, al ≤ x → x < ah → V0 x = pd_vc (pd_V a b f) al ah bl bh (pd_K (pd_A a b al ah bl bh)) (pd_D (pd_A a b al ah bl bh)) (pd_E (pd_A a b al ah bl bh)) x := fun x x1 x2 => by
    rw [hV x x1 x2]
    unfold pd_vm
    rw [if_neg he, if_neg hz]
  refine ⟨fun d hd => ?_, fun t ht => ?_⟩
  · have := hC.2.2.1 d hd
    rw [hF _ this.1 this.2.1]
    exact pd_vc_at hC hd
  · have h := pd_CK_lh hC ha hb ht
    refine ⟨h.2.1, by have := h.2.2.1; dsimp only; omega, h.2.2.2.2.1, by have := h.2.2.2.2.2.1; dsimp only; omega, f, by have := h.2.2.2.2.2.2; dsimp only; omega, fun x hx => ?_⟩
    have x1 : pd_lo al (pd_D (pd_A a b al ah bl bh)) (pd_K (pd_A a b al ah bl bh)) t ≤ x := hx.1
    have x2 : x < pd_hi ah (pd_D (pd_A a b al ah bl bh)) t := hx.2
    rw [hF x (by omega) (by omega)]
    exact pd_vc_in hC ht x1 x2
end XVS
section XRE
variable {xcp xcx xoc xnc xbc xrc xhd xhr xpc xop xht xgc xac : Int32} {xol xnl xbl xrl xpa xok xoh xoi xhf xhs xho xhp xhn xhm xtp xap xg0 xg1 xg2 xg3 xao xan xar xlc : Nat → Int32}
variable {post : St2 → Prop} {n m : Nat} {V0 : Nat → Option Nat}
theorem xa_refine {g G : Nat} {gp : Nat → pd_g} (hg : g < 65) (hG : g < G) (hn : n ≤ 32) (hm : m ≤ 32) (hI : pd_I xol xnl n m V0 g G gp 0 0 xpa) (hR : pd_rp g G gp xg0 xg1 xg2 xg3) (hS : G + 2 * pd_sm gp G ≤ 65 + 2 * pd_sm gp g)
    (K : ∀ G' gp' M G0 G1 G2 G3 AO AN AR T ac, pd_I xol xnl n m V0 (g + 1) G' gp' 0 0 M → g < G' → G' + 2 * pd_sm gp' G' ≤ 65 + 2 * pd_sm gp' (g + 1) → pd_rp (g + 1) G' gp' G0 G1 G2 G3 → post (xcp, xcx, xoc, xnc, xbc, xrc, xhd, xhr, nI (pd_cm M n), xop, xht, nI G', ac, xol, xnl, xbl, xrl, M, xok, xoh, xoi, xhf, xhs, xho, xhp, xhn, xhm, xtp, xap, G0, G1, G2, G3, AO, AN, AR, T)) :
    wpX_refineGap post (xcp, xcx, xoc, xnc, xbc, xrc, xhd, xhr, nI (pd_cm xpa n), xop, xht, nI G, xac, xol, xnl, xbl, xrl, xpa, xok, xoh, xoi, xhf, xhs, xho, xhp, xhn, xhm, xtp, xap, xg0, xg1, xg2, xg3, xao, xan, xar, xlc) (nI g) := by
  obtain ⟨k1, k2, k3, k4, f, k5, k6⟩ := hI.1 g (Nat.le_refl g) hG
  obtain ⟨r0, r1, r2, r3⟩ := hR g (Nat.le_refl g) hG
  have hI1 := pd_I_pf hI (Nat.le_refl 0) hG
  have hs1 := pd_sm_s gp g
  obtain ⟨al, ah, bl, bh, eg⟩ : ∃ al ah bl bh, gp g = (al, ah, bl, bh) := ⟨_, _, _, _, rfl⟩
  rw [eg] at k1 k2 k3 k4 k5 k6 r0 r1 r2 r3 hI1 hs1
  dsimp only at k1 k2 k3 k4 k5 k6 r0 r1 r2 r3 hI1 hs1
  obtain ⟨f, rfl⟩ : ∃ f', f = f' + 1 := ⟨f - 1, by omega⟩
  have z : (nI g).toNatClampNeg = g := nI_clamp (by omega)
  have v : vp_in (nI g) 65 := vp_in_nI hg (by decide)
  have hp := pd_p_le (a := xol) (b := xnl) (al := al) (ah := ah) (bl := bl) (bh := bh)
  have hV1 : ∀ x, x < pd_p xol xnl al ah bl bh → V0 (al + x) = some (bl + x) := fun x hx => by
    rw [k6 (al + x) ⟨by dsimp only; omega, by dsimp only; omega⟩]
    exact pd_V_pre hx
  have hV2 : ∀ x, al + pd_p xol xnl al ah bl bh ≤ x → x < ah → V0 x = pd_vt xol xnl (pd_V xol xnl f) (al + pd_p xol xnl al ah bl bh) ah (bl + pd_p xol xnl al ah bl bh) bh x := fun x x1 x2 => by
    rw [k6 x ⟨by dsimp only; omega, x2⟩]
    exact pd_V_mid x1
  unfold wpX_refineGap
  dsimp only
  refine xa_prefix hg r0 r1 r2 r3 k1 k2 hn k3 (by omega) hV1 hI1 (fun M1 hM1 => ?_)
  dsimp only
  generalize eP : pd_p xol xnl al ah bl bh = P at *
  have hs := pd_s_le (a := xol) (b := xnl) (al := al + P) (ah := ah) (bl := bl + P) (bh := bh)
  refine xa_suffix (al := al + P) (ah := ah) (bl := bl + P) (bh := bh) hg (by rw [pk_us]) r1 (by rw [pk_us]) r3 (by omega) k2 hn (by omega) (by omega) (fun x hx => ?_) hM1 (fun M2 hM2 => ?_)
  · rw [hV2 _ (by omega) (by omega)]
    exact pd_vt_suf hx
  dsimp only
  generalize eS : pd_s xol xnl (al + P) ah (bl + P) bh = S at *
  have hV3 : ∀ x, al + P ≤ x → x < ah - S → V0 x = pd_vm xol xnl (pd_V xol xnl f) (al + P) (ah - S) (bl + P) (bh - S) x := fun x x1 x2 => by
    rw [hV2 x x1 (by omega), pd_vt_mid (by rw [eS]; exact x2), eS]
  generalize eAl : al + P = al' at *
  generalize eAh : ah - S = ah' at *
  generalize eBl : bl + P = bl' at *
  generalize eBh : bh - S = bh' at *
  have hR' : pd_rp (g + 1) G gp (upd xg0 g (nI al')) (upd xg1 g (nI ah')) (upd xg2 g (nI bl')) (upd xg3 g (nI bh')) := fun q q1 q2 => by
    rw [pk_un (by omega), pk_un (by omega), pk_un (by omega), pk_un (by omega)]
    exact hR q (by omega) q2
  have hmono := pd_sm_m (gp := gp) G (g + 1) (by omega)
  have hend : al' = ah' ∨ bl' = bh' → pd_I xol xnl n m V0 (g + 1) G gp 0 0 M2 := fun c => by
    refine pd_I_em (pd_I_sk (x0 := ah') hM2 (by omega) (fun x x1 x2 => ?_)) (Nat.le_refl _) (Nat.le_refl _)
    rw [hV3 x x1 x2]
    unfold pd_vm
    rw [if_pos c]
  have f0 : upd xg0 g (nI al') (nI g).toNatClampNeg = nI al' := by rw [z, pk_us]
  have f1 : upd xg1 g (nI ah') (nI g).toNatClampNeg = nI ah' := by rw [z, pk_us]
  have f2 : upd xg2 g (nI bl') (nI g).toNatClampNeg = nI bl' := by rw [z, pk_us]
  have f3 : upd xg3 g (nI bh') (nI g).toNatClampNeg = nI bh' := by rw [z, pk_us]
  refine And.intro v (And.intro v (pk_eq al' ah' (fun c => ?_) (fun c => And.intro v (And.intro v (pk_eq bl' bh' (fun c2 => ?_) (fun c2 => ?_) f2 f3))) f0 f1))
  · exact K G gp M2 _ _ _ _ _ _ _ _ _ (hend (Or.inl c)) hG (by omega) hR'
  · exact K G gp M2 _ _ _ _ _ _ _ _ _ (hend (Or.inr c2)) hG (by omega) hR'
  refine xa_find (al := al') (ah := ah') (bl := bl') (bh := bh') hg pk_us pk_us pk_us pk_us (by omega) (by omega) (by omega) (by omega) (fun AO AN hA => ?_)
  dsimp only
  have hAk := pd_an_k (a := xol) (b := xnl) (al := al') (ah := ah') (bl := bl') (bh := bh') (ah' - al')
  have hA2 : pd_an xol xnl al' ah' bl' bh' (ah' - al') = pd_A xol xnl al' ah' bl' bh' := rfl
  rw [hA2] at hAk
  refine pk_le (pd_A xol xnl al' ah' bl' bh').1 0 (fun c3 => ?_) (fun c3 => ?_)
  · have hz : (pd_A xol xnl al' ah' bl' bh').1 = 0 := by omega
    refine xa_fill (al := al') (ah := ah') (bl := bl') (bh := bh') hg pk_us pk_us pk_us pk_us (by omega) (by omega) (by omega) (by omega) (fun T hT => ?_)
    dsimp only
    refine xa_walk (al := al') (ah := ah') (bl := bl') (bh := bh') (lo := g + 1) (hi := G) (gp := gp) hg pk_us pk_us pk_us pk_us (by omega) (by omega) hn (by omega) (by omega) hT (fun x x1 x2 => ?_) hM2 (fun M hM => ?_)
    · rw [hV3 x x1 x2]
      unfold pd_vm
      rw [if_neg (by omega), if_pos hz]
    · exact K G gp M _ _ _ _ _ _ _ _ _ (pd_I_em hM (Nat.le_refl _) (Nat.le_refl _)) hG (by omega) hR'
  · have hz : (pd_A xol xnl al' ah' bl' bh').1 ≠ 0 := by omega
    have hcv : pd_cv xol xnl n m V0 al' ah' bl' bh' := pd_vm_cv hz (by omega) (by omega) (by omega) (by omega) (by omega) (by omega) hV3
    unfold wpX_matchChain
    dsimp only
    refine xa_rank (s := pd_A xol xnl al' ah' bl' bh') (by omega) (fun q hq => by have := (hAk.2.1 q hq).2.2.2.1; omega) hA (fun AR hAR => ?_)
    dsimp only
    refine And.intro v (nm_r f1 (And.intro v (nm_r f3 (nm_e ⟨_, xa_chain28 (n := n) (m := m) (V0 := V0) (B := 65) hg (by omega) (by omega) hn (by omega) (by omega) hz hcv hA hAR (Nat.le_refl _) (fun G' gp' M G0 G1 G2 G3 q1 q2 _ q3 q4 => ?_) (pd_A xol xnl al' ah' bl' bh').1 0 G gp M2 _ _ _ _ (pd_X_0 _) hM2 hG ?_ hR' pk_us pk_us⟩))))
    · exact K G' gp' M _ _ _ _ _ _ _ _ _ q1 q2 q3 q4
    · show G + 2 * pd_sm gp G + 2 * (ah' - al') + 0 ≤ 65 + 2 * pd_sm gp (g + 1)
      omega
end XRE
end
section
/-! X: matchLines, the script -/
section XML
variable {xcp xcx xoc xnc xbc xrc xhd xhr xpc xop xht xgc xac : Int32} {xol xnl xbl xrl xpa xok xoh xoi xhf xhs xho xhp xhn xhm xtp xap xg0 xg1 xg2 xg3 xao xan xar xlc : Nat → Int32}
variable {post : St2 → Prop} {n m : Nat} {V0 : Nat → Option Nat}
theorem xa_ml49 (hn : n ≤ 32) (hm : m ≤ 32)
    (K : ∀ M G0 G1 G2 G3 AO AN AR T ac gc, (∀ x, x < n → M x = pd_e (V0 x)) → post (xcp, xcx, xoc, xnc, xbc, xrc, xhd, xhr, nI (pd_cm M n), xop, xht, gc, ac, xol, xnl, xbl, xrl, M, xok, xoh, xoi, xhf, xhs, xho, xhp, xhn, xhm, xtp, xap, G0, G1, G2, G3, AO, AN, AR, T)) :
    ∀ k g G gp M G0 G1 G2 G3 AO AN AR T ac, g + k = 65 → g ≤ G → pd_I xol xnl n m V0 g G gp 0 0 M → G + 2 * pd_sm gp G ≤ 65 + 2 * pd_sm gp g → pd_rp g G gp G0 G1 G2 G3 →
    wX_matchLines_49 post (k + 1) (nI g) xcp xcx xoc xnc xbc xrc xhd xhr (nI (pd_cm M n)) xop xht (nI G) ac xol xnl xbl xrl M xok xoh xoi xhf xhs xho xhp xhn xhm xtp xap G0 G1 G2 G3 AO AN AR T := by
  intro k
  induction k with
  | zero =>
    intro g G gp M G0 G1 G2 G3 AO AN AR T ac hk hG hI hS hR
    have hm := pd_sm_m (gp := gp) G g hG
    exact pk_le 65 g (fun c => K M _ _ _ _ _ _ _ _ _ _ (fun x hx => pd_I_fin hI (Nat.le_refl 0) (by omega) hx)) (fun c => absurd c (by omega))
  | succ k ih =>
    intro g G gp M G0 G1 G2 G3 AO AN AR T ac hk hG hI hS hR
    have hm := pd_sm_m (gp := gp) G g hG
    refine pk_le 65 g (fun c => absurd c (by omega)) (fun c => pk_le G g (fun c2 => K M _ _ _ _ _ _ _ _ _ _ (fun x hx => pd_I_fin hI (Nat.le_refl 0) (by omega) hx)) (fun c2 => ?_))
    refine xa_refine (n := n) (m := m) (V0 := V0) (gp := gp) c c2 hn (by omega) hI hR hS (fun G' gp' M' G0' G1' G2' G3' AO' AN' AR' T' ac' q1 q2 q3 q4 => ?_)
    dsimp only
    exact nm_r (nI_1 g) (ih (g + 1) G' gp' M' _ _ _ _ _ _ _ _ _ (by omega) q2 q1 q3 q4)
theorem pd_cm_0 {M : Nat → Int32} : ∀ k, (∀ x, x < k → M x = -1) → pd_cm M k = 0 := by
  intro k
  induction k with
  | zero => intro _; rfl
  | succ k ih =>
    intro h
    rw [pd_cm_s, ih (fun x hx => h x (by omega)), if_pos (h k (by omega))]
theorem xa_ml7 (hn : n ≤ 32) (hm : m ≤ 32) (hV : pd_gk xol xnl n m V0 (0, n, 0, m))
    (K : ∀ M G0 G1 G2 G3 AO AN AR T ac gc, (∀ x, x < n → M x = pd_e (V0 x)) → post (xcp, xcx, nI n, nI m, xbc, xrc, xhd, xhr, nI (pd_cm M n), xop, xht, gc, ac, xol, xnl, xbl, xrl, M, xok, xoh, xoi, xhf, xhs, xho, xhp, xhn, xhm, xtp, xap, G0, G1, G2, G3, AO, AN, AR, T)) :
    ∀ d i M, i + d = n → (∀ x, x < i → M x = -1) → wX_matchLines_7 post xcp xcx (nI n) (nI m) xbc xrc xhd xhr 0 xop xht xgc xac (d + 1) (nI i) xol xnl xbl xrl M xok xoh xoi xhf xhs xho xhp xhn xhm xtp xap xg0 xg1 xg2 xg3 xao xan xar xlc := by
  intro d
  induction d with
  | zero =>
    intro i M hi hM
    have ei : i = n := by omega
    subst ei
    refine br_t (nI_le (Nat.le_refl _) (by omega)) (xa_addGap (G := 0) (by decide) ?_)
    dsimp only
    have h0 : pd_cm M i = 0 := pd_cm_0 i hM
    have hR : pd_rp 0 1 (fun _ => (0, i, 0, m)) (upd xg0 0 0) (upd xg1 0 (nI i)) (upd xg2 0 0) (upd xg3 0 (nI m)) := fun q q1 q2 => by
      have eq : q = 0 := by omega
      subst eq
      rw [pk_us, pk_us, pk_us, pk_us]
      exact ⟨rfl, rfl, rfl, rfl⟩
    have := xa_ml49 (post := post) (xoc := nI i) (xnc := nI m) (n := i) (m := m) (V0 := V0) (xcp := xcp) (xcx := xcx) (xbc := xbc) (xrc := xrc) (xhd := xhd) (xhr := xhr) (xop := xop) (xht := xht) (xol := xol) (xnl := xnl) (xbl := xbl) (xrl := xrl) (xok := xok) (xoh := xoh) (xoi := xoi) (xhf := xhf) (xhs := xhs) (xho := xho) (xhp := xhp) (xhn := xhn) (xhm := xhm) (xtp := xtp) (xap := xap) hn hm K 65 0 1 (fun _ => (0, i, 0, m)) M (upd xg0 0 0) (upd xg1 0 (nI i)) (upd xg2 0 0) (upd xg3 0 (nI m)) xao xan xar xlc xac rfl (Nat.zero_le _) (pd_I_0 hM hV) (by
      show 1 + 2 * (0 + (i - 0)) ≤ 65 + 2 * 0
      omega) hR
    rw [h0] at this
    exact ⟨_, this⟩
  | succ d ih =>
    intro i M hi hM
    have z : (nI i).toNatClampNeg = i := nI_clamp (by omega)
    refine br_f (nI_ge (by omega) (by omega)) (And.intro (vp_in_nI (by omega) (by decide)) (nm_r (e' := upd M i (-1)) (by rw [z]) (nm_r (nI_1 i) (ih (i + 1) _ (by omega) (fun x hx => ?_)))))
    by_cases e : x = i
    · subst e; rw [pk_us]
    · rw [pk_un e]; exact hM x (by omega)
theorem xa_matchLines (hn : n ≤ 32) (hm : m ≤ 32) (hV : pd_gk xol xnl n m V0 (0, n, 0, m))
    (K : ∀ M G0 G1 G2 G3 AO AN AR T ac gc, (∀ x, x < n → M x = pd_e (V0 x)) → post (xcp, xcx, nI n, nI m, xbc, xrc, xhd, xhr, nI (pd_cm M n), xop, xht, gc, ac, xol, xnl, xbl, xrl, M, xok, xoh, xoi, xhf, xhs, xho, xhp, xhn, xhm, xtp, xap, G0, G1, G2, G3, AO, AN, AR, T)) : wpX_matchLines post (xcp, xcx, nI n, nI m, xbc, xrc, xhd, xhr, xpc, xop, xht, xgc, xac, xol, xnl, xbl, xrl, xpa, xok, xoh, xoi, xhf, xhs, xho, xhp, xhn, xhm, xtp, xap, xg0, xg1, xg2, xg3, xao, xan, xar, xlc) :=
  ⟨_, xa_ml7 hn hm hV K n 0 xpa (by omega) (fun x hx => absurd hx (Nat.not_lt_zero _))⟩
theorem xa_addOp {L : Nat} {p0 p1 : Int32} (h1 : L < 64) (k : post (xcp, xcx, xoc, xnc, xbc, xrc, xhd, xhr, xpc, nI (L + 1), xht, xgc, xac, xol, xnl, xbl, xrl, xpa, upd xok L p0, upd xoh L p1, xoi, xhf, xhs, xho, xhp, xhn, xhm, xtp, xap, xg0, xg1, xg2, xg3, xao, xan, xar, xlc)) : wpX_addOp post (xcp, xcx, xoc, xnc, xbc, xrc, xhd, xhr, xpc, nI L, xht, xgc, xac, xol, xnl, xbl, xrl, xpa, xok, xoh, xoi, xhf, xhs, xho, xhp, xhn, xhm, xtp, xap, xg0, xg1, xg2, xg3, xao, xan, xar, xlc) p0 p1 := by
  have z : (nI L).toNatClampNeg = L := nI_clamp (by omega)
  have v : vp_in (nI L) 64 := vp_in_nI h1 (by decide)
  exact And.intro v (nm_r (e' := upd xok L p0) (by rw [z]) (And.intro v (nm_r (e' := upd xoh L p1) (by rw [z]) (nm_r (nI_1 L) k))))
theorem xa_ins2 {i y : Nat} (hy : y ≤ 32) (hi : i ≤ 32) (hs : ∀ f j L K H, j < y → pd_sc xol xnl n m V0 (f + 1) i j L K H = pd_sc xol xnl n m V0 f i (j + 1) (L + 1) (upd K L 2) (upd H L (xnl j))) :
    ∀ d j L K H f, j + d = y → d ≤ f → L ≤ i + j → (∀ K' H', pd_sc xol xnl n m V0 (f - d) i y (L + d) K' H' = pd_sc xol xnl n m V0 f i j L K H → post (xcp, xcx, xoc, xnc, xbc, xrc, xhd, xhr, xpc, nI (L + d), xht, xgc, xac, xol, xnl, xbl, xrl, xpa, K', H', xoi, xhf, xhs, xho, xhp, xhn, xhm, xtp, xap, xg0, xg1, xg2, xg3, xao, xan, xar, xlc)) →
    wX_insertUpTo_2 post (nI y) (d + 1) (nI j) xcp xcx xoc xnc xbc xrc xhd xhr xpc (nI L) xht xgc xac xol xnl xbl xrl xpa K H xoi xhf xhs xho xhp xhn xhm xtp xap xg0 xg1 xg2 xg3 xao xan xar xlc := by
  intro d
  induction d with
  | zero =>
    intro j L K H f hj hf hL k
    have ej : j = y := by omega
    subst ej
    exact br_t (nI_le (Nat.le_refl _) (by omega)) (k K H rfl)
  | succ d ih =>
    intro j L K H f hj hf hL k
    obtain ⟨f, rfl⟩ : ∃ f', f = f' + 1 := ⟨f - 1, by omega⟩
    have z : (nI j).toNatClampNeg = j := nI_clamp (by omega)
    refine br_f (nI_ge (by omega) (by omega)) (And.intro (vp_in_nI (by omega) (by decide)) ?_)
    rw [z]
    refine xa_addOp (by omega) ?_
    dsimp only
    refine nm_r (nI_1 j) (ih (j + 1) (L + 1) _ _ f (by omega) (by omega) (by omega) (fun K' H' e => ?_))
    rw [show L + 1 + d = L + (d + 1) by omega] at e ⊢
    refine k K' H' ?_
    rw [hs f j L K H (by omega), show f + 1 - (d + 1) = f - d by omega]
    exact e
theorem xa_ins {i j y L f : Nat} (hy : y ≤ 32) (hi : i ≤ 32) (hs : ∀ f j L K H, j < y → pd_sc xol xnl n m V0 (f + 1) i j L K H = pd_sc xol xnl n m V0 f i (j + 1) (L + 1) (upd K L 2) (upd H L (xnl j))) (hj : j ≤ y) (hf : y - j ≤ f) (hL : L ≤ i + j)
    (k : ∀ K' H', pd_sc xol xnl n m V0 (f - (y - j)) i y (L + (y - j)) K' H' = pd_sc xol xnl n m V0 f i j L xok xoh → post (xcp, xcx, xoc, xnc, xbc, xrc, xhd, xhr, xpc, nI (L + (y - j)), xht, xgc, xac, xol, xnl, xbl, xrl, xpa, K', H', xoi, xhf, xhs, xho, xhp, xhn, xhm, xtp, xap, xg0, xg1, xg2, xg3, xao, xan, xar, xlc)) : wpX_insertUpTo post (xcp, xcx, xoc, xnc, xbc, xrc, xhd, xhr, xpc, nI L, xht, xgc, xac, xol, xnl, xbl, xrl, xpa, xok, xoh, xoi, xhf, xhs, xho, xhp, xhn, xhm, xtp, xap, xg0, xg1, xg2, xg3, xao, xan, xar, xlc) (nI j) (nI y) :=
  ⟨_, xa_ins2 hy hi hs (y - j) j L xok xoh f (by omega) hf hL k⟩
theorem xa_ws9 (hn : n ≤ 32) (hm : m ≤ 32) (hV : pd_ok xol xnl V0 0 n 0 m) (hM : ∀ x, x < n → xpa x = pd_e (V0 x)) :
    ∀ d i j L K H f, i + d = n → (n - i) + (m - j) ≤ f → j ≤ m → L ≤ i + j → (∀ x y, i ≤ x → x < n → V0 x = some y → j ≤ y) →
    (∀ L' K' H', pd_sc xol xnl n m V0 f i j L K H = (L', K', H') → post (xcp, xcx, nI n, nI m, xbc, xrc, xhd, xhr, xpc, nI L', xht, xgc, xac, xol, xnl, xbl, xrl, xpa, K', H', xoi, xhf, xhs, xho, xhp, xhn, xhm, xtp, xap, xg0, xg1, xg2, xg3, xao, xan, xar, xlc)) →
    wX_writeScript_9 post (d + 1) (nI j) (nI i) xcp xcx (nI n) (nI m) xbc xrc xhd xhr xpc (nI L) xht xgc xac xol xnl xbl xrl xpa K H xoi xhf xhs xho xhp xhn xhm xtp xap xg0 xg1 xg2 xg3 xao xan xar xlc := by
  intro d
  induction d with
  | zero =>
    intro i j L K H f hi hf hj hL ho k
    have ei : i = n := by omega
    subst ei
    refine br_t (nI_le (Nat.le_refl _) (by omega)) (xa_ins (n := i) (m := m) (V0 := V0) (i := i) (f := f) hm hn (fun f j L K H hjm => pd_sc_t (Nat.le_refl _) hjm) hj (by omega) hL (fun K' H' e => ?_))
    dsimp only
    refine k _ _ _ ?_
    rw [← e, pd_sc_0 (Nat.le_refl _) (Nat.le_refl _)]
  | succ d ih =>
    intro i j L K H f hi hf hj hL ho k
    have z : (nI i).toNatClampNeg = i := nI_clamp (by omega)
    have vi : vp_in (nI i) 32 := vp_in_nI (by omega) (by decide)
    have fM : xpa (nI i).toNatClampNeg = pd_e (V0 i) := by rw [z, hM i (by omega)]
    refine br_f (nI_ge (by omega) (by omega)) (And.intro vi ?_)
    rw [fM]
    cases hv : V0 i with
    | none =>
      obtain ⟨f, rfl⟩ : ∃ f', f = f' + 1 := ⟨f - 1, by omega⟩
      refine br_t rfl (And.intro vi ?_)
      rw [z]
      refine xa_addOp (by omega) ?_
      dsimp only
      refine nm_r (nI_1 i) (ih (i + 1) j (L + 1) _ _ f (by omega) (by omega) hj (by omega) (fun x y h1 h2 h3 => ho x y (by omega) h2 h3) (fun L' K' H' e => k L' K' H' ?_))
      rw [pd_sc_d (by omega) hv]
      exact e
    | some y =>
      have hy := ho i y (Nat.le_refl _) (by omega) hv
      have hy2 := hV.1 i y (by omega) (by omega) hv
      refine br_f (pd_ne1 (by omega)) (And.intro vi ?_)
      refine xa_ins (n := n) (m := m) (V0 := V0) (i := i) (f := f) (y := y) (by omega) (by omega) (fun f j L K H hjy => pd_sc_i (by omega) hv (by omega)) hy (by omega) hL (fun K' H' e => ?_)
      dsimp only
      refine And.intro vi ?_
      rw [z]
      refine xa_addOp (by omega) ?_
      dsimp only
      refine And.intro vi (nm_r (e' := nI (y + 1)) ?_ (nm_r (nI_1 i) (ih (i + 1) (y + 1) (L + (y - j) + 1) _ _ (f - (y - j) - 1) (by omega) (by omega) (by omega) (by omega) (fun x w h1 h2 h3 => ?_) (fun L' K'' H'' e2 => k L' K'' H'' ?_))))
      · rw [hM i (by omega), hv]
        exact nI_1 y
      · have := hV.2 i x y w (by omega) (by omega) h2 hv h3
        omega
      · rw [← e, show f - (y - j) = f - (y - j) - 1 + 1 by omega, pd_sc_k (by omega) hv]
        exact e2
theorem xa_writeScript (hn : n ≤ 32) (hm : m ≤ 32) (hV : pd_ok xol xnl V0 0 n 0 m) (hM : ∀ x, x < n → xpa x = pd_e (V0 x))
    (k : ∀ L' K' H', pd_sc xol xnl n m V0 (n + m) 0 0 0 xok xoh = (L', K', H') → post (xcp, xcx, nI n, nI m, xbc, xrc, xhd, xhr, xpc, nI L', xht, xgc, xac, xol, xnl, xbl, xrl, xpa, K', H', xoi, xhf, xhs, xho, xhp, xhn, xhm, xtp, xap, xg0, xg1, xg2, xg3, xao, xan, xar, xlc)) : wpX_writeScript post (xcp, xcx, nI n, nI m, xbc, xrc, xhd, xhr, xpc, xop, xht, xgc, xac, xol, xnl, xbl, xrl, xpa, xok, xoh, xoi, xhf, xhs, xho, xhp, xhn, xhm, xtp, xap, xg0, xg1, xg2, xg3, xao, xan, xar, xlc) :=
  ⟨_, xa_ws9 hn hm hV hM n 0 0 0 xok xoh (n + m) (by omega) (by omega) (by omega) (by omega) (fun x y _ _ _ => Nat.zero_le y) k⟩
end XML
end
section
/-! X: includeAfterChanges, includeBeforeChanges, cutHunks -/
section XIN
variable {xcp xcx xoc xnc xbc xrc xhd xhr xpc xop xht xgc xac : Int32} {xol xnl xbl xrl xpa xok xoh xoi xhf xhs xho xhp xhn xhm xtp xap xg0 xg1 xg2 xg3 xao xan xar xlc : Nat → Int32}
variable {post : St2 → Prop} {C L : Nat}
theorem xa_ia4 (hC : C ≤ 3) (hL : L ≤ 64)
    (k : ∀ I, (∀ q, q < L → pd_tf (I q) (¬ xok q = 0 ∨ pd_bf xok C q)) → (∀ q, L ≤ q → I q = xoi q) → post (xcp, nI C, xoc, xnc, xbc, xrc, xhd, xhr, xpc, nI L, xht, xgc, xac, xol, xnl, xbl, xrl, xpa, xok, xoh, I, xhf, xhs, xho, xhp, xhn, xhm, xtp, xap, xg0, xg1, xg2, xg3, xao, xan, xar, xlc)) :
    ∀ d p c e I, p + d = L → pd_kb xok C p c e → (∀ q, q < p → pd_tf (I q) (¬ xok q = 0 ∨ pd_bf xok C q)) → (∀ q, L ≤ q → I q = xoi q) →
    wX_includeAfterChanges_4 post xcp (nI C) xoc xnc xbc xrc xhd xhr xpc (nI L) xht xgc xac (d + 1) (nI c - nI e) (nI p) xol xnl xbl xrl xpa xok xoh I xhf xhs xho xhp xhn xhm xtp xap xg0 xg1 xg2 xg3 xao xan xar xlc := by
  intro d
  induction d with
  | zero =>
    intro p c e I hp hk hI hI2
    have ep : p = L := by omega
    subst ep
    exact br_t (nI_le (Nat.le_refl _) (by omega)) (k I hI hI2)
  | succ d ih =>
    intro p c e I hp hk hI hI2
    have z : (nI p).toNatClampNeg = p := nI_clamp (by omega)
    have v : vp_in (nI p) 64 := vp_in_nI (by omega) (by decide)
    have hb := pd_kb_b hk
    have hf := pd_kb_f hk
    have hd := pd_dle (c := c) (e := e) (by omega) (by omega)
    have up : ∀ x, pd_tf x (¬ xok p = 0 ∨ pd_bf xok C p) → ∀ q, q < p + 1 → pd_tf (upd I p x q) (¬ xok q = 0 ∨ pd_bf xok C q) := fun x hx q hq => by
      by_cases c1 : q = p
      · subst c1; rw [pk_us]; exact hx
      · rw [pk_un c1]; exact hI q (by omega)
    have up2 : ∀ x, ∀ q, L ≤ q → upd I p x q = xoi q := fun x q hq => by
      rw [pk_un (by omega)]; exact hI2 q hq
    refine br_f (nI_ge (by omega) (by omega)) (And.intro v (br_c (fun c1 => ?_) (fun c1 => ?_)))
    · rw [z] at c1
      refine br_c (fun c2 => ?_) (fun c2 => ?_)
      · have c3 : ¬ e < c := by have := hd.mp c2; omega
        refine And.intro v (nm_r (e' := upd I p 0) (by rw [z]) (nm_r (pd_dm1 c e) (nm_r (nI_1 p) (ih (p + 1) c (e + 1) _ (by omega) (pd_kb_s hk c1) (up 0 ⟨fun w => ?_, fun _ => rfl⟩) (up2 0)))))
        rcases w with w | w
        · exact absurd c1 w
        · exact absurd (hf.mpr w) c3
      · have c3 : e < c := by
          have : ¬ c ≤ e := fun w => c2 (hd.mpr w)
          omega
        exact And.intro v (nm_r (e' := upd I p 1) (by rw [z]) (nm_r (pd_dm1 c e) (nm_r (nI_1 p) (ih (p + 1) c (e + 1) _ (by omega) (pd_kb_s hk c1) (up 1 ⟨fun _ => rfl, fun w => absurd (Or.inr (hf.mp c3)) w⟩) (up2 1)))))
    · rw [z] at c1
      have := ih (p + 1) C 0 (upd I p 1) (by omega) (pd_kb_c c1) (up 1 ⟨fun _ => rfl, fun w => absurd (Or.inl c1) w⟩) (up2 1)
      rw [pd_d0] at this
      exact And.intro v (nm_r (e' := upd I p 1) (by rw [z]) (nm_r (nI_1 p) this))
theorem xa_incA (hC : C ≤ 3) (hL : L ≤ 64)
    (k : ∀ I, (∀ q, q < L → pd_tf (I q) (¬ xok q = 0 ∨ pd_bf xok C q)) → (∀ q, L ≤ q → I q = xoi q) → post (xcp, nI C, xoc, xnc, xbc, xrc, xhd, xhr, xpc, nI L, xht, xgc, xac, xol, xnl, xbl, xrl, xpa, xok, xoh, I, xhf, xhs, xho, xhp, xhn, xhm, xtp, xap, xg0, xg1, xg2, xg3, xao, xan, xar, xlc)) : wpX_includeAfterChanges post (xcp, nI C, xoc, xnc, xbc, xrc, xhd, xhr, xpc, nI L, xht, xgc, xac, xol, xnl, xbl, xrl, xpa, xok, xoh, xoi, xhf, xhs, xho, xhp, xhn, xhm, xtp, xap, xg0, xg1, xg2, xg3, xao, xan, xar, xlc) := by
  have := xa_ia4 hC hL k L 0 0 0 xoi (by omega) pd_kb_0 (fun q hq => absurd hq (Nat.not_lt_zero _)) (fun q _ => rfl)
  rw [pd_d0] at this
  exact ⟨_, this⟩
theorem xa_ib9 {I0 : Nat → Int32} (hC : C ≤ 3) (hL : L ≤ 64)
    (k : ∀ I, (∀ q, q < L → pd_tf (I q) (pd_nc xok C L q)) → (∀ q, L ≤ q → I q = I0 q) → post (xcp, nI C, xoc, xnc, xbc, xrc, xhd, xhr, xpc, nI L, xht, xgc, xac, xol, xnl, xbl, xrl, xpa, xok, xoh, I, xhf, xhs, xho, xhp, xhn, xhm, xtp, xap, xg0, xg1, xg2, xg3, xao, xan, xar, xlc)) :
    ∀ r c e I, r ≤ L → pd_ka xok C L r c e → (∀ q, q < r → pd_tf (I q) (¬ xok q = 0 ∨ pd_bf xok C q)) → (∀ q, r ≤ q → q < L → pd_tf (I q) (pd_nc xok C L q)) → (∀ q, L ≤ q → I q = I0 q) →
    wX_includeBeforeChanges_9 post xcp (nI C) xoc xnc xbc xrc xhd xhr xpc (nI L) xht xgc xac (r + 1) (nI c - nI e) (nI r - 1) xol xnl xbl xrl xpa xok xoh I xhf xhs xho xhp xhn xhm xtp xap xg0 xg1 xg2 xg3 xao xan xar xlc := by
  intro r
  induction r with
  | zero =>
    intro c e I hr hk h1 h2 h3
    exact br_t (by decide) (k I (fun q hq => h2 q (Nat.zero_le _) hq) h3)
  | succ r ih =>
    intro c e I hr hk h1 h2 h3
    have z : (nI r).toNatClampNeg = r := nI_clamp (by omega)
    have v : vp_in (nI r) 64 := vp_in_nI (by omega) (by decide)
    have hb := pd_ka_b hk
    have hf := pd_ka_f hk
    have hd := pd_dle (c := c) (e := e) (by omega) (by omega)
    rw [nI_pred]
    refine br_f (nI_pos (by omega)) (And.intro v (br_c (fun c1 => ?_) (fun c1 => ?_)))
    · rw [z] at c1
      refine br_c (fun c2 => ?_) (fun c2 => ?_)
      · have c3 : ¬ e < c := by have := hd.mp c2; omega
        refine nm_r (pd_dm1 c e) (nm_r (pd_sub1 _) (ih c (e + 1) I (by omega) (pd_ka_s hk (by omega) c1) (fun q hq => h1 q (by omega)) (fun q q1 q2 => ?_) h3))
        by_cases cq : q = r
        · subst cq
          refine pd_tf_c (h1 q (by omega)) ⟨fun w => ?_, fun w => ?_⟩
          · rcases w with w | w
            · exact Or.inl w
            · exact Or.inr (Or.inl w)
          · rcases w with w | w | w
            · exact Or.inl w
            · exact Or.inr w
            · exact absurd (hf.mpr w) c3
        · exact h2 q (by omega) q2
      · have c3 : e < c := by
          have : ¬ c ≤ e := fun w => c2 (hd.mpr w)
          omega
        refine And.intro v (nm_r (e' := upd I r 1) (by rw [z]) (nm_r (pd_dm1 c e) (nm_r (pd_sub1 _) (ih c (e + 1) _ (by omega) (pd_ka_s hk (by omega) c1) (fun q hq => ?_) (fun q q1 q2 => ?_) (fun q hq => ?_)))))
        · rw [pk_un (by omega)]; exact h1 q (by omega)
        · by_cases cq : q = r
          · subst cq
            rw [pk_us]
            exact ⟨fun _ => rfl, fun w => absurd (Or.inr (Or.inr (hf.mp c3))) w⟩
          · rw [pk_un cq]; exact h2 q (by omega) q2
        · rw [pk_un (by omega)]; exact h3 q hq
    · rw [z] at c1
      have := ih C 0 I (by omega) (pd_ka_c (by omega) c1) (fun q hq => h1 q (by omega)) (fun q q1 q2 => by
        by_cases cq : q = r
        · subst cq
          exact ⟨fun _ => (h1 q (by omega)).1 (Or.inl c1), fun w => absurd (Or.inl c1) w⟩
        · exact h2 q (by omega) q2) h3
      rw [pd_d0] at this
      exact nm_r (pd_sub1 _) this
theorem xa_incB (hC : C ≤ 3) (hL : L ≤ 64) (h1 : ∀ q, q < L → pd_tf (xoi q) (¬ xok q = 0 ∨ pd_bf xok C q))
    (k : ∀ I, (∀ q, q < L → pd_tf (I q) (pd_nc xok C L q)) → (∀ q, L ≤ q → I q = xoi q) → post (xcp, nI C, xoc, xnc, xbc, xrc, xhd, xhr, xpc, nI L, xht, xgc, xac, xol, xnl, xbl, xrl, xpa, xok, xoh, I, xhf, xhs, xho, xhp, xhn, xhm, xtp, xap, xg0, xg1, xg2, xg3, xao, xan, xar, xlc)) : wpX_includeBeforeChanges post (xcp, nI C, xoc, xnc, xbc, xrc, xhd, xhr, xpc, nI L, xht, xgc, xac, xol, xnl, xbl, xrl, xpa, xok, xoh, xoi, xhf, xhs, xho, xhp, xhn, xhm, xtp, xap, xg0, xg1, xg2, xg3, xao, xan, xar, xlc) := by
  have := xa_ib9 (I0 := xoi) hC hL k L 0 0 xoi (Nat.le_refl _) pd_ka_0 h1 (fun q q1 q2 => by omega) (fun q _ => rfl)
  rw [pd_d0] at this
  exact nm_e ⟨_, this⟩
/-- the last hunk grows by one op -/
theorem xa_grow {H : Nat} {p0 p1 : Int32} (hH : H < 64) (k : post (xcp, xcx, xoc, xnc, xbc, xrc, xhd, xhr, xpc, xop, nI (H + 1), xgc, xac, xol, xnl, xbl, xrl, xpa, xok, xoh, xoi, xhf, upd xhs H (xhs H + 1), xho, upd xhp H (xhp H + p0), xhn, upd xhm H (xhm H + p1), xtp, xap, xg0, xg1, xg2, xg3, xao, xan, xar, xlc)) : wpX_growLastHunk post (xcp, xcx, xoc, xnc, xbc, xrc, xhd, xhr, xpc, xop, nI (H + 1), xgc, xac, xol, xnl, xbl, xrl, xpa, xok, xoh, xoi, xhf, xhs, xho, xhp, xhn, xhm, xtp, xap, xg0, xg1, xg2, xg3, xao, xan, xar, xlc) p0 p1 := by
  have z : (nI H).toNatClampNeg = H := nI_clamp (by omega)
  have v : vp_in (nI H) 64 := vp_in_nI hH (by decide)
  exact nm_r (nI_pred H) (And.intro v (And.intro v (nm_r (e' := upd xhs H (xhs H + 1)) (by rw [z]) (And.intro v (And.intro v (nm_r (e' := upd xhp H (xhp H + p0)) (by rw [z]) (And.intro v (And.intro v (nm_r (e' := upd xhm H (xhm H + p1)) (by rw [z]) k)))))))))
theorem xa_open {H : Nat} {p0 p1 p2 : Int32} (hH : H < 64) (k : post (xcp, xcx, xoc, xnc, xbc, xrc, xhd, xhr, xpc, xop, nI (H + 1), xgc, xac, xol, xnl, xbl, xrl, xpa, xok, xoh, xoi, upd xhf H p0, upd xhs H 0, upd xho H p1, upd xhp H 0, upd xhn H p2, upd xhm H 0, xtp, xap, xg0, xg1, xg2, xg3, xao, xan, xar, xlc)) : wpX_openHunk post (xcp, xcx, xoc, xnc, xbc, xrc, xhd, xhr, xpc, xop, nI H, xgc, xac, xol, xnl, xbl, xrl, xpa, xok, xoh, xoi, xhf, xhs, xho, xhp, xhn, xhm, xtp, xap, xg0, xg1, xg2, xg3, xao, xan, xar, xlc) p0 p1 p2 := by
  have z : (nI H).toNatClampNeg = H := nI_clamp (by omega)
  have v : vp_in (nI H) 64 := vp_in_nI hH (by decide)
  exact And.intro v (nm_r (e' := upd xhf H p0) (by rw [z]) (And.intro v (nm_r (e' := upd xhs H 0) (by rw [z]) (And.intro v (nm_r (e' := upd xho H p1) (by rw [z]) (And.intro v (nm_r (e' := upd xhp H 0) (by rw [z]) (And.intro v (nm_r (e' := upd xhn H p2) (by rw [z]) (And.intro v (nm_r (e' := upd xhm H 0) (by rw [z]) (nm_r (nI_1 H) k))))))))))))
/-- one op of cutHunks, its steps known -/
theorem xa_cut57 {J14 : Int32 → Int32 → Int32 → Int32 → Int32 → Int32 → Int32 → Int32 → Int32 → Int32 → Int32 → Int32 → Int32 → Int32 → Int32 → Int32 → Int32 → (Nat → Int32) → (Nat → Int32) → (Nat → Int32) → (Nat → Int32) → (Nat → Int32) → (Nat → Int32) → (Nat → Int32) → (Nat → Int32) → (Nat → Int32) → (Nat → Int32) → (Nat → Int32) → (Nat → Int32) → (Nat → Int32) → (Nat → Int32) → (Nat → Int32) → (Nat → Int32) → (Nat → Int32) → (Nat → Int32) → (Nat → Int32) → (Nat → Int32) → (Nat → Int32) → (Nat → Int32) → (Nat → Int32) → (Nat → Int32) → Prop} {p o w : Nat} {x3 : Int32} (hp : p < L) (hL : L ≤ 64) (ho : o = pd_cs 2 xok (p + 1) - pd_cs 2 xok p) (hw : w = pd_cs 1 xok (p + 1) - pd_cs 1 xok p)
    (h3 : p = 0 ∧ x3 = 0 ∨ 0 < p ∧ x3 = xoi (p - 1)) (hI : pd_hI xok xoi p xhf xhs xho xhp xhn xhm)
    (k : ∀ F S O P B Q, pd_hI xok xoi (p + 1) F S O P B Q → J14 (nI (pd_cs 2 xok (p + 1))) (nI (pd_cs 1 xok (p + 1))) (xoi p) (nI (p + 1)) xcp xcx xoc xnc xbc xrc xhd xhr xpc xop (nI (pd_hc xoi (p + 1))) xgc xac xol xnl xbl xrl xpa xok xoh xoi F S O P B Q xtp xap xg0 xg1 xg2 xg3 xao xan xar xlc) :
    wX_cutHunks_57 post J14 (nI (pd_cs 2 xok p)) (nI (pd_cs 1 xok p)) x3 (nI p) (nI o) (nI w) xcp xcx xoc xnc xbc xrc xhd xhr xpc xop (nI (pd_hc xoi p)) xgc xac xol xnl xbl xrl xpa xok xoh xoi xhf xhs xho xhp xhn xhm xtp xap xg0 xg1 xg2 xg3 xao xan xar xlc := by
  have z : (nI p).toNatClampNeg = p := nI_clamp (by omega)
  have v : vp_in (nI p) 64 := vp_in_nI (by omega) (by decide)
  have hc := pd_hc_le (N := xoi) p
  have m1 := pd_cs_m (s := 2) (K := xok) (p + 1) p (by omega)
  have m2 := pd_cs_m (s := 1) (K := xok) (p + 1) p (by omega)
  have a1 : nI (pd_cs 2 xok p) + nI o = nI (pd_cs 2 xok (p + 1)) := by rw [nI_add]; exact congrArg nI (by omega)
  have a2 : nI (pd_cs 1 xok p) + nI w = nI (pd_cs 1 xok (p + 1)) := by rw [nI_add]; exact congrArg nI (by omega)
  refine And.intro v (br_c (fun c1 => ?_) (fun c1 => ?_))
  · rw [z] at c1
    obtain ⟨q1, q2⟩ := pd_hI_n hI c1
    have K := k _ _ _ _ _ _ q2
    rw [q1] at K
    exact And.intro v (nm_r (by rw [z]) (nm_r a1 (nm_r a2 (nm_r (nI_1 p) K))))
  · rw [z] at c1
    refine br_c (fun c2 => ?_) (fun c2 => ?_)
    · have hst : pd_st xoi p := by
        refine ⟨c1, ?_⟩
        rcases h3 with h3 | h3
        · exact Or.inl h3.1
        · exact Or.inr (by rw [← h3.2]; exact c2)
      refine xa_open (by omega) ?_
      dsimp only
      refine xa_grow (by omega) ?_
      dsimp only
      obtain ⟨q1, q2⟩ := pd_hI_o (K := xok) (N := xoi) (p := p) (F' := upd xhf (pd_hc xoi p) (nI p)) (S' := upd (upd xhs (pd_hc xoi p) 0) (pd_hc xoi p) (upd xhs (pd_hc xoi p) 0 (pd_hc xoi p) + 1)) (O' := upd xho (pd_hc xoi p) (nI (pd_cs 2 xok p))) (P' := upd (upd xhp (pd_hc xoi p) 0) (pd_hc xoi p) (upd xhp (pd_hc xoi p) 0 (pd_hc xoi p) + nI o)) (B' := upd xhn (pd_hc xoi p) (nI (pd_cs 1 xok p))) (Q' := upd (upd xhm (pd_hc xoi p) 0) (pd_hc xoi p) (upd xhm (pd_hc xoi p) 0 (pd_hc xoi p) + nI w)) hI hst (fun x hx => by
        rw [pk_un hx, pk_un hx, pk_un hx, pk_un hx, pk_un hx, pk_un hx, pk_un hx, pk_un hx, pk_un hx]
        exact ⟨rfl, rfl, rfl, rfl, rfl, rfl⟩) (by
        rw [pk_us, pk_us, pk_us, pk_us, pk_us, pk_us, pk_us, pk_us, pk_us, Int32.zero_add, Int32.zero_add, Int32.zero_add, ho, hw]
        exact ⟨rfl, rfl, rfl, rfl, rfl, rfl⟩)
      have K := k _ _ _ _ _ _ q2
      rw [q1] at K
      exact And.intro v (nm_r (by rw [z]) (nm_r a1 (nm_r a2 (nm_r (nI_1 p) K))))
    · have hp0 : 0 < p ∧ x3 = xoi (p - 1) := by
        rcases h3 with h3 | h3
        · exact absurd h3.2 c2
        · exact h3
      rw [hp0.2] at c2
      obtain ⟨H, s, e1, e2⟩ := hI.2 hp0.1 c2
      rw [e1]
      refine xa_grow (by omega) ?_
      dsimp only
      obtain ⟨q1, q2⟩ := pd_hI_g (K := xok) (N := xoi) (p := p) (H := H) (S' := upd xhs H (xhs H + 1)) (P' := upd xhp H (xhp H + nI o)) (Q' := upd xhm H (xhm H + nI w)) hI c1 hp0.1 c2 e1 (fun x hx => by
        rw [pk_un hx, pk_un hx, pk_un hx]
        exact ⟨rfl, rfl, rfl⟩) (by
        rw [pk_us, pk_us, pk_us, ho, hw]
        exact ⟨rfl, rfl, rfl⟩)
      have K := k _ _ _ _ _ _ q2
      rw [q1, e1] at K
      exact And.intro v (nm_r (by rw [z]) (nm_r a1 (nm_r a2 (nm_r (nI_1 p) K))))
theorem xa_cut14 (hL : L ≤ 64)
    (k : ∀ F S O P B Q, pd_hI xok xoi L F S O P B Q → post (xcp, xcx, xoc, xnc, xbc, xrc, xhd, xhr, xpc, nI L, nI (pd_hc xoi L), xgc, xac, xol, xnl, xbl, xrl, xpa, xok, xoh, xoi, F, S, O, P, B, Q, xtp, xap, xg0, xg1, xg2, xg3, xao, xan, xar, xlc)) :
    ∀ d p x3 F S O P B Q, p + d = L → (p = 0 ∧ x3 = 0 ∨ 0 < p ∧ x3 = xoi (p - 1)) → pd_hI xok xoi p F S O P B Q →
    wX_cutHunks_14 post (d + 1) (nI (pd_cs 2 xok p)) (nI (pd_cs 1 xok p)) x3 (nI p) xcp xcx xoc xnc xbc xrc xhd xhr xpc (nI L) (nI (pd_hc xoi p)) xgc xac xol xnl xbl xrl xpa xok xoh xoi F S O P B Q xtp xap xg0 xg1 xg2 xg3 xao xan xar xlc := by
  intro d
  induction d with
  | zero =>
    intro p x3 F S O P B Q hp h3 hI
    have ep : p = L := by omega
    subst ep
    exact br_t (nI_le (Nat.le_refl _) (by omega)) (k F S O P B Q hI)
  | succ d ih =>
    intro p x3 F S O P B Q hp h3 hI
    have z : (nI p).toNatClampNeg = p := nI_clamp (by omega)
    have v : vp_in (nI p) 64 := vp_in_nI (by omega) (by decide)
    have kk : ∀ F S O P B Q, pd_hI xok xoi (p + 1) F S O P B Q → wX_cutHunks_14 post (d + 1) (nI (pd_cs 2 xok (p + 1))) (nI (pd_cs 1 xok (p + 1))) (xoi p) (nI (p + 1)) xcp xcx xoc xnc xbc xrc xhd xhr xpc (nI L) (nI (pd_hc xoi (p + 1))) xgc xac xol xnl xbl xrl xpa xok xoh xoi F S O P B Q xtp xap xg0 xg1 xg2 xg3 xao xan xar xlc := fun F S O P B Q h => ih (p + 1) (xoi p) F S O P B Q (by omega) (Or.inr ⟨by omega, rfl⟩) h
    have g : ∀ o w, o = pd_cs 2 xok (p + 1) - pd_cs 2 xok p → w = pd_cs 1 xok (p + 1) - pd_cs 1 xok p → wX_cutHunks_57 post (wX_cutHunks_14 post (d + 1)) (nI (pd_cs 2 xok p)) (nI (pd_cs 1 xok p)) x3 (nI p) (nI o) (nI w) xcp xcx xoc xnc xbc xrc xhd xhr xpc (nI L) (nI (pd_hc xoi p)) xgc xac xol xnl xbl xrl xpa xok xoh xoi F S O P B Q xtp xap xg0 xg1 xg2 xg3 xao xan xar xlc := fun o w ho hw => xa_cut57 (L := L) (by omega) hL ho hw h3 hI kk
    have s2 := pd_cs_s 2 xok p
    have s1 := pd_cs_s 1 xok p
    refine br_f (nI_ge (by omega) (by omega)) (And.intro v (br_c (fun c1 => And.intro v (br_c (fun c2 => ?_) (fun c2 => ?_))) (fun c1 => And.intro v (br_c (fun c2 => ?_) (fun c2 => ?_)))))
    · rw [z] at c1 c2
      rw [if_pos c1] at s2
      rw [if_pos c2] at s1
      exact g 0 0 (by omega) (by omega)
    · rw [z] at c1 c2
      rw [if_pos c1] at s2
      rw [if_neg c2] at s1
      exact g 0 1 (by omega) (by omega)
    · rw [z] at c1 c2
      rw [if_neg c1] at s2
      rw [if_pos c2] at s1
      exact g 1 0 (by omega) (by omega)
    · rw [z] at c1 c2
      rw [if_neg c1] at s2
      rw [if_neg c2] at s1
      exact g 1 1 (by omega) (by omega)
theorem xa_cut (hL : L ≤ 64)
    (k : ∀ F S O P B Q, pd_hI xok xoi L F S O P B Q → post (xcp, xcx, xoc, xnc, xbc, xrc, xhd, xhr, xpc, nI L, nI (pd_hc xoi L), xgc, xac, xol, xnl, xbl, xrl, xpa, xok, xoh, xoi, F, S, O, P, B, Q, xtp, xap, xg0, xg1, xg2, xg3, xao, xan, xar, xlc)) : wpX_cutHunks post (xcp, xcx, xoc, xnc, xbc, xrc, xhd, xhr, xpc, nI L, xht, xgc, xac, xol, xnl, xbl, xrl, xpa, xok, xoh, xoi, xhf, xhs, xho, xhp, xhn, xhm, xtp, xap, xg0, xg1, xg2, xg3, xao, xan, xar, xlc) :=
  ⟨_, xa_cut14 hL k L 0 0 xhf xhs xho xhp xhn xhm (by omega) (Or.inl ⟨rfl, rfl⟩) pd_hI_0⟩
end XIN
end
section
/-! X: diff whole -/
section XDI
variable {xcp xcx xoc xnc xbc xrc xhd xhr xpc xop xht xgc xac : Int32} {xol xnl xbl xrl xpa xok xoh xoi xhf xhs xho xhp xhn xhm xtp xap xg0 xg1 xg2 xg3 xao xan xar xlc : Nat → Int32}
variable {n m C : Nat}
/-- V0 for A's first n and B's first m lines -/
def pd_V0 (a b : Nat → Int32) (n m : Nat) : Nat → Option Nat := pd_V a b (n + 1) 0 n 0 m
theorem pd_V0_gk {a b : Nat → Int32} : pd_gk a b n m (pd_V0 a b n m) (0, n, 0, m) := ⟨Nat.zero_le _, Nat.le_refl _, Nat.zero_le _, Nat.le_refl _, n + 1, by dsimp only; omega, fun x _ => rfl⟩
theorem pd_V0_ok {a b : Nat → Int32} : pd_ok a b (pd_V0 a b n m) 0 n 0 m := pd_V_ok (n + 1) 0 n 0 m (Nat.zero_le _) (Nat.zero_le _)
def pd_S (a b : Nat → Int32) (n m : Nat) (K H : Nat → Int32) : Nat × (Nat → Int32) × (Nat → Int32) := pd_sc a b n m (pd_V0 a b n m) (n + m) 0 0 0 K H
theorem pd_S_ok {a b K H : Nat → Int32} : pd_SK a b (pd_S a b n m K H).2.1 (pd_S a b n m K H).2.2 (pd_S a b n m K H).1 n m :=
  pd_sc_ok pd_V0_ok (n + m) 0 0 0 K H (by omega) (Nat.zero_le _) (Nat.zero_le _) (fun x y _ _ _ => Nat.zero_le y) pd_SK_0
theorem xa_diff {post : Int32 → St2 → Prop} (hn : n ≤ 32) (hm : m ≤ 32) (hC : C ≤ 3)
    (k : ∀ M I F S O P B Q G0 G1 G2 G3 AO AN AR T ac gc, (∀ x, x < n → M x = pd_e (pd_V0 xol xnl n m x)) →
      (∀ q, q < (pd_S xol xnl n m xok xoh).1 → pd_tf (I q) (pd_nc (pd_S xol xnl n m xok xoh).2.1 C (pd_S xol xnl n m xok xoh).1 q)) → (∀ q, (pd_S xol xnl n m xok xoh).1 ≤ q → I q = xoi q) →
      pd_hI (pd_S xol xnl n m xok xoh).2.1 I (pd_S xol xnl n m xok xoh).1 F S O P B Q →
      post (nI (pd_cm M n)) (xcp, nI C, nI n, nI m, xbc, xrc, 1, 0, nI (pd_cm M n), nI (pd_S xol xnl n m xok xoh).1, nI (pd_hc I (pd_S xol xnl n m xok xoh).1), gc, ac, xol, xnl, xbl, xrl, M, (pd_S xol xnl n m xok xoh).2.1, (pd_S xol xnl n m xok xoh).2.2, I, F, S, O, P, B, Q, xtp, xap, G0, G1, G2, G3, AO, AN, AR, T)) :
    wpX_diff post (xcp, nI C, nI n, nI m, xbc, xrc, xhd, xhr, xpc, xop, xht, xgc, xac, xol, xnl, xbl, xrl, xpa, xok, xoh, xoi, xhf, xhs, xho, xhp, xhn, xhm, xtp, xap, xg0, xg1, xg2, xg3, xao, xan, xar, xlc) := by
  have hS := pd_S_ok (a := xol) (b := xnl) (n := n) (m := m) (K := xok) (H := xoh)
  have hL : (pd_S xol xnl n m xok xoh).1 ≤ 64 := by have := hS.2.2.1; omega
  unfold wpX_diff
  dsimp only
  refine xa_matchLines (V0 := pd_V0 xol xnl n m) hn hm pd_V0_gk (fun M G0 G1 G2 G3 AO AN AR T ac gc hM => ?_)
  dsimp only
  refine xa_writeScript (V0 := pd_V0 xol xnl n m) hn hm pd_V0_ok hM (fun L K H e => ?_)
  dsimp only
  have e' : pd_S xol xnl n m xok xoh = (L, K, H) := e
  rw [e'] at k hL
  dsimp only at k hL
  refine xa_incA hC hL (fun I1 h1 h2 => ?_)
  dsimp only
  refine xa_incB hC hL h1 (fun I h3 h4 => ?_)
  dsimp only
  refine xa_cut hL (fun F S O P B Q h5 => ?_)
  dsimp only
  exact k M I F S O P B Q G0 G1 G2 G3 AO AN AR T ac gc hM h3 (fun q hq => by rw [h4 q hq, h2 q hq]) h5
end XDI
end
section
/-! apply: places and output, pure; then X -/
def pd_cu (ps : Nat → Option (Nat × Nat × Nat)) (h : Nat) : Nat := match ps h with
  | some s => s.1
  | none => 0
def pd_pk (ps : Nat → Option (Nat × Nat × Nat)) (h : Nat) : Nat := match ps (h + 1) with
  | some s => s.2.1
  | none => 0
theorem pd_cu_e {ps : Nat → Option (Nat × Nat × Nat)} {h : Nat} {s : Nat × Nat × Nat} (e : ps h = some s) : pd_cu ps h = s.1 := by
  unfold pd_cu
  rw [e]
theorem pd_pk_e {ps : Nat → Option (Nat × Nat × Nat)} {h : Nat} {s : Nat × Nat × Nat} (e : ps (h + 1) = some s) : pd_pk ps h = s.2.1 := by
  unfold pd_pk
  rw [e]
def pd_ou (base b : Nat → Int32) (ps : Nat → Option (Nat × Nat × Nat)) (bS bL : Nat → Nat) (R0 : Nat → Int32) : Nat → Nat × (Nat → Int32)
  | 0 => (0, R0)
  | h + 1 => ((pd_ou base b ps bS bL R0 h).1 + (pd_pk ps h - pd_cu ps h) + bL h, pd_cp (pd_cp (pd_ou base b ps bS bL R0 h).2 (pd_ou base b ps bS bL R0 h).1 base (pd_cu ps h) (pd_pk ps h - pd_cu ps h)) ((pd_ou base b ps bS bL R0 h).1 + (pd_pk ps h - pd_cu ps h)) b (bS h) (bL h))
theorem pd_ou_s (base b : Nat → Int32) (ps : Nat → Option (Nat × Nat × Nat)) (bS bL : Nat → Nat) (R0 : Nat → Int32) (h : Nat) : pd_ou base b ps bS bL R0 (h + 1) = ((pd_ou base b ps bS bL R0 h).1 + (pd_pk ps h - pd_cu ps h) + bL h, pd_cp (pd_cp (pd_ou base b ps bS bL R0 h).2 (pd_ou base b ps bS bL R0 h).1 base (pd_cu ps h) (pd_pk ps h - pd_cu ps h)) ((pd_ou base b ps bS bL R0 h).1 + (pd_pk ps h - pd_cu ps h)) b (bS h) (bL h)) := rfl
theorem pd_ou_e {base b : Nat → Int32} {ps : Nat → Option (Nat × Nat × Nat)} {bS bL : Nat → Nat} {R T : Nat → Int32} : ∀ h, (pd_ou base b ps bS bL R h).1 = (pd_ou base b ps bS bL T h).1 ∧ ∀ q, q < (pd_ou base b ps bS bL R h).1 → (pd_ou base b ps bS bL R h).2 q = (pd_ou base b ps bS bL T h).2 q := by
  intro h
  induction h with
  | zero => exact ⟨rfl, fun q hq => absurd hq (Nat.not_lt_zero _)⟩
  | succ h ih =>
    rw [pd_ou_s, pd_ou_s, ← ih.1]
    exact ⟨rfl, pd_cp_e (pd_cp_e ih.2 _ _ _) _ _ _⟩
def pd_bE (bS bL : Nat → Nat) : Nat → Nat
  | 0 => 0
  | h + 1 => bS h + bL h
/-- how the hunks lie: in order, within A and B -/
def pd_geo (H n m : Nat) (aS aL bS bL : Nat → Nat) : Prop := (∀ h, h < H → aS h + aL h ≤ n ∧ bS h + bL h ≤ m) ∧ (∀ h, h + 1 < H → aS h + aL h ≤ aS (h + 1) ∧ bS h + bL h ≤ bS (h + 1))
section PSI
variable {base a b : Nat → Int32} {z r H n m : Nat} {aS aL bS bL : Nat → Nat}
theorem pd_ft_k {cur P s l : Nat} (h : pd_ft base a z s l cur P = true) : cur ≤ P ∧ P + l ≤ z ∧ ∀ t, t < l → base (P + t) = a (s + t) := of_decide_eq_true h
theorem pd_ps_x {h : Nat} {s' : Nat × Nat × Nat} (e : pd_ps base a z r aS aL (h + 1) = some s') : ∃ s Q, pd_ps base a z r aS aL h = some s ∧ pd_fp (pd_ft base a z (aS h) (aL h) s.1) (aS h - s.2.2 + s.2.1) (r + 1) 0 = some Q ∧ s' = (Q + aL h, Q, aS h) ∧ s.1 ≤ Q ∧ Q + aL h ≤ z := by
  cases hs : pd_ps base a z r aS aL h with
  | none =>
    rw [pd_ps, hs] at e
    exact nomatch e
  | some s =>
    cases hf : pd_fp (pd_ft base a z (aS h) (aL h) s.1) (aS h - s.2.2 + s.2.1) (r + 1) 0 with
    | none =>
      rw [pd_ps_n base a z r aS aL hs hf] at e
      exact nomatch e
    | some Q =>
      rw [pd_ps_y base a z r aS aL hs hf] at e
      cases e
      have := pd_ft_k (pd_fp_k _ _ hf)
      exact ⟨s, Q, rfl, hf, rfl, this.1, this.2.1⟩
theorem pd_ps_none {h : Nat} (e : pd_ps base a z r aS aL h = none) : ∀ d, pd_ps base a z r aS aL (h + d) = none := by
  intro d
  induction d with
  | zero => exact e
  | succ d ih =>
    show pd_ps base a z r aS aL (h + d + 1) = none
    rw [pd_ps, ih]
theorem pd_ps_i (hG : pd_geo H n m aS aL bS bL) : ∀ h s, h ≤ H → pd_ps base a z r aS aL h = some s → s.1 ≤ z ∧ s.2.1 ≤ s.1 ∧ (h < H → s.2.2 ≤ aS h ∧ pd_bE bS bL h ≤ bS h) ∧ s.2.2 ≤ n ∧ pd_bE bS bL h ≤ m := by
  intro h
  cases h with
  | zero =>
    intro s _ e
    cases e
    exact ⟨Nat.zero_le _, Nat.le_refl _, fun _ => ⟨Nat.zero_le _, Nat.zero_le _⟩, Nat.zero_le _, Nat.zero_le _⟩
  | succ h =>
    intro s hh e
    obtain ⟨s0, Q, e0, e1, rfl, e3, e4⟩ := pd_ps_x e
    have g1 := hG.1 h (by omega)
    refine ⟨e4, by dsimp only; omega, fun hl => ?_, by dsimp only; omega, g1.2⟩
    have g2 := hG.2 h hl
    exact ⟨by dsimp only; omega, g2.2⟩
theorem pd_ou_b (hG : pd_geo H n m aS aL bS bL) {R : Nat → Int32} : ∀ h s, h ≤ H → pd_ps base a z r aS aL h = some s → (pd_ou base b (pd_ps base a z r aS aL) bS bL R h).1 ≤ s.1 + pd_bE bS bL h := by
  intro h
  induction h with
  | zero => intro s _ _; exact Nat.zero_le _
  | succ h ih =>
    intro s hh e
    obtain ⟨s0, Q, e0, e1, e2, e3, e4⟩ := pd_ps_x e
    have i1 := ih s0 (by omega) e0
    have i2 := (pd_ps_i hG h s0 (by omega) e0).2.2.1 (by omega)
    rw [pd_ou_s, pd_cu_e e0, pd_pk_e e]
    subst e2
    show (pd_ou base b (pd_ps base a z r aS aL) bS bL R h).1 + (Q - s0.1) + bL h ≤ Q + aL h + (bS h + bL h)
    omega
end PSI
section XAP
variable {xcp xcx xoc xnc xbc xrc xhd xhr xpc xop xht xgc xac : Int32} {xol xnl xbl xrl xpa xok xoh xoi xhf xhs xho xhp xhn xhm xtp xap xg0 xg1 xg2 xg3 xao xan xar xlc : Nat → Int32}
variable {z r H n m : Nat} {aS aL bS bL : Nat → Nat}
theorem xa_fit25 {post : Int32 → Prop} {h P s l : Nat} (hh : h < 64) (e1 : xhp h = nI l) (e2 : xho h = nI s) (ha : s + l ≤ 32) (hP : P + l ≤ 32) (K1 : (∀ t, t < l → xbl (P + t) = xol (s + t)) → post 1) (K0 : ¬ (∀ t, t < l → xbl (P + t) = xol (s + t)) → post 0) :
    ∀ d t, t + d = l → (∀ t', t' < t → xbl (P + t') = xol (s + t')) → wX_fitsAt_25 post (nI h) (nI P) xcp xcx xoc xnc xbc xrc xhd xhr xpc xop xht xgc xac xol xnl xbl xrl xpa xok xoh xoi xhf xhs xho xhp xhn xhm xtp xap xg0 xg1 xg2 xg3 xao xan xar xlc (d + 1) (nI t) := by
  have zh : (nI h).toNatClampNeg = h := nI_clamp (by omega)
  have vh : vp_in (nI h) 64 := vp_in_nI hh (by decide)
  have f1 : xhp (nI h).toNatClampNeg = nI l := by rw [zh, e1]
  have f2 : xho (nI h).toNatClampNeg = nI s := by rw [zh, e2]
  intro d
  induction d with
  | zero =>
    intro t ht hq
    have et : t = l := by omega
    subst et
    exact And.intro vh (pk_le t t (fun _ => K1 hq) (fun c => absurd c (by omega)) f1)
  | succ d ih =>
    intro t ht hq
    refine And.intro vh (pk_le l t (fun c => absurd c (by omega)) (fun c => And.intro (by rw [nI_add]; exact vp_in_nI (by omega) (by decide)) (And.intro vh (And.intro (by rw [f2, nI_add]; exact vp_in_nI (by omega) (by decide)) (br_c (fun c1 => ?_) (fun c1 => ?_))))) f1)
    · rw [f2, nI_add, nI_add, nI_clamp (by omega), nI_clamp (by omega)] at c1
      refine nm_r (nI_1 t) (ih (t + 1) (by omega) (fun t' ht' => ?_))
      by_cases e : t' = t
      · rw [e]; exact c1
      · exact hq t' (by omega)
    · rw [f2, nI_add, nI_add, nI_clamp (by omega), nI_clamp (by omega)] at c1
      exact K0 (fun w => c1 (w t (by omega)))
theorem xa_fitsAt {post : Int32 → Prop} {h P s l cur : Nat} (hh : h < 64) (e1 : xhp h = nI l) (e2 : xho h = nI s) (ha : s + l ≤ 32) (hz : z ≤ 32) (hP : P < 1000) (hc : cur ≤ 32) (K1 : pd_ft xbl xol z s l cur P = true → post 1) (K0 : ¬ pd_ft xbl xol z s l cur P = true → post 0) : wpX_fitsAt post (xcp, xcx, xoc, xnc, nI z, xrc, xhd, xhr, xpc, xop, xht, xgc, xac, xol, xnl, xbl, xrl, xpa, xok, xoh, xoi, xhf, xhs, xho, xhp, xhn, xhm, xtp, xap, xg0, xg1, xg2, xg3, xao, xan, xar, xlc) (nI h) (nI P) (nI cur) := by
  have zh : (nI h).toNatClampNeg = h := nI_clamp (by omega)
  have vh : vp_in (nI h) 64 := vp_in_nI hh (by decide)
  refine pk_lt P cur (fun c => K0 (fun w => ?_)) (fun c => And.intro vh (pk_le (P + l) z (fun c2 => ⟨_, xa_fit25 hh e1 e2 ha (by omega) (fun w => K1 (decide_eq_true ⟨c, c2, w⟩)) (fun w => K0 (fun w2 => w (pd_ft_k w2).2.2)) l 0 (by omega) (fun t' ht' => absurd ht' (Nat.not_lt_zero _))⟩) (fun c2 => K0 (fun w => ?_)) (by rw [zh, e1, nI_add])))
  · have := (pd_ft_k w).1
    omega
  · have := (pd_ft_k w).2.1
    omega
theorem pd_neg {E s cur : Nat} (h : E < s) (hs : s < 1000) (hc : cur ≤ 32) : nI E - nI s < nI cur := by
  rw [Int32.lt_iff_toInt_lt, pk_sub_toInt (by omega) (by omega), nI_toInt (by omega)]
  omega
theorem xa_find3 {post : Int32 → Prop} {h E s l cur : Nat} (hh : h < 64) (e1 : xhp h = nI l) (e2 : xho h = nI s) (ha : s + l ≤ 32) (hz : z ≤ 32) (hE : E ≤ 200) (hr : r ≤ 8) (hc : cur ≤ 32) :
    ∀ k o, o + k = r + 1 → post (pd_e (pd_fp (pd_ft xbl xol z s l cur) E k o)) → wX_findPlace_3 post (nI h) (nI E) (nI cur) (nI r) xcp xcx xoc xnc (nI z) xrc xhd xhr xpc xop xht xgc xac xol xnl xbl xrl xpa xok xoh xoi xhf xhs xho xhp xhn xhm xtp xap xg0 xg1 xg2 xg3 xao xan xar xlc (k + 1) (nI o) := by
  intro k
  induction k with
  | zero =>
    intro o ho K
    exact br_t (nI_lt (by omega) (by omega)) K
  | succ k ih =>
    intro o ho K
    rw [pd_fp_s] at K
    have d1 : ¬ (1 : Int32) = 0 := by decide
    have second : ¬ (o ≤ E ∧ pd_ft xbl xol z s l cur (E - o) = true) → wpX_fitsAt (fun r_41 => ((r_41 = 0 → ∀ x5_80 : Int32, x5_80 = nI o + 1 → wX_findPlace_3 post (nI h) (nI E) (nI cur) (nI r) xcp xcx xoc xnc (nI z) xrc xhd xhr xpc xop xht xgc xac xol xnl xbl xrl xpa xok xoh xoi xhf xhs xho xhp xhn xhm xtp xap xg0 xg1 xg2 xg3 xao xan xar xlc (k + 1) x5_80) ∧ (¬ r_41 = 0 → post (nI E + nI o)))) (xcp, xcx, xoc, xnc, nI z, xrc, xhd, xhr, xpc, xop, xht, xgc, xac, xol, xnl, xbl, xrl, xpa, xok, xoh, xoi, xhf, xhs, xho, xhp, xhn, xhm, xtp, xap, xg0, xg1, xg2, xg3, xao, xan, xar, xlc) (nI h) (nI E + nI o) (nI cur) := fun w => by
      rw [if_neg w] at K
      rw [nI_add]
      refine xa_fitsAt hh e1 e2 ha hz (by omega) hc (fun w2 => br_f d1 ?_) (fun w2 => br_t rfl (nm_r (nI_1 o) (ih (o + 1) (by omega) ?_)))
      · rw [if_pos w2] at K
        exact K
      · rw [if_neg w2] at K
        exact K
    refine br_f (nI_nlt (by omega) (by omega)) ?_
    by_cases c : o ≤ E
    · rw [pk_sub c]
      refine xa_fitsAt hh e1 e2 ha hz (by omega) hc (fun w => br_f d1 ?_) (fun w => br_t rfl (second (fun w2 => w w2.2)))
      rw [if_pos ⟨c, w⟩] at K
      exact K
    · exact br_t (pd_neg (by omega) (by omega) hc) (br_t rfl (second (fun w => c w.1)))
theorem xa_findPlace {post : Int32 → Prop} {h E s l cur : Nat} (hh : h < 64) (e1 : xhp h = nI l) (e2 : xho h = nI s) (ha : s + l ≤ 32) (hz : z ≤ 32) (hE : E ≤ 200) (hr : r ≤ 8) (hc : cur ≤ 32) (K : post (pd_e (pd_fp (pd_ft xbl xol z s l cur) E (r + 1) 0))) : wpX_findPlace post (xcp, xcx, xoc, xnc, nI z, xrc, xhd, xhr, xpc, xop, xht, xgc, xac, xol, xnl, xbl, xrl, xpa, xok, xoh, xoi, xhf, xhs, xho, xhp, xhn, xhm, xtp, xap, xg0, xg1, xg2, xg3, xao, xan, xar, xlc) (nI h) (nI E) (nI cur) (nI r) :=
  ⟨_, xa_find3 hh e1 e2 ha hz hE hr hc (r + 1) 0 (by omega) K⟩
theorem pd_shift {A P S : Nat} (h : S ≤ A) : nI A + (nI P - nI S) = nI (A - S + P) := by
  obtain ⟨d, rfl⟩ : ∃ d, A = d + S := ⟨A - S, by omega⟩
  rw [Nat.add_sub_cancel, ← nI_add, ← nI_add]
  grind
theorem xa_place7 {post : Int32 → St2 → Prop} (hH : H ≤ 64) (hz : z ≤ 32) (hn : n ≤ 32) (hr : r ≤ 8) (hG : pd_geo H n m aS aL bS bL) (e1 : ∀ h, h < H → xhp h = nI (aL h)) (e2 : ∀ h, h < H → xho h = nI (aS h))
    (K1 : ∀ h T, h < H → (∃ s, pd_ps xbl xol z r aS aL h = some s) → pd_ps xbl xol z r aS aL (h + 1) = none → post (nI h) (xcp, xcx, xoc, xnc, nI z, xrc, xhd, xhr, xpc, xop, nI H, xgc, xac, xol, xnl, xbl, xrl, xpa, xok, xoh, xoi, xhf, xhs, xho, xhp, xhn, xhm, T, xap, xg0, xg1, xg2, xg3, xao, xan, xar, xlc))
    (K2 : ∀ s T, pd_ps xbl xol z r aS aL H = some s → (∀ q, q < H → T q = nI (pd_pk (pd_ps xbl xol z r aS aL) q)) → post (nI H) (xcp, xcx, xoc, xnc, nI z, xrc, xhd, xhr, xpc, xop, nI H, xgc, xac, xol, xnl, xbl, xrl, xpa, xok, xoh, xoi, xhf, xhs, xho, xhp, xhn, xhm, T, xap, xg0, xg1, xg2, xg3, xao, xan, xar, xlc)) :
    ∀ d h s T, h + d = H → pd_ps xbl xol z r aS aL h = some s → (∀ q, q < h → T q = nI (pd_pk (pd_ps xbl xol z r aS aL) q)) →
    wX_placeHunks_7 post (nI r) xcp xcx xoc xnc (nI z) xrc xhd xhr xpc xop (nI H) xgc xac (d + 1) (nI s.1) (nI s.2.1 - nI s.2.2) (nI h) xol xnl xbl xrl xpa xok xoh xoi xhf xhs xho xhp xhn xhm T xap xg0 xg1 xg2 xg3 xao xan xar xlc := by
  intro d
  induction d with
  | zero =>
    intro h s T hd hs hT
    have eh : h = H := by omega
    subst eh
    exact br_t (nI_le (Nat.le_refl _) (by omega)) (K2 s T hs hT)
  | succ d ih =>
    intro h s T hd hs hT
    have zh : (nI h).toNatClampNeg = h := nI_clamp (by omega)
    have vh : vp_in (nI h) 64 := vp_in_nI (by omega) (by decide)
    have hi := pd_ps_i hG h s (by omega) hs
    have hg := hG.1 h (by omega)
    have hsl := hi.2.2.1 (by omega)
    refine br_f (nI_ge (by omega) (by omega)) (And.intro vh ?_)
    rw [zh, e2 h (by omega), pd_shift hsl.1]
    refine xa_findPlace (s := aS h) (l := aL h) (by omega) (e1 h (by omega)) (e2 h (by omega)) (by omega) hz (by omega) hr (by omega) ?_
    cases hf : pd_fp (pd_ft xbl xol z (aS h) (aL h) s.1) (aS h - s.2.2 + s.2.1) (r + 1) 0 with
    | none => exact br_t rfl (K1 h T (by omega) ⟨s, hs⟩ (pd_ps_n _ _ _ _ _ _ hs hf))
    | some Q =>
      have hs' := pd_ps_y xbl xol z r aS aL hs hf
      have hQ := pd_ft_k (pd_fp_k _ _ hf)
      refine br_f (pd_ne1 (by omega)) (And.intro vh (nm_r (e' := upd T h (nI Q)) rfl (And.intro vh (nm_r (e' := nI (Q + aL h)) ?_ (And.intro vh (nm_r (e' := nI Q - nI (aS h)) rfl (nm_r (nI_1 h) (ih (h + 1) (Q + aL h, Q, aS h) _ (by omega) hs' (fun q hq => ?_)))))))))
      · rw [e1 h (by omega)]
        exact nI_add Q (aL h)
      · by_cases e : q = h
        · subst e
          rw [pk_us, pd_pk_e hs']
        · rw [pk_un e]
          exact hT q (by omega)
end XAP
end
section
/-! X: appendRun, writeResult, apply -/
section XWR
variable {xcp xcx xoc xnc xbc xrc xhd xhr xpc xop xht xgc xac : Int32} {xol xnl xbl xrl xpa xok xoh xoi xhf xhs xho xhp xhn xhm xtp xap xg0 xg1 xg2 xg3 xao xan xar xlc : Nat → Int32}
variable {z r H n m : Nat} {aS aL bS bL : Nat → Nat}
theorem xa_ap3_xbl {post : St2 → Prop} {f t o : Nat} (hf : f ≤ 64) (ht : t ≤ 32) (R0 : Nat → Int32) (ho : o + (t - f) ≤ 64) (K : post (xcp, xcx, xoc, xnc, xbc, nI (o + (t - f)), xhd, xhr, xpc, xop, xht, xgc, xac, xol, xnl, xbl, pd_cp R0 o xbl f (t - f), xpa, xok, xoh, xoi, xhf, xhs, xho, xhp, xhn, xhm, xtp, xap, xg0, xg1, xg2, xg3, xao, xan, xar, xlc)) :
    ∀ d q, q + d = t - f → wX_appendRun_3 post (nI t) xcp xcx xoc xnc xbc xhd xhr xpc xop xht xgc xac (d + 1) (nI (f + q)) (nI (o + q)) xol xnl xbl (pd_cp R0 o xbl f q) xpa xok xoh xoi xhf xhs xho xhp xhn xhm xtp xap xg0 xg1 xg2 xg3 xao xan xar xlc := by
  intro d
  induction d with
  | zero =>
    intro q hq
    have eq : q = t - f := by omega
    subst eq
    exact br_t (nI_le (by omega) (by omega)) K
  | succ d ih =>
    intro q hq
    have z1 : (nI (f + q)).toNatClampNeg = f + q := nI_clamp (by omega)
    have z2 : (nI (o + q)).toNatClampNeg = o + q := nI_clamp (by omega)
    exact br_f (nI_ge (by omega) (by omega)) (And.intro (vp_in_nI (by omega) (by decide)) (And.intro (vp_in_nI (by omega) (by decide)) (nm_r (e' := pd_cp R0 o xbl f (q + 1)) (by rw [z1, z2, pd_cp_s]) (nm_r (nI_1 (o + q)) (nm_r (nI_1 (f + q)) (ih (q + 1) (by omega)))))))
theorem xa_app_xbl {post : St2 → Prop} {f t o : Nat} (hf : f ≤ 64) (ht : t ≤ 32) (ho : o + (t - f) ≤ 64) (K : post (xcp, xcx, xoc, xnc, xbc, nI (o + (t - f)), xhd, xhr, xpc, xop, xht, xgc, xac, xol, xnl, xbl, pd_cp xrl o xbl f (t - f), xpa, xok, xoh, xoi, xhf, xhs, xho, xhp, xhn, xhm, xtp, xap, xg0, xg1, xg2, xg3, xao, xan, xar, xlc)) : wpX_appendRun post (xcp, xcx, xoc, xnc, xbc, nI o, xhd, xhr, xpc, xop, xht, xgc, xac, xol, xnl, xbl, xrl, xpa, xok, xoh, xoi, xhf, xhs, xho, xhp, xhn, xhm, xtp, xap, xg0, xg1, xg2, xg3, xao, xan, xar, xlc) (nI f) (nI t) := by
  have := xa_ap3_xbl (post := post) (f := f) (t := t) (o := o) (xcp := xcp) (xcx := xcx) (xoc := xoc) (xnc := xnc) (xbc := xbc) (xhd := xhd) (xhr := xhr) (xpc := xpc) (xop := xop) (xht := xht) (xgc := xgc) (xac := xac) (xol := xol) (xnl := xnl) (xbl := xbl) (xpa := xpa) (xok := xok) (xoh := xoh) (xoi := xoi) (xhf := xhf) (xhs := xhs) (xho := xho) (xhp := xhp) (xhn := xhn) (xhm := xhm) (xtp := xtp) (xap := xap) (xg0 := xg0) (xg1 := xg1) (xg2 := xg2) (xg3 := xg3) (xao := xao) (xan := xan) (xar := xar) (xlc := xlc) hf ht xrl ho K (t - f) 0 (by omega)
  rw [pd_cp_0] at this
  exact ⟨_, this⟩
theorem xa_ap3_xnl {post : St2 → Prop} {f t o : Nat} (hf : f ≤ 64) (ht : t ≤ 32) (R0 : Nat → Int32) (ho : o + (t - f) ≤ 64) (K : post (xcp, xcx, xoc, xnc, xbc, nI (o + (t - f)), xhd, xhr, xpc, xop, xht, xgc, xac, xol, xnl, xbl, pd_cp R0 o xnl f (t - f), xpa, xok, xoh, xoi, xhf, xhs, xho, xhp, xhn, xhm, xtp, xap, xg0, xg1, xg2, xg3, xao, xan, xar, xlc)) :
    ∀ d q, q + d = t - f → wX_appendRun_2_3 post (nI t) xcp xcx xoc xnc xbc xhd xhr xpc xop xht xgc xac (d + 1) (nI (f + q)) (nI (o + q)) xol xnl xbl (pd_cp R0 o xnl f q) xpa xok xoh xoi xhf xhs xho xhp xhn xhm xtp xap xg0 xg1 xg2 xg3 xao xan xar xlc := by
  intro d
  induction d with
  | zero =>
    intro q hq
    have eq : q = t - f := by omega
    subst eq
    exact br_t (nI_le (by omega) (by omega)) K
  | succ d ih =>
    intro q hq
    have z1 : (nI (f + q)).toNatClampNeg = f + q := nI_clamp (by omega)
    have z2 : (nI (o + q)).toNatClampNeg = o + q := nI_clamp (by omega)
    exact br_f (nI_ge (by omega) (by omega)) (And.intro (vp_in_nI (by omega) (by decide)) (And.intro (vp_in_nI (by omega) (by decide)) (nm_r (e' := pd_cp R0 o xnl f (q + 1)) (by rw [z1, z2, pd_cp_s]) (nm_r (nI_1 (o + q)) (nm_r (nI_1 (f + q)) (ih (q + 1) (by omega)))))))
theorem xa_app_xnl {post : St2 → Prop} {f t o : Nat} (hf : f ≤ 64) (ht : t ≤ 32) (ho : o + (t - f) ≤ 64) (K : post (xcp, xcx, xoc, xnc, xbc, nI (o + (t - f)), xhd, xhr, xpc, xop, xht, xgc, xac, xol, xnl, xbl, pd_cp xrl o xnl f (t - f), xpa, xok, xoh, xoi, xhf, xhs, xho, xhp, xhn, xhm, xtp, xap, xg0, xg1, xg2, xg3, xao, xan, xar, xlc)) : wpX_appendRun_2 post (xcp, xcx, xoc, xnc, xbc, nI o, xhd, xhr, xpc, xop, xht, xgc, xac, xol, xnl, xbl, xrl, xpa, xok, xoh, xoi, xhf, xhs, xho, xhp, xhn, xhm, xtp, xap, xg0, xg1, xg2, xg3, xao, xan, xar, xlc) (nI f) (nI t) := by
  have := xa_ap3_xnl (post := post) (f := f) (t := t) (o := o) (xcp := xcp) (xcx := xcx) (xoc := xoc) (xnc := xnc) (xbc := xbc) (xhd := xhd) (xhr := xhr) (xpc := xpc) (xop := xop) (xht := xht) (xgc := xgc) (xac := xac) (xol := xol) (xnl := xnl) (xbl := xbl) (xpa := xpa) (xok := xok) (xoh := xoh) (xoi := xoi) (xhf := xhf) (xhs := xhs) (xho := xho) (xhp := xhp) (xhn := xhn) (xhm := xhm) (xtp := xtp) (xap := xap) (xg0 := xg0) (xg1 := xg1) (xg2 := xg2) (xg3 := xg3) (xao := xao) (xan := xan) (xar := xar) (xlc := xlc) hf ht xrl ho K (t - f) 0 (by omega)
  rw [pd_cp_0] at this
  exact ⟨_, this⟩
theorem xa_wr9 {post : St2 → Prop} {R0 : Nat → Int32} (hH : H ≤ 64) (hz : z ≤ 32) (hn : n ≤ 32) (hm : m ≤ 32) (hG : pd_geo H n m aS aL bS bL) (e1 : ∀ h, h < H → xhp h = nI (aL h)) (e3 : ∀ h, h < H → xhn h = nI (bS h)) (e4 : ∀ h, h < H → xhm h = nI (bL h))
    (hsH : ∃ s, pd_ps xbl xol z r aS aL H = some s) (hT : ∀ q, q < H → xtp q = nI (pd_pk (pd_ps xbl xol z r aS aL) q))
    (K : ∀ A, (∀ q, q < H → A q = nI (pd_pk (pd_ps xbl xol z r aS aL) q)) → post (xcp, xcx, xoc, xnc, nI z, nI ((pd_ou xbl xnl (pd_ps xbl xol z r aS aL) bS bL R0 H).1 + (z - pd_cu (pd_ps xbl xol z r aS aL) H)), xhd, 1, xpc, xop, nI H, xgc, xac, xol, xnl, xbl, pd_cp (pd_ou xbl xnl (pd_ps xbl xol z r aS aL) bS bL R0 H).2 (pd_ou xbl xnl (pd_ps xbl xol z r aS aL) bS bL R0 H).1 xbl (pd_cu (pd_ps xbl xol z r aS aL) H) (z - pd_cu (pd_ps xbl xol z r aS aL) H), xpa, xok, xoh, xoi, xhf, xhs, xho, xhp, xhn, xhm, xtp, A, xg0, xg1, xg2, xg3, xao, xan, xar, xlc)) :
    ∀ d h A, h + d = H → (∀ q, q < h → A q = nI (pd_pk (pd_ps xbl xol z r aS aL) q)) →
    wX_writeResult_9 post (d + 1) (nI (pd_cu (pd_ps xbl xol z r aS aL) h)) (nI h) xcp xcx xoc xnc (nI z) (nI (pd_ou xbl xnl (pd_ps xbl xol z r aS aL) bS bL R0 h).1) xhd xhr xpc xop (nI H) xgc xac xol xnl xbl ((pd_ou xbl xnl (pd_ps xbl xol z r aS aL) bS bL R0 h).2) xpa xok xoh xoi xhf xhs xho xhp xhn xhm xtp A xg0 xg1 xg2 xg3 xao xan xar xlc := by
  have some_at : ∀ h, h ≤ H → ∃ s, pd_ps xbl xol z r aS aL h = some s := fun h hh => by
    cases hs : pd_ps xbl xol z r aS aL h with
    | none =>
      obtain ⟨s, e⟩ := hsH
      have := pd_ps_none hs (H - h)
      rw [show h + (H - h) = H by omega, e] at this
      exact nomatch this
    | some s => exact ⟨s, rfl⟩
  intro d
  induction d with
  | zero =>
    intro h A hd hA
    have eh : h = H := by omega
    subst eh
    obtain ⟨s, hs⟩ := some_at h (Nat.le_refl _)
    have hi := pd_ps_i hG h s (Nat.le_refl _) hs
    have hb := pd_ou_b (b := xnl) (R := R0) hG h s (Nat.le_refl _) hs
    have ec := pd_cu_e hs
    refine br_t (nI_le (Nat.le_refl _) (by omega)) (xa_app_xbl (by omega) hz (by omega) ?_)
    dsimp only
    exact K A hA
  | succ d ih =>
    intro h A hd hA
    obtain ⟨s, hs⟩ := some_at h (by omega)
    obtain ⟨s', hs'⟩ := some_at (h + 1) (by omega)
    have hi := pd_ps_i hG h s (by omega) hs
    have hb := pd_ou_b (b := xnl) (R := R0) hG h s (by omega) hs
    have ec := pd_cu_e hs
    obtain ⟨s2, Q, f1, f2, f3, f4, f5⟩ := pd_ps_x hs'
    rw [hs] at f1
    cases f1
    have ep : pd_pk (pd_ps xbl xol z r aS aL) h = Q := by rw [pd_pk_e hs', f3]
    have hsl := hi.2.2.1 (by omega)
    have hg := hG.1 h (by omega)
    have zh : (nI h).toNatClampNeg = h := nI_clamp (by omega)
    have vh : vp_in (nI h) 64 := vp_in_nI (by omega) (by decide)
    refine br_f (nI_ge (by omega) (by omega)) (And.intro vh ?_)
    rw [zh, hT h (by omega), ep]
    refine xa_app_xbl (by omega) (by omega) (by omega) ?_
    dsimp only
    refine And.intro vh (And.intro vh (And.intro vh ?_))
    rw [e3 h (by omega), e4 h (by omega), nI_add]
    refine xa_app_xnl (by omega) (by omega) (by omega) ?_
    dsimp only
    refine And.intro vh (And.intro vh (nm_r (e' := nI (pd_cu (pd_ps xbl xol z r aS aL) (h + 1))) ?_ (And.intro vh (And.intro vh (nm_r (e' := upd A h (nI Q)) ?_ (nm_r (nI_1 h) ?_))))))
    · rw [hT h (by omega), ep, e1 h (by omega), nI_add, pd_cu_e hs', f3]
    · rw [hT h (by omega), ep]
    · have I := ih (h + 1) (upd A h (nI Q)) (by omega) (fun q hq => by
        by_cases e : q = h
        · subst e; rw [pk_us, ep]
        · rw [pk_un e]; exact hA q (by omega))
      rw [pd_ou_s, ep] at I
      rw [Nat.add_sub_cancel_left]
      exact I
theorem xa_writeResult {post : St2 → Prop} (hH : H ≤ 64) (hz : z ≤ 32) (hn : n ≤ 32) (hm : m ≤ 32) (hG : pd_geo H n m aS aL bS bL) (e1 : ∀ h, h < H → xhp h = nI (aL h)) (e3 : ∀ h, h < H → xhn h = nI (bS h)) (e4 : ∀ h, h < H → xhm h = nI (bL h))
    (hsH : ∃ s, pd_ps xbl xol z r aS aL H = some s) (hT : ∀ q, q < H → xtp q = nI (pd_pk (pd_ps xbl xol z r aS aL) q))
    (K : ∀ A, (∀ q, q < H → A q = nI (pd_pk (pd_ps xbl xol z r aS aL) q)) → post (xcp, xcx, xoc, xnc, nI z, nI ((pd_ou xbl xnl (pd_ps xbl xol z r aS aL) bS bL xrl H).1 + (z - pd_cu (pd_ps xbl xol z r aS aL) H)), xhd, 1, xpc, xop, nI H, xgc, xac, xol, xnl, xbl, pd_cp (pd_ou xbl xnl (pd_ps xbl xol z r aS aL) bS bL xrl H).2 (pd_ou xbl xnl (pd_ps xbl xol z r aS aL) bS bL xrl H).1 xbl (pd_cu (pd_ps xbl xol z r aS aL) H) (z - pd_cu (pd_ps xbl xol z r aS aL) H), xpa, xok, xoh, xoi, xhf, xhs, xho, xhp, xhn, xhm, xtp, A, xg0, xg1, xg2, xg3, xao, xan, xar, xlc)) : wpX_writeResult post (xcp, xcx, xoc, xnc, nI z, xrc, xhd, xhr, xpc, xop, nI H, xgc, xac, xol, xnl, xbl, xrl, xpa, xok, xoh, xoi, xhf, xhs, xho, xhp, xhn, xhm, xtp, xap, xg0, xg1, xg2, xg3, xao, xan, xar, xlc) :=
  ⟨_, xa_wr9 (r := r) (R0 := xrl) hH hz hn hm hG e1 e3 e4 hsH hT K H 0 xap (by omega) (fun q hq => absurd hq (Nat.not_lt_zero _))⟩
theorem xa_apply {post : Int32 → St2 → Prop} {p0 : Int32} (hH : H ≤ 64) (hz : z ≤ 32) (hn : n ≤ 32) (hm : m ≤ 32) (hr : r ≤ 8) (hd : ¬ xhd = 0) (hcl : ∀ post : Int32 → Prop, post (nI r) → wpX_clamp post () p0 0 8) (hG : pd_geo H n m aS aL bS bL) (e1 : ∀ h, h < H → xhp h = nI (aL h)) (e2 : ∀ h, h < H → xho h = nI (aS h)) (e3 : ∀ h, h < H → xhn h = nI (bS h)) (e4 : ∀ h, h < H → xhm h = nI (bL h))
    (K1 : ∀ h T, h < H → (∃ s, pd_ps xbl xol z r aS aL h = some s) → pd_ps xbl xol z r aS aL (h + 1) = none → post ((-2) - nI h) (xcp, xcx, xoc, xnc, nI z, xrc, xhd, xhr, xpc, xop, nI H, xgc, xac, xol, xnl, xbl, xrl, xpa, xok, xoh, xoi, xhf, xhs, xho, xhp, xhn, xhm, T, xap, xg0, xg1, xg2, xg3, xao, xan, xar, xlc))
    (K2 : ∀ A T, (∃ s, pd_ps xbl xol z r aS aL H = some s) → (∀ q, q < H → A q = nI (pd_pk (pd_ps xbl xol z r aS aL) q)) → post (nI H) (xcp, xcx, xoc, xnc, nI z, nI ((pd_ou xbl xnl (pd_ps xbl xol z r aS aL) bS bL xrl H).1 + (z - pd_cu (pd_ps xbl xol z r aS aL) H)), xhd, 1, xpc, xop, nI H, xgc, xac, xol, xnl, xbl, pd_cp (pd_ou xbl xnl (pd_ps xbl xol z r aS aL) bS bL xrl H).2 (pd_ou xbl xnl (pd_ps xbl xol z r aS aL) bS bL xrl H).1 xbl (pd_cu (pd_ps xbl xol z r aS aL) H) (z - pd_cu (pd_ps xbl xol z r aS aL) H), xpa, xok, xoh, xoi, xhf, xhs, xho, xhp, xhn, xhm, T, A, xg0, xg1, xg2, xg3, xao, xan, xar, xlc)) :
    wpX_apply post (xcp, xcx, xoc, xnc, nI z, xrc, xhd, xhr, xpc, xop, nI H, xgc, xac, xol, xnl, xbl, xrl, xpa, xok, xoh, xoi, xhf, xhs, xho, xhp, xhn, xhm, xtp, xap, xg0, xg1, xg2, xg3, xao, xan, xar, xlc) p0 := by
  refine br_f hd (hcl _ ?_)
  have s0 : nI 0 - nI 0 = 0 := Int32.sub_self _
  have := xa_place7 (post := fun r_3 u => match u with | (xcp, xcx, xoc, xnc, xbc, xrc, xhd, xhr, xpc, xop, xht, xgc, xac, xol, xnl, xbl, xrl, xpa, xok, xoh, xoi, xhf, xhs, xho, xhp, xhn, xhm, xtp, xap, xg0, xg1, xg2, xg3, xao, xan, xar, xlc) => ((xht ≤ r_3 → wpX_writeResult (fun u => match u with | (xcp, xcx, xoc, xnc, xbc, xrc, xhd, xhr, xpc, xop, xht, xgc, xac, xol, xnl, xbl, xrl, xpa, xok, xoh, xoi, xhf, xhs, xho, xhp, xhn, xhm, xtp, xap, xg0, xg1, xg2, xg3, xao, xan, xar, xlc) => post xht (xcp, xcx, xoc, xnc, xbc, xrc, xhd, xhr, xpc, xop, xht, xgc, xac, xol, xnl, xbl, xrl, xpa, xok, xoh, xoi, xhf, xhs, xho, xhp, xhn, xhm, xtp, xap, xg0, xg1, xg2, xg3, xao, xan, xar, xlc)) (xcp, xcx, xoc, xnc, xbc, xrc, xhd, xhr, xpc, xop, xht, xgc, xac, xol, xnl, xbl, xrl, xpa, xok, xoh, xoi, xhf, xhs, xho, xhp, xhn, xhm, xtp, xap, xg0, xg1, xg2, xg3, xao, xan, xar, xlc)) ∧ (¬ xht ≤ r_3 → post ((-2) - r_3) (xcp, xcx, xoc, xnc, xbc, xrc, xhd, xhr, xpc, xop, xht, xgc, xac, xol, xnl, xbl, xrl, xpa, xok, xoh, xoi, xhf, xhs, xho, xhp, xhn, xhm, xtp, xap, xg0, xg1, xg2, xg3, xao, xan, xar, xlc)))) (r := r) (z := z) (H := H) (n := n) (m := m) (aS := aS) (aL := aL) (bS := bS) (bL := bL) (xcp := xcp) (xcx := xcx) (xoc := xoc) (xnc := xnc) (xrc := xrc) (xhd := xhd) (xhr := xhr) (xpc := xpc) (xop := xop) (xgc := xgc) (xac := xac) (xol := xol) (xnl := xnl) (xbl := xbl) (xrl := xrl) (xpa := xpa) (xok := xok) (xoh := xoh) (xoi := xoi) (xhf := xhf) (xhs := xhs) (xho := xho) (xhp := xhp) (xhn := xhn) (xhm := xhm) (xap := xap) (xg0 := xg0) (xg1 := xg1) (xg2 := xg2) (xg3 := xg3) (xao := xao) (xan := xan) (xar := xar) (xlc := xlc) hH hz hn hr hG e1 e2 (fun h T h1 h2 h3 => ?_) (fun s T h1 h2 => ?_) H 0 (0, 0, 0) xtp (by omega) rfl (fun q hq => absurd hq (Nat.not_lt_zero _))
  · dsimp only at this
    rw [s0] at this
    exact ⟨_, this⟩
  · dsimp only
    exact br_f (nI_ge h1 (by omega)) (K1 h T h1 h2 h3)
  · dsimp only
    refine br_t (nI_le (Nat.le_refl _) (by omega)) (xa_writeResult (r := r) hH hz hn hm hG e1 e3 e4 ⟨s, h1⟩ h2 (fun A hA => ?_))
    dsimp only
    exact K2 A T ⟨s, h1⟩ hA
end XWR
end
section
/-! the script's length by the pairs; what lies between hunks; apply onto A -/
def pd_nv (V : Nat → Option Nat) : Nat → Nat
  | 0 => 0
  | k + 1 => pd_nv V k + if V k = none then 0 else 1
theorem pd_nv_s (V : Nat → Option Nat) (k : Nat) : pd_nv V (k + 1) = pd_nv V k + if V k = none then 0 else 1 := rfl
theorem pd_nv_cm {M : Nat → Int32} {V : Nat → Option Nat} : ∀ k, (∀ x, x < k → M x = pd_e (V x)) → (∀ x y, x < k → V x = some y → y < 2 ^ 31) → pd_cm M k = pd_nv V k := by
  intro k
  induction k with
  | zero => intro _ _; rfl
  | succ k ih =>
    intro h1 h2
    rw [pd_cm_s, pd_nv_s, ih (fun x hx => h1 x (by omega)) (fun x y hx => h2 x y (by omega)), h1 k (by omega)]
    cases hv : V k with
    | none => rw [if_pos rfl, if_pos (show pd_e none = -1 from rfl)]
    | some y => rw [if_neg (show ¬ pd_e (some y) = -1 from pd_ne1 (h2 k y (by omega) hv)), if_neg (fun w => nomatch w)]
theorem pd_sc_len {a b : Nat → Int32} {n m : Nat} {V0 : Nat → Option Nat} (hV : pd_ok a b V0 0 n 0 m) : ∀ f i j L K H, (n - i) + (m - j) ≤ f → i ≤ n → j ≤ m → (∀ x y, i ≤ x → x < n → V0 x = some y → j ≤ y) →
    (pd_sc a b n m V0 f i j L K H).1 + pd_nv V0 n = L + (n - i) + (m - j) + pd_nv V0 i := by
  intro f
  induction f with
  | zero =>
    intro i j L K H hf hi hj _
    have e1 : i = n := by omega
    have e2 : j = m := by omega
    subst e1 e2
    show L + pd_nv V0 i = _
    omega
  | succ f ih =>
    intro i j L K H hf hi hj ho
    by_cases c : i < n
    · have s1 := pd_nv_s V0 i
      cases hv : V0 i with
      | none =>
        rw [pd_sc_d c hv, ih (i + 1) j (L + 1) _ _ (by omega) (by omega) hj (fun x y h1 h2 h3 => ho x y (by omega) h2 h3)]
        rw [hv, if_pos rfl] at s1
        omega
      | some y =>
        have hy := ho i y (Nat.le_refl _) c hv
        have hy2 := hV.1 i y (by omega) c hv
        rw [hv, if_neg (fun w => nomatch w)] at s1
        by_cases e : y = j
        · subst e
          rw [pd_sc_k c hv, ih (i + 1) (y + 1) (L + 1) _ _ (by omega) (by omega) (by omega) (fun x z h1 h2 h3 => by have := hV.2 i x y z (by omega) (by omega) h2 hv h3; omega)]
          omega
        · rw [pd_sc_i c hv e, ih i (j + 1) (L + 1) _ _ (by omega) hi (by omega) (fun x z h1 h2 h3 => by
            by_cases ex : x = i
            · subst ex
              rw [hv] at h3
              cases h3
              omega
            · have := hV.2 i x y z (by omega) (by omega) h2 hv h3
              omega)]
          omega
    · by_cases cj : j < m
      · rw [pd_sc_t (by omega) cj, ih i (j + 1) (L + 1) _ _ (by omega) hi (by omega) (fun x y h1 h2 h3 => by omega)]
        omega
      · have e1 : i = n := by omega
        have e2 : j = m := by omega
        subst e1 e2
        rw [pd_sc_0 (Nat.le_refl _) (Nat.le_refl _)]
        show L + pd_nv V0 i = _
        omega
theorem pd_S_len {a b K H : Nat → Int32} {n m : Nat} : (pd_S a b n m K H).1 + pd_nv (pd_V0 a b n m) n = n + m := by
  have := pd_sc_len (a := a) (b := b) (n := n) (m := m) pd_V0_ok (n + m) 0 0 0 K H (by omega) (Nat.zero_le _) (Nat.zero_le _) (fun x y _ _ _ => Nat.zero_le y)
  have e : pd_nv (pd_V0 a b n m) 0 = 0 := rfl
  rw [e] at this
  show (pd_sc a b n m (pd_V0 a b n m) (n + m) 0 0 0 K H).1 + _ = _
  omega
/-! hunks: no start within a run, none between two -/
theorem pd_hc_run {N : Nat → Int32} {L h s e : Nat} (H : pd_HK N L h s e) : pd_hc N e = h + 1 := by
  obtain ⟨h1, h2, h3, h4, h5, h6⟩ := H
  have : ∀ d, s + 1 + d ≤ e → pd_hc N (s + 1 + d) = h + 1 := by
    intro d
    induction d with
    | zero => intro _; show pd_hc N (s + 1) = _; rw [pd_hc_y h3, h4]
    | succ d ih =>
      intro hd
      rw [show s + 1 + (d + 1) = s + 1 + d + 1 by omega, pd_hc_n (fun w => ?_), ih (by omega)]
      rcases w.2 with w2 | w2
      · omega
      · exact h5 (s + 1 + d - 1) (by omega) (by omega) w2
  have := this (e - (s + 1)) (by omega)
  rw [show s + 1 + (e - (s + 1)) = e by omega] at this
  exact this
theorem pd_gapz {N : Nat → Int32} {e0 q1 : Nat} (h : pd_hc N e0 = pd_hc N q1) (h0 : e0 = 0 ∨ N e0 = 0 ∨ q1 ≤ e0) : ∀ d, e0 + d ≤ q1 → ∀ q, e0 ≤ q → q < e0 + d → N q = 0 := by
  intro d
  induction d with
  | zero => intro _ q q1 q2; omega
  | succ d ih =>
    intro hd q hq1 hq2
    by_cases e : q = e0 + d
    · by_cases c : N q = 0
      · exact c
      · have hst : pd_st N q := by
          refine ⟨c, ?_⟩
          by_cases ed : d = 0
          · rcases h0 with w | w | w
            · exact Or.inl (by omega)
            · rw [show q = e0 by omega] at c
              exact absurd w c
            · omega
          · exact Or.inr (ih (by omega) (q - 1) (by omega) (by omega))
        have k1 := pd_hc_y hst
        have k2 := pd_hc_m (N := N) q e0 hq1
        have k3 := pd_hc_m (N := N) q1 (q + 1) (by omega)
        omega
    · exact ih (by omega) q hq1 (by omega)
theorem pd_keep {K : Nat → Int32} {s : Int32} {e0 q1 : Nat} (hs : ¬ (0 : Int32) = s) (hK : ∀ q, e0 ≤ q → q < q1 → K q = 0) : ∀ d, e0 + d ≤ q1 → pd_cs s K (e0 + d) = pd_cs s K e0 + d := by
  intro d
  induction d with
  | zero => intro _; rfl
  | succ d ih =>
    intro hd
    rw [← Nat.add_assoc, pd_cs_s, ih (by omega), hK (e0 + d) (by omega) (by omega), if_neg hs]
    omega
theorem pd_keep_eq {a b K H : Nat → Int32} {L n m e0 q1 : Nat} (hS : pd_SK a b K H L n m) (hK : ∀ q, e0 ≤ q → q < q1 → K q = 0) (hq : q1 ≤ L) {x : Nat} (hx : e0 + x < q1) : a (pd_cs 2 K e0 + x) = b (pd_cs 1 K e0 + x) := by
  have k2 := pd_keep (s := 2) (by decide) hK x (by omega)
  have k1 := pd_keep (s := 1) (by decide) hK x (by omega)
  have h := (hS.2.2.2 (e0 + x) (by omega)).2
  have z := hK (e0 + x) (by omega) hx
  rw [← k2, ← k1, ← h.1 (by rw [z]; decide), ← h.2 (by rw [z]; decide)]
def pd_eP (eH : Nat → Nat) : Nat → Nat
  | 0 => 0
  | h + 1 => eH h
section POA
variable {base a b K Hs N : Nat → Int32} {L n m r H : Nat} {aS aL bS bL sH eH : Nat → Nat}
/-- the hunks of a script, as apply sees them -/
def pd_hx (K N : Nat → Int32) (L H : Nat) (aS aL bS bL sH eH : Nat → Nat) : Prop := ∀ h, h < H → pd_HK N L h (sH h) (eH h) ∧ aS h = pd_cs 2 K (sH h) ∧ aL h = pd_cs 2 K (eH h) - pd_cs 2 K (sH h) ∧ bS h = pd_cs 1 K (sH h) ∧ bL h = pd_cs 1 K (eH h) - pd_cs 1 K (sH h)
theorem pd_eP_le (hH : H = pd_hc N L) (hA : pd_hx K N L H aS aL bS bL sH eH) {h : Nat} (hh : h < H) : pd_eP eH h ≤ sH h ∧ pd_hc N (pd_eP eH h) = h ∧ (pd_eP eH h = 0 ∨ N (pd_eP eH h) = 0) := by
  have h0 := (hA h hh).1
  cases h with
  | zero => exact ⟨Nat.zero_le _, rfl, Or.inl rfl⟩
  | succ h =>
    have h1 := (hA h (by omega)).1
    have hc := pd_hc_run h1
    have hle : eH h ≤ sH (h + 1) := by
      by_cases c : eH h ≤ sH (h + 1)
      · exact c
      · have := pd_hc_m (N := N) (sH (h + 1)) (sH h + 1)
        have k3 := pd_hc_y h1.2.2.1
        by_cases c2 : sH (h + 1) ≤ sH h
        · have k4 := pd_hc_m (N := N) (sH h) (sH (h + 1)) c2
          have k5 := h1.2.2.2.1
          have k6 := h0.2.2.2.1
          omega
        · rcases h0.2.2.1.2 with w | w
          · omega
          · exact absurd w (h1.2.2.2.2.1 (sH (h + 1) - 1) (by omega) (by omega))
    refine ⟨hle, hc, Or.inr ?_⟩
    rcases h1.2.2.2.2.2 with w | w
    · have k1 := h0.1
      have k2 := h0.2.1
      omega
    · exact w
theorem pd_eP_end (hH : H = pd_hc N L) (hA : pd_hx K N L H aS aL bS bL sH eH) : pd_eP eH H ≤ L ∧ pd_hc N (pd_eP eH H) = H ∧ (pd_eP eH H = 0 ∨ N (pd_eP eH H) = 0 ∨ L ≤ pd_eP eH H) := by
  cases H with
  | zero => exact ⟨Nat.zero_le _, rfl, Or.inl rfl⟩
  | succ h =>
    have h1 := (hA h (by omega)).1
    refine ⟨h1.2.1, pd_hc_run h1, ?_⟩
    rcases h1.2.2.2.2.2 with w | w
    · exact Or.inr (Or.inr (by show L ≤ eH h; omega))
    · exact Or.inr (Or.inl w)
/-- onto A every hunk is placed where it was -/
theorem pd_psA (hH : H = pd_hc N L) (hA : pd_hx K N L H aS aL bS bL sH eH) (hS : pd_SK a b K Hs L n m) (hb : ∀ x, x < n → base x = a x) : ∀ h, h ≤ H → ∃ p, pd_ps base a n r aS aL h = some (pd_cs 2 K (pd_eP eH h), p, p) ∧ (h < H → p ≤ aS h) := by
  intro h
  induction h with
  | zero => intro _; exact ⟨0, rfl, fun _ => Nat.zero_le _⟩
  | succ h ih =>
    intro hh
    obtain ⟨p, e1, e2⟩ := ih (by omega)
    have e2 := e2 (by omega)
    obtain ⟨hK, a1, a2, a3, a4⟩ := hA h (by omega)
    have hP := pd_eP_le hH hA (h := h) (by omega)
    have m1 := pd_cs_m (s := 2) (K := K) (sH h) (pd_eP eH h) hP.1
    have m2 := pd_cs_m (s := 2) (K := K) (eH h) (sH h) (by have := hK.1; omega)
    have m3 := pd_cs_m (s := 2) (K := K) L (eH h) hK.2.1
    have m4 := hS.1
    have hF : pd_ft base a n (aS h) (aL h) (pd_cs 2 K (pd_eP eH h)) (aS h) = true := decide_eq_true ⟨by omega, by omega, fun t ht => hb (aS h + t) (by omega)⟩
    have hf : pd_fp (pd_ft base a n (aS h) (aL h) (pd_cs 2 K (pd_eP eH h), p, p).1) (aS h - (pd_cs 2 K (pd_eP eH h), p, p).2.2 + (pd_cs 2 K (pd_eP eH h), p, p).2.1) (r + 1) 0 = some (aS h) := by
      dsimp only
      rw [show aS h - p + p = aS h by omega, pd_fp_s, if_pos ⟨Nat.zero_le _, hF⟩, Nat.sub_zero]
    have e3 := pd_ps_y base a n r aS aL e1 hf
    refine ⟨aS h, ?_, fun hl => ?_⟩
    · rw [e3]
      show some (aS h + aL h, aS h, aS h) = some (pd_cs 2 K (eH h), aS h, aS h)
      rw [show aS h + aL h = pd_cs 2 K (eH h) by omega]
    · have hP2 := pd_eP_le hH hA (h := h + 1) hl
      have hP3 : eH h ≤ sH (h + 1) := hP2.1
      have m5 := pd_cs_m (s := 2) (K := K) (sH (h + 1)) (eH h) hP3
      have a5 := (hA (h + 1) hl).2.1
      omega
theorem pd_ouA (hH : H = pd_hc N L) (hA : pd_hx K N L H aS aL bS bL sH eH) (hS : pd_SK a b K Hs L n m) (hb : ∀ x, x < n → base x = a x) (hN : ∀ q, q < L → N q = 0 → K q = 0) {R : Nat → Int32} : ∀ h, h ≤ H → (pd_ou base b (pd_ps base a n r aS aL) bS bL R h).1 = pd_cs 1 K (pd_eP eH h) ∧ ∀ q, q < pd_cs 1 K (pd_eP eH h) → (pd_ou base b (pd_ps base a n r aS aL) bS bL R h).2 q = b q := by
  intro h
  induction h with
  | zero => intro _; exact ⟨rfl, fun q hq => absurd hq (Nat.not_lt_zero _)⟩
  | succ h ih =>
    intro hh
    obtain ⟨i1, i2⟩ := ih (by omega)
    obtain ⟨hK, a1, a2, a3, a4⟩ := hA h (by omega)
    obtain ⟨p, e1, _⟩ := pd_psA (r := r) hH hA hS hb h (by omega)
    obtain ⟨p', e1', _⟩ := pd_psA (r := r) hH hA hS hb (h + 1) hh
    obtain ⟨s0, Q, f1, f2, f3, f4, f5⟩ := pd_ps_x e1'
    obtain ⟨p2, e2, e2'⟩ := pd_psA (r := r) hH hA hS hb h (by omega)
    have hP := pd_eP_le hH hA (h := h) (by omega)
    have hse := hK.1
    have heL := hK.2.1
    have hz : ∀ q, pd_eP eH h ≤ q → q < sH h → K q = 0 := fun q q1 q2 => hN q (by omega) (pd_gapz (N := N) (e0 := pd_eP eH h) (q1 := sH h) (by rw [hP.2.1, hK.2.2.2.1]) (by rcases hP.2.2 with w | w; exact Or.inl w; exact Or.inr (Or.inl w)) (sH h - pd_eP eH h) (by omega) q q1 (by omega))
    have k2 := pd_keep (s := 2) (by decide) hz (sH h - pd_eP eH h) (by omega)
    have k1 := pd_keep (s := 1) (by decide) hz (sH h - pd_eP eH h) (by omega)
    rw [show pd_eP eH h + (sH h - pd_eP eH h) = sH h by omega] at k1 k2
    have m2 := pd_cs_m (s := 1) (K := K) (eH h) (sH h) (by omega)
    have m3 := pd_cs_m (s := 2) (K := K) L (sH h) (by omega)
    have m4 := hS.1
    have ec : pd_cu (pd_ps base a n r aS aL) h = pd_cs 2 K (pd_eP eH h) := pd_cu_e e1
    have ep : pd_pk (pd_ps base a n r aS aL) h = aS h := by
      have hf := pd_ps_x e1'
      have hp2 := e2' (by omega)
      have hF : pd_ft base a n (aS h) (aL h) (pd_cs 2 K (pd_eP eH h)) (aS h) = true := by
        have m5 := pd_cs_m (s := 2) (K := K) L (eH h) heL
        have m6 := pd_cs_m (s := 2) (K := K) (eH h) (sH h) (by omega)
        exact decide_eq_true ⟨by omega, by omega, fun t ht => hb (aS h + t) (by omega)⟩
      have hf2 : pd_fp (pd_ft base a n (aS h) (aL h) (pd_cs 2 K (pd_eP eH h), p2, p2).1) (aS h - (pd_cs 2 K (pd_eP eH h), p2, p2).2.2 + (pd_cs 2 K (pd_eP eH h), p2, p2).2.1) (r + 1) 0 = some (aS h) := by
        dsimp only
        rw [show aS h - p2 + p2 = aS h by omega, pd_fp_s, if_pos ⟨Nat.zero_le _, hF⟩, Nat.sub_zero]
      rw [pd_pk_e (pd_ps_y base a n r aS aL e2 hf2)]
    have eg : pd_pk (pd_ps base a n r aS aL) h - pd_cu (pd_ps base a n r aS aL) h = sH h - pd_eP eH h := by rw [ep, ec]; omega
    rw [pd_ou_s, eg, ec, i1, a3, a4]
    show pd_cs 1 K (pd_eP eH h) + (sH h - pd_eP eH h) + (pd_cs 1 K (eH h) - pd_cs 1 K (sH h)) = pd_cs 1 K (eH h) ∧ ∀ q, q < pd_cs 1 K (eH h) → pd_cp (pd_cp (pd_ou base b (pd_ps base a n r aS aL) bS bL R h).2 (pd_cs 1 K (pd_eP eH h)) base (pd_cs 2 K (pd_eP eH h)) (sH h - pd_eP eH h)) (pd_cs 1 K (pd_eP eH h) + (sH h - pd_eP eH h)) b (pd_cs 1 K (sH h)) (pd_cs 1 K (eH h) - pd_cs 1 K (sH h)) q = b q
    refine ⟨by omega, fun q hq => ?_⟩
    by_cases c1 : pd_cs 1 K (sH h) ≤ q
    · unfold pd_cp
      rw [if_pos (by omega)]
      exact congrArg b (by omega)
    · by_cases c2 : pd_cs 1 K (pd_eP eH h) ≤ q
      · unfold pd_cp
        rw [if_neg (by omega), if_pos (by omega), hb _ (by omega), pd_keep_eq hS hz (by omega) (by omega)]
        exact congrArg b (by omega)
      · unfold pd_cp
        rw [if_neg (by omega), if_neg (by omega)]
        exact i2 q (by omega)
/-- .. and the result is B -/
theorem pd_resA (hH : H = pd_hc N L) (hA : pd_hx K N L H aS aL bS bL sH eH) (hS : pd_SK a b K Hs L n m) (hb : ∀ x, x < n → base x = a x) (hN : ∀ q, q < L → N q = 0 → K q = 0) {R : Nat → Int32} :
    (pd_ou base b (pd_ps base a n r aS aL) bS bL R H).1 + (n - pd_cu (pd_ps base a n r aS aL) H) = m ∧ ∀ q, q < m → pd_cp (pd_ou base b (pd_ps base a n r aS aL) bS bL R H).2 (pd_ou base b (pd_ps base a n r aS aL) bS bL R H).1 base (pd_cu (pd_ps base a n r aS aL) H) (n - pd_cu (pd_ps base a n r aS aL) H) q = b q := by
  obtain ⟨i1, i2⟩ := pd_ouA (r := r) (R := R) hH hA hS hb hN H (Nat.le_refl _)
  obtain ⟨p, e1, _⟩ := pd_psA (r := r) hH hA hS hb H (Nat.le_refl _)
  have hP := pd_eP_end hH hA
  have ec : pd_cu (pd_ps base a n r aS aL) H = pd_cs 2 K (pd_eP eH H) := pd_cu_e e1
  have hz : ∀ q, pd_eP eH H ≤ q → q < L → K q = 0 := fun q q1 q2 => hN q q2 (pd_gapz (N := N) (e0 := pd_eP eH H) (q1 := L) (by rw [hP.2.1, hH]) hP.2.2 (L - pd_eP eH H) (by omega) q q1 (by omega))
  have k2 := pd_keep (s := 2) (by decide) hz (L - pd_eP eH H) (by omega)
  have k1 := pd_keep (s := 1) (by decide) hz (L - pd_eP eH H) (by omega)
  rw [show pd_eP eH H + (L - pd_eP eH H) = L by omega] at k1 k2
  have m4 := hS.1
  have m5 := hS.2.1
  have eg : n - pd_cu (pd_ps base a n r aS aL) H = L - pd_eP eH H := by rw [ec]; omega
  rw [eg, ec, i1]
  refine ⟨by omega, fun q hq => ?_⟩
  by_cases c2 : pd_cs 1 K (pd_eP eH H) ≤ q
  · unfold pd_cp
    rw [if_pos (by omega), hb _ (by omega), pd_keep_eq hS hz (Nat.le_refl _) (by omega)]
    exact congrArg b (by omega)
  · unfold pd_cp
    rw [if_neg (by omega)]
    exact i2 q (by omega)
end POA
end
section
/-! the object's methods as the law calls them; the state between two steps of the law -/
def pd_DX (n m L : Nat) (xop xht : Int32) (xpa xol xnl xok xoh xoi xhf xhs xho xhp xhn xhm : Nat → Int32) : Prop :=
  xop = nI L ∧ (∀ x, x < n → xpa x = pd_e (pd_V0 xol xnl n m x)) ∧ pd_SK xol xnl xok xoh L n m ∧ xht = nI (pd_hc xoi L) ∧ pd_hI xok xoi L xhf xhs xho xhp xhn xhm ∧ (∀ q, q < L → xoi q = 0 → xok q = 0) ∧ L + pd_cm xpa n = n + m
def pd_BX (c C n m z : Nat) : Prop := 1 ≤ c ∧ c ≤ 32 ∧ C ≤ 3 ∧ n ≤ c ∧ m ≤ c ∧ z ≤ c
/-- v: is the diff of the last diff() still the one; k: its answer -/
def pd_OK (v k : Int32) (u : St2) : Prop := match u with
  | (xcp, xcx, xoc, xnc, xbc, xrc, xhd, xhr, xpc, xop, xht, xgc, xac, xol, xnl, xbl, xrl, xpa, xok, xoh, xoi, xhf, xhs, xho, xhp, xhn, xhm, xtp, xap, xg0, xg1, xg2, xg3, xao, xan, xar, xlc) => ∃ c C n m z L : Nat, xcp = nI c ∧ xcx = nI C ∧ xoc = nI n ∧ xnc = nI m ∧ xbc = nI z ∧ pd_BX c C n m z ∧ (¬ xhd = 0 → pd_DX n m L xop xht xpa xol xnl xok xoh xoi xhf xhs xho xhp xhn xhm) ∧ (¬ v = 0 → ¬ xhd = 0 ∧ k = nI (pd_cm xpa n))
section LME
variable {xcp xcx xoc xnc xbc xrc xhd xhr xpc xop xht xgc xac : Int32} {xol xnl xbl xrl xpa xok xoh xoi xhf xhs xho xhp xhn xhm xtp xap xg0 xg1 xg2 xg3 xao xan xar xlc : Nat → Int32}
variable {c C n m z L : Nat}
theorem pd_okm {v k : Int32} (hB : pd_BX c C n m z) (hD : ¬ xhd = 0 → pd_DX n m L xop xht xpa xol xnl xok xoh xoi xhf xhs xho xhp xhn xhm) (hv : ¬ v = 0 → ¬ xhd = 0 ∧ k = nI (pd_cm xpa n)) : pd_OK v k (nI c, nI C, nI n, nI m, nI z, xrc, xhd, xhr, xpc, xop, xht, xgc, xac, xol, xnl, xbl, xrl, xpa, xok, xoh, xoi, xhf, xhs, xho, xhp, xhn, xhm, xtp, xap, xg0, xg1, xg2, xg3, xao, xan, xar, xlc) :=
  ⟨c, C, n, m, z, L, rfl, rfl, rfl, rfl, rfl, hB, hD, hv⟩
theorem la_len0 {post : Int32 → Prop} (k : post xoc) : wpX_length post (xcp, xcx, xoc, xnc, xbc, xrc, xhd, xhr, xpc, xop, xht, xgc, xac, xol, xnl, xbl, xrl, xpa, xok, xoh, xoi, xhf, xhs, xho, xhp, xhn, xhm, xtp, xap, xg0, xg1, xg2, xg3, xao, xan, xar, xlc) 0 := br_t rfl k
theorem la_len1 {post : Int32 → Prop} (k : post xnc) : wpX_length post (xcp, xcx, xoc, xnc, xbc, xrc, xhd, xhr, xpc, xop, xht, xgc, xac, xol, xnl, xbl, xrl, xpa, xok, xoh, xoi, xhf, xhs, xho, xhp, xhn, xhm, xtp, xap, xg0, xg1, xg2, xg3, xao, xan, xar, xlc) 1 := br_f (by decide) (br_t rfl k)
theorem la_len2 {post : Int32 → Prop} (k : post xbc) : wpX_length post (xcp, xcx, xoc, xnc, xbc, xrc, xhd, xhr, xpc, xop, xht, xgc, xac, xol, xnl, xbl, xrl, xpa, xok, xoh, xoi, xhf, xhs, xho, xhp, xhn, xhm, xtp, xap, xg0, xg1, xg2, xg3, xao, xan, xar, xlc) 2 := br_f (by decide) (br_f (by decide) (br_t rfl k))
theorem la_len3 {post : Int32 → Prop} (h : ¬ xhr = 0) (k : post xrc) : wpX_length post (xcp, xcx, xoc, xnc, xbc, xrc, xhd, xhr, xpc, xop, xht, xgc, xac, xol, xnl, xbl, xrl, xpa, xok, xoh, xoi, xhf, xhs, xho, xhp, xhn, xhm, xtp, xap, xg0, xg1, xg2, xg3, xao, xan, xar, xlc) 3 := br_f (by decide) (br_f (by decide) (br_f (by decide) (br_t rfl (br_f h k))))
theorem la_line0 {post : Int32 → Prop} {i : Nat} (hi : i < n) (hn : n ≤ 32) (k : post (xol i)) : wpX_line post (xcp, xcx, nI n, xnc, xbc, xrc, xhd, xhr, xpc, xop, xht, xgc, xac, xol, xnl, xbl, xrl, xpa, xok, xoh, xoi, xhf, xhs, xho, xhp, xhn, xhm, xtp, xap, xg0, xg1, xg2, xg3, xao, xan, xar, xlc) 0 (nI i) := by
  unfold wpX_line
  dsimp only
  exact br_t rfl (br_f (nI_pos (by omega)) (br_t (nI_lt hi (by omega)) (br_t rfl (And.intro (vp_in_nI (by omega) (by decide)) (by rw [nI_clamp (by omega)]; exact k)))))
theorem la_line1 {post : Int32 → Prop} {i : Nat} (hi : i < m) (hn : m ≤ 32) (k : post (xnl i)) : wpX_line post (xcp, xcx, xoc, nI m, xbc, xrc, xhd, xhr, xpc, xop, xht, xgc, xac, xol, xnl, xbl, xrl, xpa, xok, xoh, xoi, xhf, xhs, xho, xhp, xhn, xhm, xtp, xap, xg0, xg1, xg2, xg3, xao, xan, xar, xlc) 1 (nI i) := by
  unfold wpX_line
  dsimp only
  exact br_f (by decide) (br_t rfl (br_f (nI_pos (by omega)) (br_t (nI_lt hi (by omega)) (br_f (by decide) (br_t rfl (And.intro (vp_in_nI (by omega) (by decide)) (by rw [nI_clamp (by omega)]; exact k)))))))
theorem la_line2 {post : Int32 → Prop} {i : Nat} (hi : i < z) (hn : z ≤ 32) (k : post (xbl i)) : wpX_line post (xcp, xcx, xoc, xnc, nI z, xrc, xhd, xhr, xpc, xop, xht, xgc, xac, xol, xnl, xbl, xrl, xpa, xok, xoh, xoi, xhf, xhs, xho, xhp, xhn, xhm, xtp, xap, xg0, xg1, xg2, xg3, xao, xan, xar, xlc) 2 (nI i) := by
  unfold wpX_line
  dsimp only
  exact br_f (by decide) (br_f (by decide) (br_t rfl (br_f (nI_pos (by omega)) (br_t (nI_lt hi (by omega)) (br_f (by decide) (br_f (by decide) (br_t rfl (And.intro (vp_in_nI (by omega) (by decide)) (by rw [nI_clamp (by omega)]; exact k)))))))))
theorem la_line3 {post : Int32 → Prop} {i o : Nat} (h : ¬ xhr = 0) (hi : i < o) (hn : o ≤ 64) (k : post (xrl i)) : wpX_line post (xcp, xcx, xoc, xnc, xbc, nI o, xhd, xhr, xpc, xop, xht, xgc, xac, xol, xnl, xbl, xrl, xpa, xok, xoh, xoi, xhf, xhs, xho, xhp, xhn, xhm, xtp, xap, xg0, xg1, xg2, xg3, xao, xan, xar, xlc) 3 (nI i) := by
  unfold wpX_line
  dsimp only
  exact br_f (by decide) (br_f (by decide) (br_f (by decide) (br_t rfl (br_f h (br_f (nI_pos (by omega)) (br_t (nI_lt hi (by omega)) (br_f (by decide) (br_f (by decide) (br_f (by decide) (And.intro (vp_in_nI (by omega) (by decide)) (by rw [nI_clamp (by omega)]; exact k)))))))))))
theorem la_add0 {post : Int32 → St2 → Prop} {v : Int32} (hc : c ≤ 32) (hn : n ≤ c) (K1 : n < c → post (nI (n + 1)) (nI c, xcx, nI (n + 1), xnc, xbc, xrc, 0, 0, xpc, xop, xht, xgc, xac, upd xol n v, xnl, xbl, xrl, xpa, xok, xoh, xoi, xhf, xhs, xho, xhp, xhn, xhm, xtp, xap, xg0, xg1, xg2, xg3, xao, xan, xar, xlc)) (K0 : post (-1) (nI c, xcx, nI n, xnc, xbc, xrc, xhd, xhr, xpc, xop, xht, xgc, xac, xol, xnl, xbl, xrl, xpa, xok, xoh, xoi, xhf, xhs, xho, xhp, xhn, xhm, xtp, xap, xg0, xg1, xg2, xg3, xao, xan, xar, xlc)) : wpX_addLine post (nI c, xcx, nI n, xnc, xbc, xrc, xhd, xhr, xpc, xop, xht, xgc, xac, xol, xnl, xbl, xrl, xpa, xok, xoh, xoi, xhf, xhs, xho, xhp, xhn, xhm, xtp, xap, xg0, xg1, xg2, xg3, xao, xan, xar, xlc) 0 v := by
  refine br_f (by decide) (br_t (by decide) (br_t rfl (pk_lt n c (fun h => br_t rfl (And.intro (vp_in_nI (by omega) (by decide)) (nm_r (e' := upd xol n v) (by rw [nI_clamp (by omega)]) (nm_r (nI_1 n) ?_)))) (fun _ => K0))))
  rw [nI_1]
  exact K1 h
theorem la_add1 {post : Int32 → St2 → Prop} {v : Int32} (hc : c ≤ 32) (hn : m ≤ c) (K1 : m < c → post (nI (m + 1)) (nI c, xcx, xoc, nI (m + 1), xbc, xrc, 0, 0, xpc, xop, xht, xgc, xac, xol, upd xnl m v, xbl, xrl, xpa, xok, xoh, xoi, xhf, xhs, xho, xhp, xhn, xhm, xtp, xap, xg0, xg1, xg2, xg3, xao, xan, xar, xlc)) (K0 : post (-1) (nI c, xcx, xoc, nI m, xbc, xrc, xhd, xhr, xpc, xop, xht, xgc, xac, xol, xnl, xbl, xrl, xpa, xok, xoh, xoi, xhf, xhs, xho, xhp, xhn, xhm, xtp, xap, xg0, xg1, xg2, xg3, xao, xan, xar, xlc)) : wpX_addLine post (nI c, xcx, xoc, nI m, xbc, xrc, xhd, xhr, xpc, xop, xht, xgc, xac, xol, xnl, xbl, xrl, xpa, xok, xoh, xoi, xhf, xhs, xho, xhp, xhn, xhm, xtp, xap, xg0, xg1, xg2, xg3, xao, xan, xar, xlc) 1 v := by
  refine br_f (by decide) (br_t (by decide) (br_f (by decide) (br_t rfl (pk_lt m c (fun h => br_f (by decide) (br_t rfl (And.intro (vp_in_nI (by omega) (by decide)) (nm_r (e' := upd xnl m v) (by rw [nI_clamp (by omega)]) (nm_r (nI_1 m) ?_))))) (fun _ => K0)))))
  rw [nI_1]
  exact K1 h
theorem la_add2 {post : Int32 → St2 → Prop} {v : Int32} (hc : c ≤ 32) (hn : z ≤ c) (K1 : z < c → post (nI (z + 1)) (nI c, xcx, xoc, xnc, nI (z + 1), xrc, xhd, 0, xpc, xop, xht, xgc, xac, xol, xnl, upd xbl z v, xrl, xpa, xok, xoh, xoi, xhf, xhs, xho, xhp, xhn, xhm, xtp, xap, xg0, xg1, xg2, xg3, xao, xan, xar, xlc)) (K0 : post (-1) (nI c, xcx, xoc, xnc, nI z, xrc, xhd, xhr, xpc, xop, xht, xgc, xac, xol, xnl, xbl, xrl, xpa, xok, xoh, xoi, xhf, xhs, xho, xhp, xhn, xhm, xtp, xap, xg0, xg1, xg2, xg3, xao, xan, xar, xlc)) : wpX_addLine post (nI c, xcx, xoc, xnc, nI z, xrc, xhd, xhr, xpc, xop, xht, xgc, xac, xol, xnl, xbl, xrl, xpa, xok, xoh, xoi, xhf, xhs, xho, xhp, xhn, xhm, xtp, xap, xg0, xg1, xg2, xg3, xao, xan, xar, xlc) 2 v := by
  refine br_f (by decide) (br_t (by decide) (br_f (by decide) (br_f (by decide) (br_t rfl (pk_lt z c (fun h => br_f (by decide) (br_f (by decide) (And.intro (vp_in_nI (by omega) (by decide)) (nm_r (e' := upd xbl z v) (by rw [nI_clamp (by omega)]) (nm_r (nI_1 z) ?_))))) (fun _ => K0))))))
  rw [nI_1]
  exact K1 h
theorem la_match {post : Int32 → Prop} {i : Nat} (h : ¬ xhd = 0) (hi : i < n) (hn : n ≤ 32) (k : post (xpa i)) : wpX_matchOf post (xcp, xcx, nI n, xnc, xbc, xrc, xhd, xhr, xpc, xop, xht, xgc, xac, xol, xnl, xbl, xrl, xpa, xok, xoh, xoi, xhf, xhs, xho, xhp, xhn, xhm, xtp, xap, xg0, xg1, xg2, xg3, xao, xan, xar, xlc) (nI i) :=
  br_f h (br_f (nI_pos (by omega)) (br_t (nI_lt hi (by omega)) (And.intro (vp_in_nI (by omega) (by decide)) (by rw [nI_clamp (by omega)]; exact k))))
theorem la_slen {post : Int32 → Prop} (h : ¬ xhd = 0) (k : post xop) : wpX_scriptLength post (xcp, xcx, xoc, xnc, xbc, xrc, xhd, xhr, xpc, xop, xht, xgc, xac, xol, xnl, xbl, xrl, xpa, xok, xoh, xoi, xhf, xhs, xho, xhp, xhn, xhm, xtp, xap, xg0, xg1, xg2, xg3, xao, xan, xar, xlc) := br_f h k
theorem la_hcnt {post : Int32 → Prop} (h : ¬ xhd = 0) (k : post xht) : wpX_hunkCount post (xcp, xcx, xoc, xnc, xbc, xrc, xhd, xhr, xpc, xop, xht, xgc, xac, xol, xnl, xbl, xrl, xpa, xok, xoh, xoi, xhf, xhs, xho, xhp, xhn, xhm, xtp, xap, xg0, xg1, xg2, xg3, xao, xan, xar, xlc) := br_f h k
end LME
theorem la_clamp (x l h : Int32) (lo hi : Nat) (hl : l = nI lo) (hh : h = nI hi) (h1 : lo ≤ hi) (h2 : hi < 2 ^ 31) : ∃ c, lo ≤ c ∧ c ≤ hi ∧ (∀ post : Int32 → Prop, post (nI c) → wpX_clamp post () x l h) := by
  subst hl hh
  by_cases c1 : nI lo ≤ x
  · have c0 : ¬ x < 0 := by
      have := nI_pos' (n := lo) (by omega)
      exact Int32.not_lt.mpr (Int32.le_trans this c1)
    obtain ⟨j, hj, rfl⟩ := nI_of c0
    rw [nI_leI (by omega) hj] at c1
    by_cases c2 : nI j ≤ nI hi
    · have c3 := (nI_leI hj (by omega)).mp c2
      exact ⟨j, c1, c3, fun post k => br_t (nI_le c1 hj) (br_t c2 k)⟩
    · exact ⟨hi, h1, Nat.le_refl _, fun post k => br_t (nI_le c1 hj) (br_f c2 k)⟩
  · exact ⟨lo, Nat.le_refl _, h1, fun post k => br_f c1 k⟩
end
section
/-! the law's checks -/
section LAW
variable {xcp xcx xoc xnc xbc xrc xhd xhr xpc xop xht xgc xac : Int32} {xol xnl xbl xrl xpa xok xoh xoi xhf xhs xho xhp xhn xhm xtp xap xg0 xg1 xg2 xg3 xao xan xar xlc : Nat → Int32}
variable {post : Int32 → Prop} {Lq : Nat} {xs : Nat → Int32} {J46 : Int32 → Int32 → Int32 → Int32 → Int32 → Int32 → Int32 → Int32 → Int32 → Int32 → Int32 → Int32 → Int32 → Int32 → Int32 → Int32 → (Nat → Int32) → (Nat → Int32) → (Nat → Int32) → (Nat → Int32) → (Nat → Int32) → (Nat → Int32) → (Nat → Int32) → (Nat → Int32) → (Nat → Int32) → (Nat → Int32) → (Nat → Int32) → (Nat → Int32) → (Nat → Int32) → (Nat → Int32) → (Nat → Int32) → (Nat → Int32) → (Nat → Int32) → (Nat → Int32) → (Nat → Int32) → (Nat → Int32) → (Nat → Int32) → (Nat → Int32) → (Nat → Int32) → (Nat → Int32) → Prop} {t kc ks : Nat} {x2 x4 x6 : Int32} {c C n m z L : Nat}
/-- the result's lines against B's -/
theorem la_443 {k : Int32} (hm : m ≤ 32) (hr : ¬ xhr = 0) (hR : ∀ q, q < m → xrl q = xnl q) (K : J46 x2 k (nI (t + 1)) xcp xcx xoc (nI m) xbc (nI m) xhd xhr xpc xop xht xgc xac xol xnl xbl xrl xpa xok xoh xoi xhf xhs xho xhp xhn xhm xtp xap xg0 xg1 xg2 xg3 xao xan xar xlc) :
    ∀ d j, j + d = m → wL_law_443 post Lq xs J46 x2 k x4 (nI t) (nI m) kc ks xcp xcx xoc (nI m) xbc (nI m) xhd xhr xpc xop xht xgc xac xol xnl xbl xrl xpa xok xoh xoi xhf xhs xho xhp xhn xhm xtp xap xg0 xg1 xg2 xg3 xao xan xar xlc (d + 1) (nI j) := by
  intro d
  induction d with
  | zero =>
    intro j hj
    have ej : j = m := by omega
    subst ej
    exact br_t (nI_le (Nat.le_refl _) (by omega)) (nm_r (nI_1 t) K)
  | succ d ih =>
    intro j hj
    exact br_f (nI_ge (by omega) (by omega)) (la_line3 hr (by omega) (by omega) (la_line1 (by omega) hm (br_t (hR j (by omega)) (nm_r (nI_1 j) (ih (j + 1) (by omega))))))
theorem la_402n {k : Int32} (K : J46 x2 k (nI (t + 1)) xcp xcx xoc xnc xbc xrc xhd xhr xpc xop xht xgc xac xol xnl xbl xrl xpa xok xoh xoi xhf xhs xho xhp xhn xhm xtp xap xg0 xg1 xg2 xg3 xao xan xar xlc) {x11 : Int32} : wL_law_402 post Lq xs J46 x2 k x4 (nI t) x6 x11 0 kc ks xcp xcx xoc xnc xbc xrc xhd xhr xpc xop xht xgc xac xol xnl xbl xrl xpa xok xoh xoi xhf xhs xho xhp xhn xhm xtp xap xg0 xg1 xg2 xg3 xao xan xar xlc := br_t rfl (nm_r (nI_1 t) K)
/-- base is A: apply gives B -/
theorem la_402y {k : Int32} (hB : pd_BX c C n m n) (hd : ¬ xhd = 0) (hD : pd_DX n m L xop xht xpa xol xnl xok xoh xoi xhf xhs xho xhp xhn xhm) (hv : ¬ x2 = 0 → ¬ xhd = 0 ∧ k = nI (pd_cm xpa n)) (hb : ∀ x, x < n → xbl x = xol x) (hJ : ∀ (v k : Int32), ∀ (xcp xcx xoc xnc xbc xrc xhd xhr xpc xop xht xgc xac : Int32) (xol xnl xbl xrl xpa xok xoh xoi xhf xhs xho xhp xhn xhm xtp xap xg0 xg1 xg2 xg3 xao xan xar xlc : Nat → Int32), pd_OK v k (xcp, xcx, xoc, xnc, xbc, xrc, xhd, xhr, xpc, xop, xht, xgc, xac, xol, xnl, xbl, xrl, xpa, xok, xoh, xoi, xhf, xhs, xho, xhp, xhn, xhm, xtp, xap, xg0, xg1, xg2, xg3, xao, xan, xar, xlc) → J46 v k (nI (t + 1)) xcp xcx xoc xnc xbc xrc xhd xhr xpc xop xht xgc xac xol xnl xbl xrl xpa xok xoh xoi xhf xhs xho xhp xhn xhm xtp xap xg0 xg1 xg2 xg3 xao xan xar xlc) :
    wL_law_402 post Lq xs J46 x2 k x4 (nI t) x6 (nI m) 1 kc ks (nI c) (nI C) (nI n) (nI m) (nI n) xrc xhd xhr xpc xop xht xgc xac xol xnl xbl xrl xpa xok xoh xoi xhf xhs xho xhp xhn xhm xtp xap xg0 xg1 xg2 xg3 xao xan xar xlc := by
  obtain ⟨b1, b2, b3, b4, b5, b6⟩ := hB
  have hD' := hD
  obtain ⟨e1, e2, e3, e4, e5, e6, e7⟩ := hD
  subst e1 e4
  obtain ⟨r, _, hr, cX⟩ := la_clamp (x6 >>> ((4 : Int32) &&& 31)) 0 8 0 8 rfl rfl (by decide) (by decide)
  have hL := e3.2.2.1
  have hHL := pd_hc_le (N := xoi) L
  have hx : ∀ x, ∃ p : Nat × Nat, x < pd_hc xoi L → (pd_HK xoi L x p.1 p.2 ∧ xho x = nI (pd_cs 2 xok p.1) ∧ xhp x = nI (pd_cs 2 xok p.2 - pd_cs 2 xok p.1) ∧ xhn x = nI (pd_cs 1 xok p.1) ∧ xhm x = nI (pd_cs 1 xok p.2 - pd_cs 1 xok p.1)) := fun x => by
    by_cases cx : x < pd_hc xoi L
    · obtain ⟨s, e, hK, g1, g2, g3, g4, g5, g6⟩ := e5.1 x cx
      exact ⟨(s, e), fun _ => ⟨hK, g3, g4, g5, g6⟩⟩
    · exact ⟨(0, 0), fun w => absurd w cx⟩
  obtain ⟨f, hf⟩ := Classical.skolem.mp hx
  have hA : pd_hx xok xoi L (pd_hc xoi L) (fun x => pd_cs 2 xok (f x).1) (fun x => pd_cs 2 xok (f x).2 - pd_cs 2 xok (f x).1) (fun x => pd_cs 1 xok (f x).1) (fun x => pd_cs 1 xok (f x).2 - pd_cs 1 xok (f x).1) (fun x => (f x).1) (fun x => (f x).2) := fun x hx => ⟨(hf x hx).1, rfl, rfl, rfl, rfl⟩
  have hG : pd_geo (pd_hc xoi L) n m (fun x => pd_cs 2 xok (f x).1) (fun x => pd_cs 2 xok (f x).2 - pd_cs 2 xok (f x).1) (fun x => pd_cs 1 xok (f x).1) (fun x => pd_cs 1 xok (f x).2 - pd_cs 1 xok (f x).1) := by
    refine ⟨fun x hx => ?_, fun x hx => ?_⟩
    · obtain ⟨hK, _⟩ := hf x hx
      have m1 := pd_cs_m (s := 2) (K := xok) (f x).2 (f x).1 (by have := hK.1; omega)
      have m2 := pd_cs_m (s := 1) (K := xok) (f x).2 (f x).1 (by have := hK.1; omega)
      have m3 := pd_cs_m (s := 2) (K := xok) L (f x).2 hK.2.1
      have m4 := pd_cs_m (s := 1) (K := xok) L (f x).2 hK.2.1
      have m5 := e3.1
      have m6 := e3.2.1
      dsimp only
      omega
    · obtain ⟨hK, _⟩ := hf x (by omega)
      have ho : (f x).2 ≤ (f (x + 1)).1 := (pd_eP_le rfl hA (h := x + 1) hx).1
      have m1 := pd_cs_m (s := 2) (K := xok) (f x).2 (f x).1 (by have := hK.1; omega)
      have m2 := pd_cs_m (s := 1) (K := xok) (f x).2 (f x).1 (by have := hK.1; omega)
      have m3 := pd_cs_m (s := 2) (K := xok) (f (x + 1)).1 (f x).2 ho
      have m4 := pd_cs_m (s := 1) (K := xok) (f (x + 1)).1 (f x).2 ho
      dsimp only
      omega
  generalize eaS : (fun x => pd_cs 2 xok (f x).1) = aS at *
  generalize eaL : (fun x => pd_cs 2 xok (f x).2 - pd_cs 2 xok (f x).1) = aL at *
  generalize ebS : (fun x => pd_cs 1 xok (f x).1) = bS at *
  generalize ebL : (fun x => pd_cs 1 xok (f x).2 - pd_cs 1 xok (f x).1) = bL at *
  have h1 : ∀ x, x < pd_hc xoi L → xho x = nI (aS x) := fun x hx => by rw [(hf x hx).2.1, ← eaS]
  have h2 : ∀ x, x < pd_hc xoi L → xhp x = nI (aL x) := fun x hx => by rw [(hf x hx).2.2.1, ← eaL]
  have h3 : ∀ x, x < pd_hc xoi L → xhn x = nI (bS x) := fun x hx => by rw [(hf x hx).2.2.2.1, ← ebS]
  have h4 : ∀ x, x < pd_hc xoi L → xhm x = nI (bL x) := fun x hx => by rw [(hf x hx).2.2.2.2, ← ebL]
  refine br_f (by decide) (xa_apply (n := n) (m := m) (z := n) (r := r) (H := pd_hc xoi L) (aS := aS) (aL := aL) (bS := bS) (bL := bL) (by omega) (by omega) (by omega) (by omega) hr hd cX hG h2 h1 h3 h4 (fun x T q1 q2 q3 => ?_) (fun A T q1 q2 => ?_))
  · obtain ⟨p, e, _⟩ := pd_psA (r := r) rfl hA e3 hb (x + 1) q1
    rw [q3] at e
    exact nomatch e
  · dsimp only
    obtain ⟨r1, r2⟩ := pd_resA (r := r) (R := xrl) rfl hA e3 hb e6
    rw [r1]
    refine la_hcnt hd (br_t rfl (la_len3 (by decide) (br_t rfl ⟨_, la_443 (by omega) (by decide) r2 ?_ m 0 (by omega)⟩)))
    exact hJ _ _ _ _ _ _ _ _ _ _ _ _ _ _ _ _ _ _ _ _ _ _ _ _ _ _ _ _ _ _ _ _ _ _ _ _ _ _ _ (pd_okm (L := L) ⟨b1, b2, b3, b4, b5, b6⟩ (fun _ => hD') hv)
/-- is base A? -/
theorem la_364 {k : Int32} (hB : pd_BX c C n m z) (hd : ¬ xhd = 0) (hD : pd_DX n m L xop xht xpa xol xnl xok xoh xoi xhf xhs xho xhp xhn xhm) (hv : ¬ x2 = 0 → ¬ xhd = 0 ∧ k = nI (pd_cm xpa n)) (hJ : ∀ (v k : Int32), ∀ (xcp xcx xoc xnc xbc xrc xhd xhr xpc xop xht xgc xac : Int32) (xol xnl xbl xrl xpa xok xoh xoi xhf xhs xho xhp xhn xhm xtp xap xg0 xg1 xg2 xg3 xao xan xar xlc : Nat → Int32), pd_OK v k (xcp, xcx, xoc, xnc, xbc, xrc, xhd, xhr, xpc, xop, xht, xgc, xac, xol, xnl, xbl, xrl, xpa, xok, xoh, xoi, xhf, xhs, xho, xhp, xhn, xhm, xtp, xap, xg0, xg1, xg2, xg3, xao, xan, xar, xlc) → J46 v k (nI (t + 1)) xcp xcx xoc xnc xbc xrc xhd xhr xpc xop xht xgc xac xol xnl xbl xrl xpa xok xoh xoi xhf xhs xho xhp xhn xhm xtp xap xg0 xg1 xg2 xg3 xao xan xar xlc) :
    (∀ d i, wL_law_364 post Lq xs J46 x2 k x4 (nI t) x6 (nI n) (nI m) kc ks (nI c) (nI C) (nI n) (nI m) (nI z) xrc xhd xhr xpc xop xht xgc xac xol xnl xbl xrl xpa xok xoh xoi xhf xhs xho xhp xhn xhm xtp xap xg0 xg1 xg2 xg3 xao xan xar xlc (d + 1) 0 (nI i)) ∧
    (z = n → ∀ d i, i + d = n → (∀ x, x < i → xbl x = xol x) → wL_law_364 post Lq xs J46 x2 k x4 (nI t) x6 (nI n) (nI m) kc ks (nI c) (nI C) (nI n) (nI m) (nI z) xrc xhd xhr xpc xop xht xgc xac xol xnl xbl xrl xpa xok xoh xoi xhf xhs xho xhp xhn xhm xtp xap xg0 xg1 xg2 xg3 xao xan xar xlc (d + 1) 1 (nI i)) := by
  have J0 := hJ x2 k (nI c) (nI C) (nI n) (nI m) (nI z) xrc xhd xhr xpc xop xht xgc xac xol xnl xbl xrl xpa xok xoh xoi xhf xhs xho xhp xhn xhm xtp xap xg0 xg1 xg2 xg3 xao xan xar xlc (pd_okm (L := L) hB (fun _ => hD) hv)
  have N0 : ∀ d i, wL_law_364 post Lq xs J46 x2 k x4 (nI t) x6 (nI n) (nI m) kc ks (nI c) (nI C) (nI n) (nI m) (nI z) xrc xhd xhr xpc xop xht xgc xac xol xnl xbl xrl xpa xok xoh xoi xhf xhs xho xhp xhn xhm xtp xap xg0 xg1 xg2 xg3 xao xan xar xlc (d + 1) 0 (nI i) := fun d i => br_c (fun _ => la_402n J0) (fun _ => br_t rfl (la_402n J0))
  refine ⟨N0, fun ez d => ?_⟩
  subst ez
  have hB' := hB
  obtain ⟨b1, b2, b3, b4, b5, b6⟩ := hB
  induction d with
  | zero =>
    intro i hi hx
    have ei : i = z := by omega
    subst ei
    exact br_t (nI_le (Nat.le_refl _) (by omega)) (la_402y (c := c) (C := C) (n := i) (m := m) (L := L) hB' hd hD hv hx hJ)
  | succ d ih =>
    intro i hi hx
    refine br_f (nI_ge (by omega) (by omega)) (br_f (by decide) (la_line2 (by omega) (by omega) (la_line0 (by omega) (by omega) (br_c (fun e => nm_r (nI_1 i) (ih (i + 1) (by omega) (fun x hx2 => ?_))) (fun e => nm_r (nI_1 i) (N0 d (i + 1)))))))
    by_cases ex : x = i
    · rw [ex]; exact e
    · exact hx x (by omega)
/-- the pairs -/
theorem la_259 (hB : pd_BX c C n m z) (hd : ¬ xhd = 0) (hD : pd_DX n m L xop xht xpa xol xnl xok xoh xoi xhf xhs xho xhp xhn xhm) (hJ : ∀ (v k : Int32), ∀ (xcp xcx xoc xnc xbc xrc xhd xhr xpc xop xht xgc xac : Int32) (xol xnl xbl xrl xpa xok xoh xoi xhf xhs xho xhp xhn xhm xtp xap xg0 xg1 xg2 xg3 xao xan xar xlc : Nat → Int32), pd_OK v k (xcp, xcx, xoc, xnc, xbc, xrc, xhd, xhr, xpc, xop, xht, xgc, xac, xol, xnl, xbl, xrl, xpa, xok, xoh, xoi, xhf, xhs, xho, xhp, xhn, xhm, xtp, xap, xg0, xg1, xg2, xg3, xao, xan, xar, xlc) → J46 v k (nI (t + 1)) xcp xcx xoc xnc xbc xrc xhd xhr xpc xop xht xgc xac xol xnl xbl xrl xpa xok xoh xoi xhf xhs xho xhp xhn xhm xtp xap xg0 xg1 xg2 xg3 xao xan xar xlc) :
    ∀ d i x13, i + d = n → (x13 = -1 ∨ ∃ i' j', i' < i ∧ pd_V0 xol xnl n m i' = some j' ∧ x13 = nI j') → wL_law_259 post Lq xs J46 x2 (nI (pd_cm xpa n)) x4 (nI t) x6 (nI n) (nI m) kc ks (nI c) (nI C) (nI n) (nI m) (nI z) xrc xhd xhr xpc xop xht xgc xac xol xnl xbl xrl xpa xok xoh xoi xhf xhs xho xhp xhn xhm xtp xap xg0 xg1 xg2 xg3 xao xan xar xlc (d + 1) (nI (pd_cm xpa i)) x13 (nI i) := by
  have hB' := hB
  have hD' := hD
  obtain ⟨b1, b2, b3, b4, b5, b6⟩ := hB
  obtain ⟨e1, e2, e3, e4, e5, e6, e7⟩ := hD
  have hV := pd_V0_ok (a := xol) (b := xnl) (n := n) (m := m)
  intro d
  induction d with
  | zero =>
    intro i x13 hi hx
    have ei : i = n := by omega
    subst ei
    obtain ⟨N0, Y0⟩ := la_364 (post := post) (Lq := Lq) (xs := xs) (J46 := J46) (t := t) (kc := kc) (ks := ks) (x2 := x2) (x4 := x4) (x6 := x6) (c := c) (C := C) (n := i) (m := m) (z := z) (L := L) (k := nI (pd_cm xpa i)) (xrc := xrc) (xhd := xhd) (xhr := xhr) (xpc := xpc) (xop := xop) (xht := xht) (xgc := xgc) (xac := xac) (xol := xol) (xnl := xnl) (xbl := xbl) (xrl := xrl) (xpa := xpa) (xok := xok) (xoh := xoh) (xoi := xoi) (xhf := xhf) (xhs := xhs) (xho := xho) (xhp := xhp) (xhn := xhn) (xhm := xhm) (xtp := xtp) (xap := xap) (xg0 := xg0) (xg1 := xg1) (xg2 := xg2) (xg3 := xg3) (xao := xao) (xan := xan) (xar := xar) (xlc := xlc) hB' hd hD' (fun _ => ⟨hd, rfl⟩) hJ
    refine br_t (nI_le (Nat.le_refl _) (by omega)) (br_t rfl (la_slen hd (br_t ?_ (la_len2 (pk_eq z i (fun ez => ⟨_, Y0 ez i 0 (by omega) (fun x hx => absurd hx (Nat.not_lt_zero _))⟩) (fun _ => ⟨_, N0 0 0⟩))))))
    rw [e1, nI_add, pk_sub (by omega)]
    exact congrArg nI (by omega)
  | succ d ih =>
    intro i x13 hi hx
    have ecm := pd_cm_s xpa i
    have eM := e2 i (by omega)
    refine br_f (nI_ge (by omega) (by omega)) (la_match hd (by omega) (by omega) ?_)
    rw [eM]
    cases hv : pd_V0 xol xnl n m i with
    | none =>
      rw [eM, hv, if_pos (show pd_e none = -1 from rfl)] at ecm
      have ecm2 : pd_cm xpa (i + 1) = pd_cm xpa i := by omega
      refine br_t (by decide) (nm_r (nI_1 i) ?_)
      rw [← ecm2]
      refine ih (i + 1) x13 (by omega) ?_
      rcases hx with w | ⟨i', j', w1, w2, w3⟩
      · exact Or.inl w
      · exact Or.inr ⟨i', j', by omega, w2, w3⟩
    | some j =>
      have hj := hV.1 i j (by omega) (by omega) hv
      rw [eM, hv, if_neg (show ¬ pd_e (some j) = -1 from pd_ne1 (by omega))] at ecm
      refine br_f (nI_pos (by omega)) (la_line0 (by omega) (by omega) (la_line1 hj.2.1 (by omega) (br_t hj.2.2 (br_t ?_ (nm_r (nI_1 _) (nm_r (nI_1 i) ?_))))))
      · rcases hx with w | ⟨i', j', w1, w2, w3⟩
        · rw [w]
          exact Int32.lt_of_lt_of_le pd_m1lt (nI_pos' (by omega))
        · rw [w3]
          exact nI_lt (hV.2 i' i j' j (by omega) w1 (by omega) w2 hv) (by omega)
      · rw [← ecm]
        exact ih (i + 1) _ (by omega) (Or.inr ⟨i, j, by omega, hv, rfl⟩)
theorem la_231c (hB : pd_BX c C n m z) (hd : ¬ xhd = 0) (hD : pd_DX n m L xop xht xpa xol xnl xok xoh xoi xhf xhs xho xhp xhn xhm) (hJ : ∀ (v k : Int32), ∀ (xcp xcx xoc xnc xbc xrc xhd xhr xpc xop xht xgc xac : Int32) (xol xnl xbl xrl xpa xok xoh xoi xhf xhs xho xhp xhn xhm xtp xap xg0 xg1 xg2 xg3 xao xan xar xlc : Nat → Int32), pd_OK v k (xcp, xcx, xoc, xnc, xbc, xrc, xhd, xhr, xpc, xop, xht, xgc, xac, xol, xnl, xbl, xrl, xpa, xok, xoh, xoi, xhf, xhs, xho, xhp, xhn, xhm, xtp, xap, xg0, xg1, xg2, xg3, xao, xan, xar, xlc) → J46 v k (nI (t + 1)) xcp xcx xoc xnc xbc xrc xhd xhr xpc xop xht xgc xac xol xnl xbl xrl xpa xok xoh xoi xhf xhs xho xhp xhn xhm xtp xap xg0 xg1 xg2 xg3 xao xan xar xlc) :
    wL_law_231 post Lq xs J46 x2 (nI (pd_cm xpa n)) x4 (nI t) x6 1 kc ks (nI c) (nI C) (nI n) (nI m) (nI z) xrc xhd xhr xpc xop xht xgc xac xol xnl xbl xrl xpa xok xoh xoi xhf xhs xho xhp xhn xhm xtp xap xg0 xg1 xg2 xg3 xao xan xar xlc :=
  br_f (by decide) (la_len0 (la_len1 ⟨_, la_259 hB hd hD hJ n 0 (-1) (by omega) (Or.inl rfl)⟩))
theorem la_231n {k : Int32} {v : Int32} (hO : pd_OK v k (xcp, xcx, xoc, xnc, xbc, xrc, xhd, xhr, xpc, xop, xht, xgc, xac, xol, xnl, xbl, xrl, xpa, xok, xoh, xoi, xhf, xhs, xho, xhp, xhn, xhm, xtp, xap, xg0, xg1, xg2, xg3, xao, xan, xar, xlc)) (hJ : ∀ (v k : Int32), ∀ (xcp xcx xoc xnc xbc xrc xhd xhr xpc xop xht xgc xac : Int32) (xol xnl xbl xrl xpa xok xoh xoi xhf xhs xho xhp xhn xhm xtp xap xg0 xg1 xg2 xg3 xao xan xar xlc : Nat → Int32), pd_OK v k (xcp, xcx, xoc, xnc, xbc, xrc, xhd, xhr, xpc, xop, xht, xgc, xac, xol, xnl, xbl, xrl, xpa, xok, xoh, xoi, xhf, xhs, xho, xhp, xhn, xhm, xtp, xap, xg0, xg1, xg2, xg3, xao, xan, xar, xlc) → J46 v k (nI (t + 1)) xcp xcx xoc xnc xbc xrc xhd xhr xpc xop xht xgc xac xol xnl xbl xrl xpa xok xoh xoi xhf xhs xho xhp xhn xhm xtp xap xg0 xg1 xg2 xg3 xao xan xar xlc) : wL_law_231 post Lq xs J46 v k x4 (nI t) x6 0 kc ks xcp xcx xoc xnc xbc xrc xhd xhr xpc xop xht xgc xac xol xnl xbl xrl xpa xok xoh xoi xhf xhs xho xhp xhn xhm xtp xap xg0 xg1 xg2 xg3 xao xan xar xlc :=
  br_t rfl (nm_r (nI_1 t) (hJ v k xcp xcx xoc xnc xbc xrc xhd xhr xpc xop xht xgc xac xol xnl xbl xrl xpa xok xoh xoi xhf xhs xho xhp xhn xhm xtp xap xg0 xg1 xg2 xg3 xao xan xar xlc hO))
theorem la_221 (hB : pd_BX c C n m z) (hJ : ∀ (v k : Int32), ∀ (xcp xcx xoc xnc xbc xrc xhd xhr xpc xop xht xgc xac : Int32) (xol xnl xbl xrl xpa xok xoh xoi xhf xhs xho xhp xhn xhm xtp xap xg0 xg1 xg2 xg3 xao xan xar xlc : Nat → Int32), pd_OK v k (xcp, xcx, xoc, xnc, xbc, xrc, xhd, xhr, xpc, xop, xht, xgc, xac, xol, xnl, xbl, xrl, xpa, xok, xoh, xoi, xhf, xhs, xho, xhp, xhn, xhm, xtp, xap, xg0, xg1, xg2, xg3, xao, xan, xar, xlc) → J46 v k (nI (t + 1)) xcp xcx xoc xnc xbc xrc xhd xhr xpc xop xht xgc xac xol xnl xbl xrl xpa xok xoh xoi xhf xhs xho xhp xhn xhm xtp xap xg0 xg1 xg2 xg3 xao xan xar xlc) : wL_law_221 post Lq xs J46 x4 (nI t) x6 kc ks (nI c) (nI C) (nI n) (nI m) (nI z) xrc xhd xhr xpc xop xht xgc xac xol xnl xbl xrl xpa xok xoh xoi xhf xhs xho xhp xhn xhm xtp xap xg0 xg1 xg2 xg3 xao xan xar xlc := by
  have hB' := hB
  obtain ⟨b1, b2, b3, b4, b5, b6⟩ := hB
  unfold wL_law_221
  refine xa_diff (n := n) (m := m) (C := C) (by omega) (by omega) b3 (fun M I F S O P B Q G0 G1 G2 G3 AO AN AR T ac gc q1 q2 q3 q4 => ?_)
  dsimp only
  have hlen := pd_S_len (a := xol) (b := xnl) (K := xok) (H := xoh) (n := n) (m := m)
  have hV := pd_V0_ok (a := xol) (b := xnl) (n := n) (m := m)
  rw [← pd_nv_cm n q1 (fun x y hx hy => by have := (hV.1 x y (Nat.zero_le _) hx hy).2.1; omega)] at hlen
  refine la_231c (L := (pd_S xol xnl n m xok xoh).1) hB' (by decide) ⟨rfl, q1, pd_S_ok, rfl, q4, fun q hq hI => ?_, hlen⟩ hJ
  by_cases c0 : (pd_S xol xnl n m xok xoh).2.1 q = 0
  · exact c0
  · have := (q2 q hq).1 (Or.inl c0)
    rw [hI] at this
    exact absurd this (by decide)
end LAW
end
section
/-! a step of the law, its loop, the law -/
section LST
variable {xcp xcx xoc xnc xbc xrc xhd xhr xpc xop xht xgc xac : Int32} {xol xnl xbl xrl xpa xok xoh xoi xhf xhs xho xhp xhn xhm xtp xap xg0 xg1 xg2 xg3 xao xan xar xlc : Nat → Int32}
variable {post : Int32 → Prop} {Lq : Nat} {xs : Nat → Int32} {J46 : Int32 → Int32 → Int32 → Int32 → Int32 → Int32 → Int32 → Int32 → Int32 → Int32 → Int32 → Int32 → Int32 → Int32 → Int32 → Int32 → (Nat → Int32) → (Nat → Int32) → (Nat → Int32) → (Nat → Int32) → (Nat → Int32) → (Nat → Int32) → (Nat → Int32) → (Nat → Int32) → (Nat → Int32) → (Nat → Int32) → (Nat → Int32) → (Nat → Int32) → (Nat → Int32) → (Nat → Int32) → (Nat → Int32) → (Nat → Int32) → (Nat → Int32) → (Nat → Int32) → (Nat → Int32) → (Nat → Int32) → (Nat → Int32) → (Nat → Int32) → (Nat → Int32) → (Nat → Int32) → Prop} {t kc ks : Nat} {x2 x4 x6 : Int32} {c C n m z L : Nat}
theorem la_204 {k x7 : Int32} (hB : pd_BX c C n m z) (hD : ¬ xhd = 0 → pd_DX n m L xop xht xpa xol xnl xok xoh xoi xhf xhs xho xhp xhn xhm) (hv : ¬ x2 = 0 → ¬ xhd = 0 ∧ k = nI (pd_cm xpa n)) (hJ : ∀ (v k : Int32), ∀ (xcp xcx xoc xnc xbc xrc xhd xhr xpc xop xht xgc xac : Int32) (xol xnl xbl xrl xpa xok xoh xoi xhf xhs xho xhp xhn xhm xtp xap xg0 xg1 xg2 xg3 xao xan xar xlc : Nat → Int32), pd_OK v k (xcp, xcx, xoc, xnc, xbc, xrc, xhd, xhr, xpc, xop, xht, xgc, xac, xol, xnl, xbl, xrl, xpa, xok, xoh, xoi, xhf, xhs, xho, xhp, xhn, xhm, xtp, xap, xg0, xg1, xg2, xg3, xao, xan, xar, xlc) → J46 v k (nI (t + 1)) xcp xcx xoc xnc xbc xrc xhd xhr xpc xop xht xgc xac xol xnl xbl xrl xpa xok xoh xoi xhf xhs xho xhp xhn xhm xtp xap xg0 xg1 xg2 xg3 xao xan xar xlc) :
    wL_law_204 post Lq xs J46 x2 k x4 (nI t) x6 x7 kc ks (nI c) (nI C) (nI n) (nI m) (nI z) xrc xhd xhr xpc xop xht xgc xac xol xnl xbl xrl xpa xok xoh xoi xhf xhs xho xhp xhn xhm xtp xap xg0 xg1 xg2 xg3 xao xan xar xlc := by
  refine br_c (fun _ => br_c (fun _ => la_221 hB hJ) (fun h => ?_)) (fun _ => la_221 hB hJ)
  obtain ⟨h1, h2⟩ := hv h
  subst h2
  exact la_231c (L := L) hB h1 (hD h1) hJ
theorem la_71 {k z0 : Int32} (hO : pd_OK x2 k (xcp, xcx, xoc, xnc, xbc, xrc, xhd, xhr, xpc, xop, xht, xgc, xac, xol, xnl, xbl, xrl, xpa, xok, xoh, xoi, xhf, xhs, xho, xhp, xhn, xhm, xtp, xap, xg0, xg1, xg2, xg3, xao, xan, xar, xlc)) (hJ : ∀ (v k : Int32), ∀ (xcp xcx xoc xnc xbc xrc xhd xhr xpc xop xht xgc xac : Int32) (xol xnl xbl xrl xpa xok xoh xoi xhf xhs xho xhp xhn xhm xtp xap xg0 xg1 xg2 xg3 xao xan xar xlc : Nat → Int32), pd_OK v k (xcp, xcx, xoc, xnc, xbc, xrc, xhd, xhr, xpc, xop, xht, xgc, xac, xol, xnl, xbl, xrl, xpa, xok, xoh, xoi, xhf, xhs, xho, xhp, xhn, xhm, xtp, xap, xg0, xg1, xg2, xg3, xao, xan, xar, xlc) → J46 v k (nI (t + 1)) xcp xcx xoc xnc xbc xrc xhd xhr xpc xop xht xgc xac xol xnl xbl xrl xpa xok xoh xoi xhf xhs xho xhp xhn xhm xtp xap xg0 xg1 xg2 xg3 xao xan xar xlc) : wL_law_71 post Lq xs J46 x2 k x4 (nI t) z0 kc ks xcp xcx xoc xnc xbc xrc xhd xhr xpc xop xht xgc xac xol xnl xbl xrl xpa xok xoh xoi xhf xhs xho xhp xhn xhm xtp xap xg0 xg1 xg2 xg3 xao xan xar xlc := by
  obtain ⟨c, C, n, m, z, L, rfl, rfl, rfl, rfl, rfl, hB, hD, hv⟩ := hO
  have hB' := hB
  obtain ⟨b1, b2, b3, b4, b5, b6⟩ := hB
  have le1 : ∀ q : Nat, q < 100 → ¬ nI (q + 1) ≤ 0 := fun q hq => nI_nle (by omega) (by omega)
  have n1 : (-1 : Int32) ≤ 0 := by decide
  have same : pd_OK x2 k (nI c, nI C, nI n, nI m, nI z, xrc, xhd, xhr, xpc, xop, xht, xgc, xac, xol, xnl, xbl, xrl, xpa, xok, xoh, xoi, xhf, xhs, xho, xhp, xhn, xhm, xtp, xap, xg0, xg1, xg2, xg3, xao, xan, xar, xlc) := pd_okm (L := L) hB' hD hv
  have W204 : ∀ x7, wL_law_204 post Lq xs J46 x2 k x4 (nI t) z0 x7 kc ks (nI c) (nI C) (nI n) (nI m) (nI z) xrc xhd xhr xpc xop xht xgc xac xol xnl xbl xrl xpa xok xoh xoi xhf xhs xho xhp xhn xhm xtp xap xg0 xg1 xg2 xg3 xao xan xar xlc := fun x7 => la_204 (L := L) hB' hD hv hJ
  refine nm_e (nm_e (br_c (fun _ => br_c (fun _ => br_c (fun _ => ?_) (fun _ => br_c (fun _ => ?_) (fun _ => br_c (fun _ => br_c (fun _ => ?_) (fun _ => W204 _)) (fun _ => W204 _)))) (fun _ => ?_)) (fun _ => ?_)))
  · refine la_add0 b2 b4 (fun hlt => ?_) ?_
    · dsimp only
      exact br_f (le1 n (by omega)) (la_231n (pd_okm (c := c) (C := C) (n := n + 1) (m := m) (z := z) (L := 0) ⟨b1, b2, b3, hlt, b5, b6⟩ (fun w => absurd rfl w) (fun w => absurd rfl w)) hJ)
    · dsimp only
      exact br_t n1 (la_231n same hJ)
  · refine la_add2 b2 b6 (fun hlt => ?_) ?_
    · dsimp only
      exact la_231n (pd_okm (c := c) (C := C) (n := n) (m := m) (z := z + 1) (L := L) ⟨b1, b2, b3, b4, b5, hlt⟩ hD hv) hJ
    · dsimp only
      exact la_231n same hJ
  · unfold wpX_clear
    dsimp only
    exact la_231n (pd_okm (c := c) (C := C) (n := 0) (m := 0) (z := 0) (L := 0) ⟨b1, b2, b3, Nat.zero_le _, Nat.zero_le _, Nat.zero_le _⟩ (fun w => absurd rfl w) (fun w => absurd rfl w)) hJ
  · refine la_add1 b2 b5 (fun hlt => ?_) ?_
    · dsimp only
      exact br_f (le1 m (by omega)) (la_231n (pd_okm (c := c) (C := C) (n := n) (m := m + 1) (z := z) (L := 0) ⟨b1, b2, b3, b4, hlt, b6⟩ (fun w => absurd rfl w) (fun w => absurd rfl w)) hJ)
    · dsimp only
      exact br_t n1 (la_231n same hJ)
  · refine la_add0 b2 b4 (fun hlt => ?_) ?_
    · dsimp only
      refine br_f (le1 n (by omega)) ?_
      unfold wL_law_110
      refine la_add2 b2 b6 (fun hlt2 => ?_) ?_
      · dsimp only
        exact la_231n (pd_okm (c := c) (C := C) (n := n + 1) (m := m) (z := z + 1) (L := 0) ⟨b1, b2, b3, hlt, b5, hlt2⟩ (fun w => absurd rfl w) (fun w => absurd rfl w)) hJ
      · dsimp only
        exact la_231n (pd_okm (c := c) (C := C) (n := n + 1) (m := m) (z := z) (L := 0) ⟨b1, b2, b3, hlt, b5, b6⟩ (fun w => absurd rfl w) (fun w => absurd rfl w)) hJ
    · dsimp only
      refine br_t n1 ?_
      unfold wL_law_110
      refine la_add2 b2 b6 (fun hlt2 => ?_) ?_
      · dsimp only
        exact la_231n (pd_okm (c := c) (C := C) (n := n) (m := m) (z := z + 1) (L := L) ⟨b1, b2, b3, b4, b5, hlt2⟩ hD hv) hJ
      · dsimp only
        exact la_231n same hJ
end LST
theorem la_46 {post : Int32 → Prop} {Lq e kc ks : Nat} {xs : Nat → Int32} (hL : Lq ≤ 260) (he : e ≤ 260) (K : post 1) : ∀ (d t : Nat) (x2 x3 : Int32) (xcp xcx xoc xnc xbc xrc xhd xhr xpc xop xht xgc xac : Int32) (xol xnl xbl xrl xpa xok xoh xoi xhf xhs xho xhp xhn xhm xtp xap xg0 xg1 xg2 xg3 xao xan xar xlc : Nat → Int32), t + d = e + 1 → pd_OK x2 x3 (xcp, xcx, xoc, xnc, xbc, xrc, xhd, xhr, xpc, xop, xht, xgc, xac, xol, xnl, xbl, xrl, xpa, xok, xoh, xoi, xhf, xhs, xho, xhp, xhn, xhm, xtp, xap, xg0, xg1, xg2, xg3, xao, xan, xar, xlc) → wL_law_46 post Lq xs (nI e) kc ks (d + 1) x2 x3 (nI t) xcp xcx xoc xnc xbc xrc xhd xhr xpc xop xht xgc xac xol xnl xbl xrl xpa xok xoh xoi xhf xhs xho xhp xhn xhm xtp xap xg0 xg1 xg2 xg3 xao xan xar xlc := by
  intro d
  induction d with
  | zero =>
    intro t x2 x3 xcp xcx xoc xnc xbc xrc xhd xhr xpc xop xht xgc xac xol xnl xbl xrl xpa xok xoh xoi xhf xhs xho xhp xhn xhm xtp xap xg0 xg1 xg2 xg3 xao xan xar xlc ht hO
    exact br_t (nI_lt (by omega) (by omega)) K
  | succ d ih =>
    intro t x2 x3 xcp xcx xoc xnc xbc xrc xhd xhr xpc xop xht xgc xac xol xnl xbl xrl xpa xok xoh xoi xhf xhs xho xhp xhn xhm xtp xap xg0 xg1 xg2 xg3 xao xan xar xlc ht hO
    refine br_f (nI_nlt (by omega) (by omega)) (pk_le e t (fun _ => ?_) (fun h => ?_))
    · exact la_71 hO (fun v k xcp xcx xoc xnc xbc xrc xhd xhr xpc xop xht xgc xac xol xnl xbl xrl xpa xok xoh xoi xhf xhs xho xhp xhn xhm xtp xap xg0 xg1 xg2 xg3 xao xan xar xlc hO' => ih (t + 1) v k xcp xcx xoc xnc xbc xrc xhd xhr xpc xop xht xgc xac xol xnl xbl xrl xpa xok xoh xoi xhf xhs xho xhp xhn xhm xtp xap xg0 xg1 xg2 xg3 xao xan xar xlc (by omega) hO')
    · refine pk_le Lq t (fun _ => ?_) (fun h2 => And.intro (vp_in_nI h2 (by omega)) ?_)
      · exact la_71 hO (fun v k xcp xcx xoc xnc xbc xrc xhd xhr xpc xop xht xgc xac xol xnl xbl xrl xpa xok xoh xoi xhf xhs xho xhp xhn xhm xtp xap xg0 xg1 xg2 xg3 xao xan xar xlc hO' => ih (t + 1) v k xcp xcx xoc xnc xbc xrc xhd xhr xpc xop xht xgc xac xol xnl xbl xrl xpa xok xoh xoi xhf xhs xho xhp xhn xhm xtp xap xg0 xg1 xg2 xg3 xao xan xar xlc (by omega) hO')
      · exact la_71 hO (fun v k xcp xcx xoc xnc xbc xrc xhd xhr xpc xop xht xgc xac xol xnl xbl xrl xpa xok xoh xoi xhf xhs xho xhp xhn xhm xtp xap xg0 xg1 xg2 xg3 xao xan xar xlc hO' => ih (t + 1) v k xcp xcx xoc xnc xbc xrc xhd xhr xpc xop xht xgc xac xol xnl xbl xrl xpa xok xoh xoi xhf xhs xho xhp xhn xhm xtp xap xg0 xg1 xg2 xg3 xao xan xar xlc (by omega) hO')
theorem la_cell {post : Int32 → Prop} {Lq t : Nat} {xs : Nat → Int32} (hL : Lq ≤ 260) (ht : t ≤ 260) (K : ∀ r, post r) : wpL_cell post Lq xs () (nI t) :=
  pk_le Lq t (fun _ => K _) (fun h2 => And.intro (vp_in_nI h2 (by omega)) (K _))
theorem i_vc (xs : Nat → Int32) (L : Nat) (hL : L ≤ 260) : wpL_law (fun r => r = 1) L xs := by
  refine la_cell (t := 0) hL (by decide) (fun r2 => la_cell (t := 1) hL (by decide) (fun r3 => ⟨24, 2341, by decide, by decide, ?_⟩))
  obtain ⟨c, c1, c2, cX⟩ := la_clamp (4 + (r2 &&& 31)) 1 32 1 32 rfl rfl (by decide) (by decide)
  obtain ⟨C, d1, d2, dX⟩ := la_clamp (r3 &&& 3) 0 3 0 3 rfl rfl (by decide) (by decide)
  refine And.intro (by decide) (And.intro (by decide) (And.intro (by decide) (And.intro (by decide) (And.intro (by decide) (And.intro (by decide) (And.intro (by decide) (And.intro (by decide) (And.intro (by decide) (And.intro (by decide) (And.intro (by decide) (And.intro (by decide) (And.intro (by decide) (And.intro (by decide) (And.intro (by decide) (And.intro (by decide) (And.intro (by decide) (And.intro (by decide) (And.intro (by decide) (And.intro (by decide) (And.intro (by decide) (And.intro (by decide) (And.intro (by decide) (And.intro (by decide) (And.intro (by decide) (And.intro (by decide) (And.intro (by decide) (And.intro (by decide) (And.intro (by decide) (And.intro (by decide) (And.intro (by decide) (And.intro (by decide) (And.intro (by decide) (And.intro (by decide) (And.intro (by decide) (And.intro (by decide) (And.intro (by decide) (And.intro (by decide) (And.intro (by decide) (And.intro (by decide) (And.intro (by decide) (And.intro (by decide) (And.intro (by decide) (And.intro (by decide) (And.intro (by decide) (And.intro (by decide) (And.intro (by decide) (And.intro (by decide) (cX _ (dX _ ?_)))))))))))))))))))))))))))))))))))))))))))))))))
  dsimp only
  have hO : pd_OK 0 0 (nI c, nI C, 0, 0, 0, 0, 0, 0, 0, 0, 0, 0, 0, (fun _ => 0), (fun _ => 0), (fun _ => 0), (fun _ => 0), (fun _ => 0), (fun _ => 0), (fun _ => 0), (fun _ => 0), (fun _ => 0), (fun _ => 0), (fun _ => 0), (fun _ => 0), (fun _ => 0), (fun _ => 0), (fun _ => 0), (fun _ => 0), (fun _ => 0), (fun _ => 0), (fun _ => 0), (fun _ => 0), (fun _ => 0), (fun _ => 0), (fun _ => 0), (fun _ => 0)) := pd_okm (c := c) (C := C) (n := 0) (m := 0) (z := 0) (L := 0) ⟨c1, c2, d2, Nat.zero_le _, Nat.zero_le _, Nat.zero_le _⟩ (fun w => absurd rfl w) (fun w => absurd rfl w)
  refine pk_le 2 L (fun h => nm_e ⟨_, la_46 (post := fun r => r = 1) hL hL rfl (L - 1) 2 0 0 _ _ _ _ _ _ _ _ _ _ _ _ _ _ _ _ _ _ _ _ _ _ _ _ _ _ _ _ _ _ _ _ _ _ _ _ _ (by omega) hO⟩) (fun h => ⟨_, la_46 (post := fun r => r = 1) (e := 2) hL (by decide) rfl 1 2 0 0 _ _ _ _ _ _ _ _ _ _ _ _ _ _ _ _ _ _ _ _ _ _ _ _ _ _ _ _ _ _ _ _ _ _ _ _ _ (by omega) hO⟩)
end
