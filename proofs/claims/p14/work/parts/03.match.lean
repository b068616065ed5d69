/-! the last place below n with P; the chain from its end; the table; its walk; V -/
def pd_la (P : Nat → Bool) : Nat → Option Nat
  | 0 => none
  | n + 1 => if P n = true then some n else pd_la P n
theorem pd_la_s (P : Nat → Bool) (n : Nat) : pd_la P (n + 1) = if P n = true then some n else pd_la P n := rfl
theorem pd_la_k {P : Nat → Bool} {q : Nat} : ∀ n, pd_la P n = some q → q < n ∧ P q = true := by
  intro n
  induction n with
  | zero => intro h; exact nomatch h
  | succ n ih =>
    intro h
    rw [pd_la_s] at h
    by_cases e : P n = true
    · rw [if_pos e] at h
      cases h
      exact ⟨by omega, e⟩
    · rw [if_neg e] at h
      have := ih h
      exact ⟨by omega, this.2⟩
theorem pd_la_x {P : Nat → Bool} {q : Nat} (hP : P q = true) : ∀ n, q < n → ∃ r, pd_la P n = some r := by
  intro n
  induction n with
  | zero => intro h; omega
  | succ n ih =>
    intro h
    rw [pd_la_s]
    by_cases e : P n = true
    · rw [if_pos e]; exact ⟨n, rfl⟩
    · rw [if_neg e]
      have : q ≠ n := fun z => e (z ▸ hP)
      exact ih (by omega)
theorem pd_la_c {P : Nat → Bool} {m : Nat} : ∀ n, m ≤ n → (∀ r, m ≤ r → r < n → ¬ P r = true) → pd_la P n = pd_la P m := by
  intro n
  induction n with
  | zero => intro h _; have : m = 0 := by omega
            subst this; rfl
  | succ n ih =>
    intro h hr
    by_cases e : m = n + 1
    · subst e; rfl
    · rw [pd_la_s, if_neg (hr n (by omega) (by omega))]
      exact ih (by omega) (fun r h1 h2 => hr r h1 (by omega))
def pd_Q (ao aj rk : Nat → Nat) (c : Option Nat) (l q : Nat) : Bool :=
  match c with
  | none => decide (rk q = l)
  | some c => decide (rk q = l ∧ ao q < ao c ∧ aj q < aj c)
/-- the chain's d-th anchor from its end -/
def pd_cd (ao aj rk : Nat → Nat) (na K : Nat) : Nat → Option Nat
  | 0 => pd_la (pd_Q ao aj rk none K) na
  | d + 1 => pd_la (pd_Q ao aj rk (pd_cd ao aj rk na K d) (K - (d + 1))) na
theorem pd_cd_s (ao aj rk : Nat → Nat) (na K d : Nat) : pd_cd ao aj rk na K (d + 1) = pd_la (pd_Q ao aj rk (pd_cd ao aj rk na K d) (K - (d + 1))) na := rfl
/-- what is known of ranks -/
def pd_RK (ao aj rk : Nat → Nat) (na K : Nat) : Prop :=
  1 ≤ K ∧ (∃ p, p < na ∧ rk p = K) ∧ (∀ p, p < na → 1 ≤ rk p) ∧ (∀ p l, p < na → 1 ≤ l → rk p = l + 1 → ∃ q, q < p ∧ aj q < aj p ∧ rk q = l) ∧ (∀ p q, p < q → q < na → ao p < ao q)
theorem pd_cd_k {ao aj rk : Nat → Nat} {na K : Nat} (h : pd_RK ao aj rk na K) : ∀ d, d < K → ∃ c, pd_cd ao aj rk na K d = some c ∧ c < na ∧ rk c = K - d := by
  obtain ⟨h1, ⟨p, hp, hpk⟩, h3, h4, h5⟩ := h
  intro d
  induction d with
  | zero =>
    intro _
    obtain ⟨r, hr⟩ := pd_la_x (P := pd_Q ao aj rk none K) (q := p) (decide_eq_true hpk) na hp
    obtain ⟨k1, k2⟩ := pd_la_k na hr
    exact ⟨r, hr, k1, of_decide_eq_true k2⟩
  | succ d ih =>
    intro hd
    obtain ⟨c, hc, hcn, hck⟩ := ih (by omega)
    obtain ⟨q, q1, q2, q3⟩ := h4 c (K - (d + 1)) hcn (by omega) (by omega)
    rw [pd_cd_s, hc]
    obtain ⟨r, hr⟩ := pd_la_x (P := pd_Q ao aj rk (some c) (K - (d + 1))) (q := q) (decide_eq_true ⟨q3, h5 q c q1 hcn, q2⟩) na (by omega)
    obtain ⟨k1, k2⟩ := pd_la_k na hr
    have := of_decide_eq_true k2
    exact ⟨r, hr, k1, by omega⟩
theorem pd_cd_d {ao aj rk : Nat → Nat} {na K d c e : Nat} (hc : pd_cd ao aj rk na K d = some c) (he : pd_cd ao aj rk na K (d + 1) = some e) : ao e < ao c ∧ aj e < aj c := by
  rw [pd_cd_s, hc] at he
  have := of_decide_eq_true (pd_la_k na he).2
  exact this.2
/-- the table of common lengths, by the distances from the ends -/
def pd_Tr (b : Nat → Int32) (bh : Nat) (prev : Nat → Nat) (x : Int32) : Nat → Nat
  | 0 => 0
  | e + 1 => if x = b (bh - (e + 1)) then prev e + 1 else if pd_Tr b bh prev x e ≤ prev (e + 1) then prev (e + 1) else pd_Tr b bh prev x e
def pd_T (a b : Nat → Int32) (ah bh : Nat) : Nat → Nat → Nat
  | 0 => fun _ => 0
  | d + 1 => pd_Tr b bh (pd_T a b ah bh d) (a (ah - (d + 1)))
theorem pd_T_0 (a b : Nat → Int32) (ah bh d : Nat) : pd_T a b ah bh d 0 = 0 := by
  cases d <;> rfl
theorem pd_T_s (a b : Nat → Int32) (ah bh d e : Nat) : pd_T a b ah bh (d + 1) (e + 1) = if a (ah - (d + 1)) = b (bh - (e + 1)) then pd_T a b ah bh d e + 1 else if pd_T a b ah bh (d + 1) e ≤ pd_T a b ah bh d (e + 1) then pd_T a b ah bh d (e + 1) else pd_T a b ah bh (d + 1) e := rfl
theorem pd_T_le {a b : Nat → Int32} {ah bh : Nat} : ∀ d e, pd_T a b ah bh d e ≤ d := by
  intro d
  induction d with
  | zero => intro e; exact Nat.le_refl 0
  | succ d ih =>
    intro e
    induction e with
    | zero => rw [pd_T_0]; omega
    | succ e ie =>
      rw [pd_T_s]
      have h1 := ih e
      have h2 := ih (e + 1)
      split
      · omega
      · split <;> omega
def pd_lm (a b : Nat → Int32) (ah bh : Nat) : Nat → Nat → Nat → Nat → Option Nat
  | 0, _, _, _ => none
  | f + 1, i, j, x => if i < ah ∧ j < bh then (if a i = b j then (if x = i then some j else pd_lm a b ah bh f (i + 1) (j + 1) x) else if pd_T a b ah bh (ah - i) (bh - (j + 1)) ≤ pd_T a b ah bh (ah - (i + 1)) (bh - j) then pd_lm a b ah bh f (i + 1) j x else pd_lm a b ah bh f i (j + 1) x) else none
theorem pd_lm_s (a b : Nat → Int32) (ah bh f i j x : Nat) : pd_lm a b ah bh (f + 1) i j x = if i < ah ∧ j < bh then (if a i = b j then (if x = i then some j else pd_lm a b ah bh f (i + 1) (j + 1) x) else if pd_T a b ah bh (ah - i) (bh - (j + 1)) ≤ pd_T a b ah bh (ah - (i + 1)) (bh - j) then pd_lm a b ah bh f (i + 1) j x else pd_lm a b ah bh f i (j + 1) x) else none := rfl
/-- what a matching of the gap keeps: its range, equal lines, rising -/
def pd_ok (a b : Nat → Int32) (F : Nat → Option Nat) (al ah bl bh : Nat) : Prop :=
  (∀ i j, al ≤ i → i < ah → F i = some j → bl ≤ j ∧ j < bh ∧ a i = b j) ∧ (∀ i i' j j', al ≤ i → i < i' → i' < ah → F i = some j → F i' = some j' → j < j')
theorem pd_ok_n {a b : Nat → Int32} {F : Nat → Option Nat} {al ah bl bh : Nat} (h : ∀ x, al ≤ x → x < ah → F x = none) : pd_ok a b F al ah bl bh :=
  ⟨fun i j h1 h2 h3 => by rw [h i h1 h2] at h3; exact (nomatch h3), fun i i' j j' h1 h2 h3 h4 _ => by rw [h i h1 (by omega)] at h4; exact (nomatch h4)⟩
theorem pd_ok_g {a b : Nat → Int32} {F : Nat → Option Nat} {al x ah bl y bh : Nat} (hb : bl ≤ y) (hb2 : y ≤ bh) (h : pd_ok a b F al x bl y) (k : pd_ok a b F x ah y bh) : pd_ok a b F al ah bl bh := by
  refine ⟨fun i j h1 h2 h3 => ?_, fun i i' j j' h1 h2 h3 h4 h5 => ?_⟩
  · by_cases e : i < x
    · have := h.1 i j h1 e h3
      exact ⟨this.1, by omega, this.2.2⟩
    · have := k.1 i j (by omega) h2 h3
      exact ⟨by omega, this.2.1, this.2.2⟩
  · by_cases e : i < x
    · by_cases e' : i' < x
      · exact h.2 i i' j j' h1 h2 e' h4 h5
      · have p := h.1 i j h1 e h4
        have q := k.1 i' j' (by omega) h3 h5
        omega
    · exact k.2 i i' j j' (by omega) h2 h3 h4 h5
theorem pd_ok_1 {a b : Nat → Int32} {F : Nat → Option Nat} {x y : Nat} (hF : F x = some y) (h : a x = b y) : pd_ok a b F x (x + 1) y (y + 1) := by
  refine ⟨fun i j h1 h2 h3 => ?_, fun i i' j j' h1 h2 h3 h4 h5 => by omega⟩
  have e : i = x := by omega
  subst e
  rw [hF] at h3
  cases h3
  exact ⟨by omega, by omega, h⟩
theorem pd_ok_w {a b : Nat → Int32} {F : Nat → Option Nat} {al ah bl bh bl' bh' : Nat} (hb : bl' ≤ bl) (hb2 : bh ≤ bh') (h : pd_ok a b F al ah bl bh) : pd_ok a b F al ah bl' bh' :=
  ⟨fun i j h1 h2 h3 => by have := h.1 i j h1 h2 h3; exact ⟨by omega, by omega, this.2.2⟩, h.2⟩
theorem pd_ok_c {a b : Nat → Int32} {F G : Nat → Option Nat} {al ah bl bh : Nat} (e : ∀ x, al ≤ x → x < ah → F x = G x) (h : pd_ok a b G al ah bl bh) : pd_ok a b F al ah bl bh :=
  ⟨fun i j h1 h2 h3 => h.1 i j h1 h2 (by rw [← e i h1 h2]; exact h3), fun i i' j j' h1 h2 h3 h4 h5 => h.2 i i' j j' h1 h2 h3 (by rw [← e i h1 (by omega)]; exact h4) (by rw [← e i' (by omega) h3]; exact h5)⟩
theorem pd_lm_lo {a b : Nat → Int32} {ah bh : Nat} : ∀ f i j x y, pd_lm a b ah bh f i j x = some y → i ≤ x := by
  intro f
  induction f with
  | zero => intro i j x y h; exact nomatch h
  | succ f ih =>
    intro i j x y h
    rw [pd_lm_s] at h
    split at h
    · split at h
      · split at h
        · omega
        · have := ih _ _ _ _ h; omega
      · split at h
        · have := ih _ _ _ _ h; omega
        · exact ih _ _ _ _ h
    · exact nomatch h
theorem pd_lm_ok {a b : Nat → Int32} {ah bh : Nat} : ∀ f i j, i ≤ ah → j ≤ bh → pd_ok a b (pd_lm a b ah bh f i j) i ah j bh := by
  intro f
  induction f with
  | zero => intro i j _ _; exact pd_ok_n (fun x _ _ => rfl)
  | succ f ih =>
    intro i j hi hj
    by_cases c : i < ah ∧ j < bh
    · by_cases e : a i = b j
      · have hF : ∀ x, pd_lm a b ah bh (f + 1) i j x = if x = i then some j else pd_lm a b ah bh f (i + 1) (j + 1) x := fun x => by rw [pd_lm_s, if_pos c, if_pos e]
        refine pd_ok_g (x := i + 1) (y := j + 1) (by omega) (by omega) (pd_ok_1 (by rw [hF, if_pos rfl]) e) (pd_ok_c (fun x h1 _ => ?_) (ih (i + 1) (j + 1) (by omega) (by omega)))
        rw [hF, if_neg (by omega)]
      · by_cases t : pd_T a b ah bh (ah - i) (bh - (j + 1)) ≤ pd_T a b ah bh (ah - (i + 1)) (bh - j)
        · have hF : ∀ x, pd_lm a b ah bh (f + 1) i j x = pd_lm a b ah bh f (i + 1) j x := fun x => by rw [pd_lm_s, if_pos c, if_neg e, if_pos t]
          refine pd_ok_g (x := i + 1) (y := j) (by omega) (by omega) (pd_ok_n (fun x h1 h2 => ?_)) (pd_ok_c (fun x _ _ => hF x) (ih (i + 1) j (by omega) hj))
          rw [hF]
          cases hx : pd_lm a b ah bh f (i + 1) j x with
          | none => rfl
          | some y => have := pd_lm_lo _ _ _ _ _ hx; omega
        · have hF : ∀ x, pd_lm a b ah bh (f + 1) i j x = pd_lm a b ah bh f i (j + 1) x := fun x => by rw [pd_lm_s, if_pos c, if_neg e, if_neg t]
          exact pd_ok_w (by omega) (by omega) (pd_ok_c (fun x _ _ => hF x) (ih i (j + 1) hi (by omega)))
    · refine pd_ok_n (fun x _ _ => ?_)
      rw [pd_lm_s, if_neg c]
