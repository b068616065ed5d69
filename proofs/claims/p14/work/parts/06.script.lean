/-! the script, step by step: kinds K and lines H behind L ops, lines i of A and j of B used -/
def pd_sc (a b : Nat → Int32) (n m : Nat) (V0 : Nat → Option Nat) : Nat → Nat → Nat → Nat → (Nat → Int32) → (Nat → Int32) → Nat × (Nat → Int32) × (Nat → Int32)
  | 0, _, _, L, K, H => (L, K, H)
  | f + 1, i, j, L, K, H =>
    if i < n then
      (if V0 i = none then pd_sc a b n m V0 f (i + 1) j (L + 1) (upd K L 1) (upd H L (a i))
      else if V0 i = some j then pd_sc a b n m V0 f (i + 1) (j + 1) (L + 1) (upd K L 0) (upd H L (a i))
      else pd_sc a b n m V0 f i (j + 1) (L + 1) (upd K L 2) (upd H L (b j)))
    else if j < m then pd_sc a b n m V0 f i (j + 1) (L + 1) (upd K L 2) (upd H L (b j))
    else (L, K, H)
section PDS
variable {a b : Nat → Int32} {n m : Nat} {V0 : Nat → Option Nat} {K H : Nat → Int32} {f i j L : Nat}
theorem pd_sc_d (hi : i < n) (hV : V0 i = none) : pd_sc a b n m V0 (f + 1) i j L K H = pd_sc a b n m V0 f (i + 1) j (L + 1) (upd K L 1) (upd H L (a i)) := by
  rw [pd_sc, if_pos hi, if_pos hV]
theorem pd_sc_k (hi : i < n) (hV : V0 i = some j) : pd_sc a b n m V0 (f + 1) i j L K H = pd_sc a b n m V0 f (i + 1) (j + 1) (L + 1) (upd K L 0) (upd H L (a i)) := by
  rw [pd_sc, if_pos hi, if_neg (by rw [hV]; exact fun z => nomatch z), if_pos hV]
theorem pd_sc_i {y : Nat} (hi : i < n) (hV : V0 i = some y) (hy : y ≠ j) : pd_sc a b n m V0 (f + 1) i j L K H = pd_sc a b n m V0 f i (j + 1) (L + 1) (upd K L 2) (upd H L (b j)) := by
  rw [pd_sc, if_pos hi, if_neg (by rw [hV]; exact fun z => nomatch z), if_neg (by rw [hV]; intro z; cases z; exact hy rfl)]
theorem pd_sc_t (hi : n ≤ i) (hj : j < m) : pd_sc a b n m V0 (f + 1) i j L K H = pd_sc a b n m V0 f i (j + 1) (L + 1) (upd K L 2) (upd H L (b j)) := by
  rw [pd_sc, if_neg (by omega), if_pos hj]
theorem pd_sc_0 (hi : n ≤ i) (hj : m ≤ j) : pd_sc a b n m V0 f i j L K H = (L, K, H) := by
  cases f with
  | zero => rfl
  | succ f => rw [pd_sc, if_neg (by omega), if_neg (by omega)]
end PDS
/-- how many of the first q ops are of another kind than s -/
def pd_cs (s : Int32) (K : Nat → Int32) : Nat → Nat
  | 0 => 0
  | q + 1 => pd_cs s K q + if K q = s then 0 else 1
theorem pd_cs_s (s : Int32) (K : Nat → Int32) (q : Nat) : pd_cs s K (q + 1) = pd_cs s K q + if K q = s then 0 else 1 := rfl
theorem pd_cs_u {s : Int32} {K : Nat → Int32} {L : Nat} {x : Int32} : ∀ q, q ≤ L → pd_cs s (upd K L x) q = pd_cs s K q := by
  intro q
  induction q with
  | zero => intro _; rfl
  | succ q ih =>
    intro h
    rw [pd_cs_s, pd_cs_s, ih (by omega), pk_un (by omega)]
theorem pd_cs_p {s : Int32} {K : Nat → Int32} {L : Nat} {x : Int32} : pd_cs s (upd K L x) (L + 1) = pd_cs s K L + if x = s then 0 else 1 := by
  rw [pd_cs_s, pd_cs_u L (Nat.le_refl L), pk_us]
theorem pd_cs_m {s : Int32} {K : Nat → Int32} : ∀ r q, q ≤ r → pd_cs s K q ≤ pd_cs s K r := by
  intro r
  induction r with
  | zero => intro q h; have : q = 0 := by omega
            subst this; exact Nat.le_refl _
  | succ r ih =>
    intro q h
    by_cases e : q = r + 1
    · subst e; exact Nat.le_refl _
    · have := ih q (by omega)
      rw [pd_cs_s]; omega
theorem pd_cs_le {s : Int32} {K : Nat → Int32} : ∀ q, pd_cs s K q ≤ q := by
  intro q
  induction q with
  | zero => exact Nat.le_refl 0
  | succ q ih => rw [pd_cs_s]; split <;> omega
theorem pd_cs_d {s : Int32} {K : Nat → Int32} {q : Nat} : ∀ k, pd_cs s K (q + k) ≤ pd_cs s K q + k := by
  intro k
  induction k with
  | zero => exact Nat.le_refl _
  | succ k ih => rw [← Nat.add_assoc, pd_cs_s]; split <;> omega
/-- what is known of a script of L ops -/
def pd_SK (a b : Nat → Int32) (K H : Nat → Int32) (L i j : Nat) : Prop :=
  pd_cs 2 K L = i ∧ pd_cs 1 K L = j ∧ L ≤ i + j ∧ ∀ q, q < L → (K q = 0 ∨ K q = 1 ∨ K q = 2) ∧ (¬ K q = 2 → H q = a (pd_cs 2 K q)) ∧ (¬ K q = 1 → H q = b (pd_cs 1 K q))
theorem pd_SK_p {a b K H : Nat → Int32} {L i j i' j' : Nat} {x y : Int32} (h : pd_SK a b K H L i j) (hx : x = 0 ∨ x = 1 ∨ x = 2) (h2 : ¬ x = 2 → y = a i) (h1 : ¬ x = 1 → y = b j) (hi : i' = i + if x = 2 then 0 else 1) (hj : j' = j + if x = 1 then 0 else 1) : pd_SK a b (upd K L x) (upd H L y) (L + 1) i' j' := by
  obtain ⟨k1, k2, k3, k4⟩ := h
  refine ⟨by rw [pd_cs_p, k1, hi], by rw [pd_cs_p, k2, hj], ?_, fun q hq => ?_⟩
  · rcases hx with e | e | e
    · subst e; rw [if_neg (by decide)] at hi hj; omega
    · subst e; rw [if_neg (by decide)] at hi; rw [if_pos rfl] at hj; omega
    · subst e; rw [if_pos rfl] at hi; rw [if_neg (by decide)] at hj; omega
  · by_cases e : q = L
    · subst e
      rw [pk_us, pk_us, pd_cs_u q (Nat.le_refl q), pd_cs_u q (Nat.le_refl q), k1, k2]
      exact ⟨hx, h2, h1⟩
    · rw [pk_un e, pk_un e, pd_cs_u q (by omega), pd_cs_u q (by omega)]
      exact k4 q (by omega)
theorem pd_sc_ok {a b : Nat → Int32} {n m : Nat} {V0 : Nat → Option Nat} (hV : pd_ok a b V0 0 n 0 m) : ∀ f i j L K H, (n - i) + (m - j) ≤ f → i ≤ n → j ≤ m → (∀ x y, i ≤ x → x < n → V0 x = some y → j ≤ y) → pd_SK a b K H L i j →
    pd_SK a b (pd_sc a b n m V0 f i j L K H).2.1 (pd_sc a b n m V0 f i j L K H).2.2 (pd_sc a b n m V0 f i j L K H).1 n m := by
  intro f
  induction f with
  | zero =>
    intro i j L K H hf hi hj _ hS
    have e1 : i = n := by omega
    have e2 : j = m := by omega
    subst e1 e2
    exact hS
  | succ f ih =>
    intro i j L K H hf hi hj ho hS
    by_cases c : i < n
    · cases hv : V0 i with
      | none =>
        rw [pd_sc_d c hv]
        exact ih (i + 1) j (L + 1) _ _ (by omega) (by omega) hj (fun x y h1 h2 h3 => ho x y (by omega) h2 h3) (pd_SK_p hS (Or.inr (Or.inl rfl)) (fun _ => rfl) (fun z => absurd rfl z) (by rw [if_neg (by decide)]) (by rw [if_pos rfl]; omega))
      | some y =>
        have hy := ho i y (Nat.le_refl _) c hv
        have hy2 := hV.1 i y (by omega) c hv
        by_cases e : y = j
        · subst e
          rw [pd_sc_k c hv]
          exact ih (i + 1) (y + 1) (L + 1) _ _ (by omega) (by omega) (by omega) (fun x z h1 h2 h3 => by have := hV.2 i x y z (by omega) (by omega) h2 hv h3; omega) (pd_SK_p hS (Or.inl rfl) (fun _ => rfl) (fun _ => hy2.2.2) (by rw [if_neg (by decide)]) (by rw [if_neg (by decide)]))
        · rw [pd_sc_i c hv e]
          refine ih i (j + 1) (L + 1) _ _ (by omega) hi (by omega) (fun x z h1 h2 h3 => ?_) (pd_SK_p hS (Or.inr (Or.inr rfl)) (fun z => absurd rfl z) (fun _ => rfl) (by rw [if_pos rfl]; omega) (by rw [if_neg (by decide)]))
          by_cases ex : x = i
          · subst ex
            rw [hv] at h3
            cases h3
            omega
          · have := hV.2 i x y z (by omega) (by omega) h2 hv h3
            omega
    · by_cases cj : j < m
      · rw [pd_sc_t (by omega) cj]
        exact ih i (j + 1) (L + 1) _ _ (by omega) hi (by omega) (fun x y h1 h2 h3 => by omega) (pd_SK_p hS (Or.inr (Or.inr rfl)) (fun z => absurd rfl z) (fun _ => rfl) (by rw [if_pos rfl]; omega) (by rw [if_neg (by decide)]))
      · have e1 : i = n := by omega
        have e2 : j = m := by omega
        subst e1 e2
        rw [pd_sc_0 (Nat.le_refl _) (Nat.le_refl _)]
        exact hS
theorem pd_SK_0 {a b K H : Nat → Int32} : pd_SK a b K H 0 0 0 := ⟨rfl, rfl, Nat.le_refl 0, fun q h => absurd h (Nat.not_lt_zero _)⟩
/-! which ops are included -/
def pd_bf (K : Nat → Int32) (C p : Nat) : Prop := ∃ q, q < p ∧ p ≤ q + C ∧ ¬ K q = 0
def pd_af (K : Nat → Int32) (C L p : Nat) : Prop := ∃ q, p < q ∧ q < L ∧ q ≤ p + C ∧ ¬ K q = 0
def pd_nc (K : Nat → Int32) (C L p : Nat) : Prop := ¬ K p = 0 ∨ pd_bf K C p ∨ pd_af K C L p
/-! hunks: where they begin, how many begin before p -/
def pd_st (N : Nat → Int32) (p : Nat) : Prop := ¬ N p = 0 ∧ (p = 0 ∨ N (p - 1) = 0)
def pd_hc (N : Nat → Int32) : Nat → Nat
  | 0 => 0
  | p + 1 => pd_hc N p + if ¬ N p = 0 ∧ (p = 0 ∨ N (p - 1) = 0) then 1 else 0
theorem pd_hc_s (N : Nat → Int32) (p : Nat) : pd_hc N (p + 1) = pd_hc N p + if ¬ N p = 0 ∧ (p = 0 ∨ N (p - 1) = 0) then 1 else 0 := rfl
theorem pd_hc_y {N : Nat → Int32} {p : Nat} (h : pd_st N p) : pd_hc N (p + 1) = pd_hc N p + 1 := by
  rw [pd_hc_s]
  exact congrArg _ (if_pos h)
theorem pd_hc_n {N : Nat → Int32} {p : Nat} (h : ¬ pd_st N p) : pd_hc N (p + 1) = pd_hc N p := by
  rw [pd_hc_s]
  exact congrArg (pd_hc N p + ·) (if_neg h)
theorem pd_hc_m {N : Nat → Int32} : ∀ r q, q ≤ r → pd_hc N q ≤ pd_hc N r := by
  intro r
  induction r with
  | zero => intro q h; have : q = 0 := by omega
            subst this; exact Nat.le_refl _
  | succ r ih =>
    intro q h
    by_cases e : q = r + 1
    · subst e; exact Nat.le_refl _
    · have := ih q (by omega)
      rw [pd_hc_s]; omega
theorem pd_hc_le {N : Nat → Int32} : ∀ q, pd_hc N q ≤ q := by
  intro q
  induction q with
  | zero => exact Nat.le_refl 0
  | succ q ih => rw [pd_hc_s]; split <;> omega
/-- hunk h is the ops s .. e - 1 (of the first L) -/
def pd_HK (N : Nat → Int32) (L h s e : Nat) : Prop := s < e ∧ e ≤ L ∧ pd_st N s ∧ pd_hc N s = h ∧ (∀ q, s ≤ q → q < e → ¬ N q = 0) ∧ (e = L ∨ N e = 0)
theorem pd_HK_u {N : Nat → Int32} {L h s e s' e' : Nat} (H : pd_HK N L h s e) (H' : pd_HK N L h s' e') : s = s' ∧ e = e' := by
  obtain ⟨h1, h2, h3, h4, h5, h6⟩ := H
  obtain ⟨k1, k2, k3, k4, k5, k6⟩ := H'
  have es : s = s' := by
    rcases Nat.lt_trichotomy s s' with c | c | c
    · have := pd_hc_m (N := N) s' (s + 1) c
      rw [pd_hc_y h3] at this
      omega
    · exact c
    · have := pd_hc_m (N := N) s (s' + 1) c
      rw [pd_hc_y k3] at this
      omega
  subst es
  refine ⟨rfl, ?_⟩
  rcases Nat.lt_trichotomy e e' with c | c | c
  · exact absurd (by rcases h6 with z | z; omega; exact z) (k5 e (by omega) c)
  · exact c
  · exact absurd (by rcases k6 with z | z; omega; exact z) (h5 e' (by omega) c)
