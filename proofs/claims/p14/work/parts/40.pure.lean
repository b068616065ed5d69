/-! the script's length by the pairs; what lies between hunks; apply onto A -/
def pd_nv (V : Nat → Option Nat) : Nat → Nat
  | 0 => 0
  | k + 1 => pd_nv V k + if V k = none then 0 else 1
theorem pd_nv_s (V : Nat → Option Nat) (k : Nat) : pd_nv V (k + 1) = pd_nv V k + if V k = none then 0 else 1 := rfl
theorem pd_nv_cm {M : Nat → Int32} {V : Nat → Option Nat} : ∀ k, (∀ x, x < k → M x = pd_e (V x)) → (∀ x y, x < k → V x = some y → y < 2 ^ 31) → pd_cm M k = pd_nv V k := by
  intro k
  induction k with
  | zero => intro _ _; rfl
  | succ k ih =>
    intro h1 h2
    rw [pd_cm_s, pd_nv_s, ih (fun x hx => h1 x (by omega)) (fun x y hx => h2 x y (by omega)), h1 k (by omega)]
    cases hv : V k with
    | none => rw [if_pos rfl, if_pos (show pd_e none = -1 from rfl)]
    | some y => rw [if_neg (show ¬ pd_e (some y) = -1 from pd_ne1 (h2 k y (by omega) hv)), if_neg (fun w => nomatch w)]
theorem pd_sc_len {a b : Nat → Int32} {n m : Nat} {V0 : Nat → Option Nat} (hV : pd_ok a b V0 0 n 0 m) : ∀ f i j L K H, (n - i) + (m - j) ≤ f → i ≤ n → j ≤ m → (∀ x y, i ≤ x → x < n → V0 x = some y → j ≤ y) →
    (pd_sc a b n m V0 f i j L K H).1 + pd_nv V0 n = L + (n - i) + (m - j) + pd_nv V0 i := by
  intro f
  induction f with
  | zero =>
    intro i j L K H hf hi hj _
    have e1 : i = n := by omega
    have e2 : j = m := by omega
    subst e1 e2
    show L + pd_nv V0 i = _
    omega
  | succ f ih =>
    intro i j L K H hf hi hj ho
    by_cases c : i < n
    · have s1 := pd_nv_s V0 i
      cases hv : V0 i with
      | none =>
        rw [pd_sc_d c hv, ih (i + 1) j (L + 1) _ _ (by omega) (by omega) hj (fun x y h1 h2 h3 => ho x y (by omega) h2 h3)]
        rw [hv, if_pos rfl] at s1
        omega
      | some y =>
        have hy := ho i y (Nat.le_refl _) c hv
        have hy2 := hV.1 i y (by omega) c hv
        rw [hv, if_neg (fun w => nomatch w)] at s1
        by_cases e : y = j
        · subst e
          rw [pd_sc_k c hv, ih (i + 1) (y + 1) (L + 1) _ _ (by omega) (by omega) (by omega) (fun x z h1 h2 h3 => by have := hV.2 i x y z (by omega) (by omega) h2 hv h3; omega)]
          omega
        · rw [pd_sc_i c hv e, ih i (j + 1) (L + 1) _ _ (by omega) hi (by omega) (fun x z h1 h2 h3 => by
            by_cases ex : x = i
            · subst ex
              rw [hv] at h3
              cases h3
              omega
            · have := hV.2 i x y z (by omega) (by omega) h2 hv h3
              omega)]
          omega
    · by_cases cj : j < m
      · rw [pd_sc_t (by omega) cj, ih i (j + 1) (L + 1) _ _ (by omega) hi (by omega) (fun x y h1 h2 h3 => by omega)]
        omega
      · have e1 : i = n := by omega
        have e2 : j = m := by omega
        subst e1 e2
        rw [pd_sc_0 (Nat.le_refl _) (Nat.le_refl _)]
        show L + pd_nv V0 i = _
        omega
theorem pd_S_len {a b K H : Nat → Int32} {n m : Nat} : (pd_S a b n m K H).1 + pd_nv (pd_V0 a b n m) n = n + m := by
  have := pd_sc_len (a := a) (b := b) (n := n) (m := m) pd_V0_ok (n + m) 0 0 0 K H (by omega) (Nat.zero_le _) (Nat.zero_le _) (fun x y _ _ _ => Nat.zero_le y)
  have e : pd_nv (pd_V0 a b n m) 0 = 0 := rfl
  rw [e] at this
  show (pd_sc a b n m (pd_V0 a b n m) (n + m) 0 0 0 K H).1 + _ = _
  omega
/-! hunks: no start within a run, none between two -/
theorem pd_hc_run {N : Nat → Int32} {L h s e : Nat} (H : pd_HK N L h s e) : pd_hc N e = h + 1 := by
  obtain ⟨h1, h2, h3, h4, h5, h6⟩ := H
  have : ∀ d, s + 1 + d ≤ e → pd_hc N (s + 1 + d) = h + 1 := by
    intro d
    induction d with
    | zero => intro _; show pd_hc N (s + 1) = _; rw [pd_hc_y h3, h4]
    | succ d ih =>
      intro hd
      rw [show s + 1 + (d + 1) = s + 1 + d + 1 by omega, pd_hc_n (fun w => ?_), ih (by omega)]
      rcases w.2 with w2 | w2
      · omega
      · exact h5 (s + 1 + d - 1) (by omega) (by omega) w2
  have := this (e - (s + 1)) (by omega)
  rw [show s + 1 + (e - (s + 1)) = e by omega] at this
  exact this
theorem pd_gapz {N : Nat → Int32} {e0 q1 : Nat} (h : pd_hc N e0 = pd_hc N q1) (h0 : e0 = 0 ∨ N e0 = 0 ∨ q1 ≤ e0) : ∀ d, e0 + d ≤ q1 → ∀ q, e0 ≤ q → q < e0 + d → N q = 0 := by
  intro d
  induction d with
  | zero => intro _ q q1 q2; omega
  | succ d ih =>
    intro hd q hq1 hq2
    by_cases e : q = e0 + d
    · by_cases c : N q = 0
      · exact c
      · have hst : pd_st N q := by
          refine ⟨c, ?_⟩
          by_cases ed : d = 0
          · rcases h0 with w | w | w
            · exact Or.inl (by omega)
            · rw [show q = e0 by omega] at c
              exact absurd w c
            · omega
          · exact Or.inr (ih (by omega) (q - 1) (by omega) (by omega))
        have k1 := pd_hc_y hst
        have k2 := pd_hc_m (N := N) q e0 hq1
        have k3 := pd_hc_m (N := N) q1 (q + 1) (by omega)
        omega
    · exact ih (by omega) q hq1 (by omega)
theorem pd_keep {K : Nat → Int32} {s : Int32} {e0 q1 : Nat} (hs : ¬ (0 : Int32) = s) (hK : ∀ q, e0 ≤ q → q < q1 → K q = 0) : ∀ d, e0 + d ≤ q1 → pd_cs s K (e0 + d) = pd_cs s K e0 + d := by
  intro d
  induction d with
  | zero => intro _; rfl
  | succ d ih =>
    intro hd
    rw [← Nat.add_assoc, pd_cs_s, ih (by omega), hK (e0 + d) (by omega) (by omega), if_neg hs]
    omega
theorem pd_keep_eq {a b K H : Nat → Int32} {L n m e0 q1 : Nat} (hS : pd_SK a b K H L n m) (hK : ∀ q, e0 ≤ q → q < q1 → K q = 0) (hq : q1 ≤ L) {x : Nat} (hx : e0 + x < q1) : a (pd_cs 2 K e0 + x) = b (pd_cs 1 K e0 + x) := by
  have k2 := pd_keep (s := 2) (by decide) hK x (by omega)
  have k1 := pd_keep (s := 1) (by decide) hK x (by omega)
  have h := (hS.2.2.2 (e0 + x) (by omega)).2
  have z := hK (e0 + x) (by omega) hx
  rw [← k2, ← k1, ← h.1 (by rw [z]; decide), ← h.2 (by rw [z]; decide)]
def pd_eP (eH : Nat → Nat) : Nat → Nat
  | 0 => 0
  | h + 1 => eH h
section POA
variable {base a b K Hs N : Nat → Int32} {L n m r H : Nat} {aS aL bS bL sH eH : Nat → Nat}
/-- the hunks of a script, as apply sees them -/
def pd_hx (K N : Nat → Int32) (L H : Nat) (aS aL bS bL sH eH : Nat → Nat) : Prop := ∀ h, h < H → pd_HK N L h (sH h) (eH h) ∧ aS h = pd_cs 2 K (sH h) ∧ aL h = pd_cs 2 K (eH h) - pd_cs 2 K (sH h) ∧ bS h = pd_cs 1 K (sH h) ∧ bL h = pd_cs 1 K (eH h) - pd_cs 1 K (sH h)
theorem pd_eP_le (hH : H = pd_hc N L) (hA : pd_hx K N L H aS aL bS bL sH eH) {h : Nat} (hh : h < H) : pd_eP eH h ≤ sH h ∧ pd_hc N (pd_eP eH h) = h ∧ (pd_eP eH h = 0 ∨ N (pd_eP eH h) = 0) := by
  have h0 := (hA h hh).1
  cases h with
  | zero => exact ⟨Nat.zero_le _, rfl, Or.inl rfl⟩
  | succ h =>
    have h1 := (hA h (by omega)).1
    have hc := pd_hc_run h1
    have hle : eH h ≤ sH (h + 1) := by
      by_cases c : eH h ≤ sH (h + 1)
      · exact c
      · have := pd_hc_m (N := N) (sH (h + 1)) (sH h + 1)
        have k3 := pd_hc_y h1.2.2.1
        by_cases c2 : sH (h + 1) ≤ sH h
        · have k4 := pd_hc_m (N := N) (sH h) (sH (h + 1)) c2
          have k5 := h1.2.2.2.1
          have k6 := h0.2.2.2.1
          omega
        · rcases h0.2.2.1.2 with w | w
          · omega
          · exact absurd w (h1.2.2.2.2.1 (sH (h + 1) - 1) (by omega) (by omega))
    refine ⟨hle, hc, Or.inr ?_⟩
    rcases h1.2.2.2.2.2 with w | w
    · have k1 := h0.1
      have k2 := h0.2.1
      omega
    · exact w
theorem pd_eP_end (hH : H = pd_hc N L) (hA : pd_hx K N L H aS aL bS bL sH eH) : pd_eP eH H ≤ L ∧ pd_hc N (pd_eP eH H) = H ∧ (pd_eP eH H = 0 ∨ N (pd_eP eH H) = 0 ∨ L ≤ pd_eP eH H) := by
  cases H with
  | zero => exact ⟨Nat.zero_le _, rfl, Or.inl rfl⟩
  | succ h =>
    have h1 := (hA h (by omega)).1
    refine ⟨h1.2.1, pd_hc_run h1, ?_⟩
    rcases h1.2.2.2.2.2 with w | w
    · exact Or.inr (Or.inr (by show L ≤ eH h; omega))
    · exact Or.inr (Or.inl w)
/-- onto A every hunk is placed where it was -/
theorem pd_psA (hH : H = pd_hc N L) (hA : pd_hx K N L H aS aL bS bL sH eH) (hS : pd_SK a b K Hs L n m) (hb : ∀ x, x < n → base x = a x) : ∀ h, h ≤ H → ∃ p, pd_ps base a n r aS aL h = some (pd_cs 2 K (pd_eP eH h), p, p) ∧ (h < H → p ≤ aS h) := by
  intro h
  induction h with
  | zero => intro _; exact ⟨0, rfl, fun _ => Nat.zero_le _⟩
  | succ h ih =>
    intro hh
    obtain ⟨p, e1, e2⟩ := ih (by omega)
    have e2 := e2 (by omega)
    obtain ⟨hK, a1, a2, a3, a4⟩ := hA h (by omega)
    have hP := pd_eP_le hH hA (h := h) (by omega)
    have m1 := pd_cs_m (s := 2) (K := K) (sH h) (pd_eP eH h) hP.1
    have m2 := pd_cs_m (s := 2) (K := K) (eH h) (sH h) (by have := hK.1; omega)
    have m3 := pd_cs_m (s := 2) (K := K) L (eH h) hK.2.1
    have m4 := hS.1
    have hF : pd_ft base a n (aS h) (aL h) (pd_cs 2 K (pd_eP eH h)) (aS h) = true := decide_eq_true ⟨by omega, by omega, fun t ht => hb (aS h + t) (by omega)⟩
    have hf : pd_fp (pd_ft base a n (aS h) (aL h) (pd_cs 2 K (pd_eP eH h), p, p).1) (aS h - (pd_cs 2 K (pd_eP eH h), p, p).2.2 + (pd_cs 2 K (pd_eP eH h), p, p).2.1) (r + 1) 0 = some (aS h) := by
      dsimp only
      rw [show aS h - p + p = aS h by omega, pd_fp_s, if_pos ⟨Nat.zero_le _, hF⟩, Nat.sub_zero]
    have e3 := pd_ps_y base a n r aS aL e1 hf
    refine ⟨aS h, ?_, fun hl => ?_⟩
    · rw [e3]
      show some (aS h + aL h, aS h, aS h) = some (pd_cs 2 K (eH h), aS h, aS h)
      rw [show aS h + aL h = pd_cs 2 K (eH h) by omega]
    · have hP2 := pd_eP_le hH hA (h := h + 1) hl
      have hP3 : eH h ≤ sH (h + 1) := hP2.1
      have m5 := pd_cs_m (s := 2) (K := K) (sH (h + 1)) (eH h) hP3
      have a5 := (hA (h + 1) hl).2.1
      omega
theorem pd_ouA (hH : H = pd_hc N L) (hA : pd_hx K N L H aS aL bS bL sH eH) (hS : pd_SK a b K Hs L n m) (hb : ∀ x, x < n → base x = a x) (hN : ∀ q, q < L → N q = 0 → K q = 0) {R : Nat → Int32} : ∀ h, h ≤ H → (pd_ou base b (pd_ps base a n r aS aL) bS bL R h).1 = pd_cs 1 K (pd_eP eH h) ∧ ∀ q, q < pd_cs 1 K (pd_eP eH h) → (pd_ou base b (pd_ps base a n r aS aL) bS bL R h).2 q = b q := by
  intro h
  induction h with
  | zero => intro _; exact ⟨rfl, fun q hq => absurd hq (Nat.not_lt_zero _)⟩
  | succ h ih =>
    intro hh
    obtain ⟨i1, i2⟩ := ih (by omega)
    obtain ⟨hK, a1, a2, a3, a4⟩ := hA h (by omega)
    obtain ⟨p, e1, _⟩ := pd_psA (r := r) hH hA hS hb h (by omega)
    obtain ⟨p', e1', _⟩ := pd_psA (r := r) hH hA hS hb (h + 1) hh
    obtain ⟨s0, Q, f1, f2, f3, f4, f5⟩ := pd_ps_x e1'
    obtain ⟨p2, e2, e2'⟩ := pd_psA (r := r) hH hA hS hb h (by omega)
    have hP := pd_eP_le hH hA (h := h) (by omega)
    have hse := hK.1
    have heL := hK.2.1
    have hz : ∀ q, pd_eP eH h ≤ q → q < sH h → K q = 0 := fun q q1 q2 => hN q (by omega) (pd_gapz (N := N) (e0 := pd_eP eH h) (q1 := sH h) (by rw [hP.2.1, hK.2.2.2.1]) (by rcases hP.2.2 with w | w; exact Or.inl w; exact Or.inr (Or.inl w)) (sH h - pd_eP eH h) (by omega) q q1 (by omega))
    have k2 := pd_keep (s := 2) (by decide) hz (sH h - pd_eP eH h) (by omega)
    have k1 := pd_keep (s := 1) (by decide) hz (sH h - pd_eP eH h) (by omega)
    rw [show pd_eP eH h + (sH h - pd_eP eH h) = sH h by omega] at k1 k2
    have m2 := pd_cs_m (s := 1) (K := K) (eH h) (sH h) (by omega)
    have m3 := pd_cs_m (s := 2) (K := K) L (sH h) (by omega)
    have m4 := hS.1
    have ec : pd_cu (pd_ps base a n r aS aL) h = pd_cs 2 K (pd_eP eH h) := pd_cu_e e1
    have ep : pd_pk (pd_ps base a n r aS aL) h = aS h := by
      have hf := pd_ps_x e1'
      have hp2 := e2' (by omega)
      have hF : pd_ft base a n (aS h) (aL h) (pd_cs 2 K (pd_eP eH h)) (aS h) = true := by
        have m5 := pd_cs_m (s := 2) (K := K) L (eH h) heL
        have m6 := pd_cs_m (s := 2) (K := K) (eH h) (sH h) (by omega)
        exact decide_eq_true ⟨by omega, by omega, fun t ht => hb (aS h + t) (by omega)⟩
      have hf2 : pd_fp (pd_ft base a n (aS h) (aL h) (pd_cs 2 K (pd_eP eH h), p2, p2).1) (aS h - (pd_cs 2 K (pd_eP eH h), p2, p2).2.2 + (pd_cs 2 K (pd_eP eH h), p2, p2).2.1) (r + 1) 0 = some (aS h) := by
        dsimp only
        rw [show aS h - p2 + p2 = aS h by omega, pd_fp_s, if_pos ⟨Nat.zero_le _, hF⟩, Nat.sub_zero]
      rw [pd_pk_e (pd_ps_y base a n r aS aL e2 hf2)]
    have eg : pd_pk (pd_ps base a n r aS aL) h - pd_cu (pd_ps base a n r aS aL) h = sH h - pd_eP eH h := by rw [ep, ec]; omega
    rw [pd_ou_s, eg, ec, i1, a3, a4]
    show pd_cs 1 K (pd_eP eH h) + (sH h - pd_eP eH h) + (pd_cs 1 K (eH h) - pd_cs 1 K (sH h)) = pd_cs 1 K (eH h) ∧ ∀ q, q < pd_cs 1 K (eH h) → pd_cp (pd_cp (pd_ou base b (pd_ps base a n r aS aL) bS bL R h).2 (pd_cs 1 K (pd_eP eH h)) base (pd_cs 2 K (pd_eP eH h)) (sH h - pd_eP eH h)) (pd_cs 1 K (pd_eP eH h) + (sH h - pd_eP eH h)) b (pd_cs 1 K (sH h)) (pd_cs 1 K (eH h) - pd_cs 1 K (sH h)) q = b q
    refine ⟨by omega, fun q hq => ?_⟩
    by_cases c1 : pd_cs 1 K (sH h) ≤ q
    · unfold pd_cp
      rw [if_pos (by omega)]
      exact congrArg b (by omega)
    · by_cases c2 : pd_cs 1 K (pd_eP eH h) ≤ q
      · unfold pd_cp
        rw [if_neg (by omega), if_pos (by omega), hb _ (by omega), pd_keep_eq hS hz (by omega) (by omega)]
        exact congrArg b (by omega)
      · unfold pd_cp
        rw [if_neg (by omega), if_neg (by omega)]
        exact i2 q (by omega)
/-- .. and the result is B -/
theorem pd_resA (hH : H = pd_hc N L) (hA : pd_hx K N L H aS aL bS bL sH eH) (hS : pd_SK a b K Hs L n m) (hb : ∀ x, x < n → base x = a x) (hN : ∀ q, q < L → N q = 0 → K q = 0) {R : Nat → Int32} :
    (pd_ou base b (pd_ps base a n r aS aL) bS bL R H).1 + (n - pd_cu (pd_ps base a n r aS aL) H) = m ∧ ∀ q, q < m → pd_cp (pd_ou base b (pd_ps base a n r aS aL) bS bL R H).2 (pd_ou base b (pd_ps base a n r aS aL) bS bL R H).1 base (pd_cu (pd_ps base a n r aS aL) H) (n - pd_cu (pd_ps base a n r aS aL) H) q = b q := by
  obtain ⟨i1, i2⟩ := pd_ouA (r := r) (R := R) hH hA hS hb hN H (Nat.le_refl _)
  obtain ⟨p, e1, _⟩ := pd_psA (r := r) hH hA hS hb H (Nat.le_refl _)
  have hP := pd_eP_end hH hA
  have ec : pd_cu (pd_ps base a n r aS aL) H = pd_cs 2 K (pd_eP eH H) := pd_cu_e e1
  have hz : ∀ q, pd_eP eH H ≤ q → q < L → K q = 0 := fun q q1 q2 => hN q q2 (pd_gapz (N := N) (e0 := pd_eP eH H) (q1 := L) (by rw [hP.2.1, hH]) hP.2.2 (L - pd_eP eH H) (by omega) q q1 (by omega))
  have k2 := pd_keep (s := 2) (by decide) hz (L - pd_eP eH H) (by omega)
  have k1 := pd_keep (s := 1) (by decide) hz (L - pd_eP eH H) (by omega)
  rw [show pd_eP eH H + (L - pd_eP eH H) = L by omega] at k1 k2
  have m4 := hS.1
  have m5 := hS.2.1
  have eg : n - pd_cu (pd_ps base a n r aS aL) H = L - pd_eP eH H := by rw [ec]; omega
  rw [eg, ec, i1]
  refine ⟨by omega, fun q hq => ?_⟩
  by_cases c2 : pd_cs 1 K (pd_eP eH H) ≤ q
  · unfold pd_cp
    rw [if_pos (by omega), hb _ (by omega), pd_keep_eq hS hz (Nat.le_refl _) (by omega)]
    exact congrArg b (by omega)
  · unfold pd_cp
    rw [if_neg (by omega)]
    exact i2 q (by omega)
end POA
