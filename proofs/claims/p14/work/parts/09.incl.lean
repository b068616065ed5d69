/-! which ops are included, by counters; hunks as they are cut -/
def pd_tf (x : Int32) (P : Prop) : Prop := (P → x = 1) ∧ (¬ P → x = 0)
theorem pd_tf_c {x : Int32} {P Q : Prop} (h : pd_tf x P) (e : P ↔ Q) : pd_tf x Q := ⟨fun q => h.1 (e.mpr q), fun q => h.2 (fun p => q (e.mp p))⟩
theorem pd_tf_u {x y : Int32} {P : Prop} (h : pd_tf x P) (k : pd_tf y P) : x = y := by
  by_cases c : P
  · rw [h.1 c, k.1 c]
  · rw [h.2 c, k.2 c]
def pd_kb (K : Nat → Int32) (C p c e : Nat) : Prop := (c = 0 ∧ e = p ∧ ∀ q, q < p → K q = 0) ∨ (∃ q, q < p ∧ ¬ K q = 0 ∧ (∀ r, q < r → r < p → K r = 0) ∧ c = C ∧ e = p - 1 - q)
theorem pd_kb_b {K : Nat → Int32} {C p c e : Nat} (h : pd_kb K C p c e) : c ≤ C ∧ e ≤ p := by
  rcases h with ⟨h1, h2, _⟩ | ⟨q, h1, _, _, h2, h3⟩ <;> omega
theorem pd_kb_f {K : Nat → Int32} {C p c e : Nat} (h : pd_kb K C p c e) : e < c ↔ pd_bf K C p := by
  rcases h with ⟨h1, h2, h3⟩ | ⟨q, h1, h2, h3, h4, h5⟩
  · constructor
    · intro z; omega
    · intro ⟨q, q1, q2, q3⟩
      exact absurd (h3 q q1) q3
  · constructor
    · intro z
      exact ⟨q, h1, by omega, h2⟩
    · intro ⟨r, r1, r2, r3⟩
      by_cases c1 : q < r
      · exact absurd (h3 r c1 r1) r3
      · omega
theorem pd_kb_s {K : Nat → Int32} {C p c e : Nat} (h : pd_kb K C p c e) (hK : K p = 0) : pd_kb K C (p + 1) c (e + 1) := by
  rcases h with ⟨h1, h2, h3⟩ | ⟨q, h1, h2, h3, h4, h5⟩
  · refine Or.inl ⟨h1, by omega, fun q hq => ?_⟩
    by_cases e : q = p
    · rw [e]; exact hK
    · exact h3 q (by omega)
  · refine Or.inr ⟨q, by omega, h2, fun r r1 r2 => ?_, h4, by omega⟩
    by_cases e : r = p
    · rw [e]; exact hK
    · exact h3 r r1 (by omega)
theorem pd_kb_c {K : Nat → Int32} {C p : Nat} (hK : ¬ K p = 0) : pd_kb K C (p + 1) C 0 := Or.inr ⟨p, by omega, hK, fun r r1 r2 => by omega, rfl, by omega⟩
theorem pd_kb_0 {K : Nat → Int32} {C : Nat} : pd_kb K C 0 0 0 := Or.inl ⟨rfl, rfl, fun q h => absurd h (Nat.not_lt_zero _)⟩
def pd_ka (K : Nat → Int32) (C L r c e : Nat) : Prop := (c = 0 ∧ e = L - r ∧ ∀ q, r ≤ q → q < L → K q = 0) ∨ (∃ q, r ≤ q ∧ q < L ∧ ¬ K q = 0 ∧ (∀ t, r ≤ t → t < q → K t = 0) ∧ c = C ∧ e = q - r)
theorem pd_ka_b {K : Nat → Int32} {C L r c e : Nat} (h : pd_ka K C L r c e) : c ≤ C ∧ e ≤ L := by
  rcases h with ⟨h1, h2, _⟩ | ⟨q, h1, _, _, _, h2, h3⟩ <;> omega
theorem pd_ka_f {K : Nat → Int32} {C L p c e : Nat} (h : pd_ka K C L (p + 1) c e) : e < c ↔ pd_af K C L p := by
  rcases h with ⟨h1, h2, h3⟩ | ⟨q, h1, h2, h3, h4, h5, h6⟩
  · constructor
    · intro z; omega
    · intro ⟨q, q1, q2, q3, q4⟩
      exact absurd (h3 q q1 q2) q4
  · constructor
    · intro z
      exact ⟨q, h1, h2, by omega, h3⟩
    · intro ⟨r, r1, r2, r3, r4⟩
      by_cases c1 : r < q
      · exact absurd (h4 r r1 c1) r4
      · omega
theorem pd_ka_s {K : Nat → Int32} {C L p c e : Nat} (h : pd_ka K C L (p + 1) c e) (hp : p < L) (hK : K p = 0) : pd_ka K C L p c (e + 1) := by
  rcases h with ⟨h1, h2, h3⟩ | ⟨q, h1, h2, h3, h4, h5, h6⟩
  · refine Or.inl ⟨h1, by omega, fun q q1 q2 => ?_⟩
    by_cases e : q = p
    · rw [e]; exact hK
    · exact h3 q (by omega) q2
  · refine Or.inr ⟨q, by omega, h2, h3, fun t t1 t2 => ?_, h5, by omega⟩
    by_cases e : t = p
    · rw [e]; exact hK
    · exact h4 t (by omega) t2
theorem pd_ka_c {K : Nat → Int32} {C L p : Nat} (hp : p < L) (hK : ¬ K p = 0) : pd_ka K C L p C 0 := Or.inr ⟨p, by omega, hp, hK, fun r r1 r2 => by omega, rfl, by omega⟩
theorem pd_ka_0 {K : Nat → Int32} {C L : Nat} : pd_ka K C L L 0 0 := Or.inl ⟨rfl, by omega, fun q h1 h2 => by omega⟩
theorem pd_dle {c e : Nat} (hc : c < 2 ^ 30) (he : e < 2 ^ 30) : nI c - nI e ≤ 0 ↔ c ≤ e := by
  rw [Int32.le_iff_toInt_le, pk_sub_toInt hc he, show (0 : Int32).toInt = 0 from by decide]
  omega
theorem pd_dm1 (c e : Nat) : nI c - nI e + (-1) = nI c - nI (e + 1) := by
  rw [← nI_1 e]
  grind
theorem pd_d0 (c : Nat) : nI c - nI 0 = nI c := by
  rw [nI_0, Int32.sub_zero]
theorem pd_nb0 : vp_nar .boolean 0 = 0 := by decide
theorem pd_nb1 : vp_nar .boolean 1 = 1 := by decide
/-! hunks in their arrays -/
def pd_hA (K N : Nat → Int32) (p h : Nat) (F S O P B Q : Nat → Int32) : Prop := ∃ s e, pd_HK N p h s e ∧ F h = nI s ∧ S h = nI (e - s) ∧ O h = nI (pd_cs 2 K s) ∧ P h = nI (pd_cs 2 K e - pd_cs 2 K s) ∧ B h = nI (pd_cs 1 K s) ∧ Q h = nI (pd_cs 1 K e - pd_cs 1 K s)
def pd_hI (K N : Nat → Int32) (p : Nat) (F S O P B Q : Nat → Int32) : Prop := (∀ h, h < pd_hc N p → pd_hA K N p h F S O P B Q) ∧ (0 < p → ¬ N (p - 1) = 0 → ∃ h s, pd_hc N p = h + 1 ∧ pd_HK N p h s p)
theorem pd_HK_x {N : Nat → Int32} {p h s h' s' : Nat} (H : pd_HK N p h s p) (H' : pd_HK N p h' s' p) : h = h' := by
  obtain ⟨h1, h2, h3, h4, h5, h6⟩ := H
  obtain ⟨k1, k2, k3, k4, k5, k6⟩ := H'
  rcases Nat.lt_trichotomy s s' with c | c | c
  · rcases k3.2 with z | z
    · omega
    · exact absurd z (h5 (s' - 1) (by omega) (by omega))
  · subst c; omega
  · rcases h3.2 with z | z
    · omega
    · exact absurd z (k5 (s - 1) (by omega) (by omega))
theorem pd_hI_n {K N : Nat → Int32} {p : Nat} {F S O P B Q : Nat → Int32} (h : pd_hI K N p F S O P B Q) (hN : N p = 0) : pd_hc N (p + 1) = pd_hc N p ∧ pd_hI K N (p + 1) F S O P B Q := by
  have e := pd_hc_n (N := N) (p := p) (fun z => z.1 hN)
  refine ⟨e, fun x hx => ?_, fun _ z => absurd hN z⟩
  rw [e] at hx
  obtain ⟨s, t, ⟨k1, k2, k3, k4, k5, k6⟩, kk⟩ := h.1 x hx
  refine ⟨s, t, ⟨k1, by omega, k3, k4, k5, ?_⟩, kk⟩
  rcases k6 with z | z
  · subst z; exact Or.inr hN
  · exact Or.inr z
theorem pd_hI_o {K N : Nat → Int32} {p : Nat} {F S O P B Q F' S' O' P' B' Q' : Nat → Int32} (h : pd_hI K N p F S O P B Q) (hN : pd_st N p)
    (ho : ∀ x, x ≠ pd_hc N p → F' x = F x ∧ S' x = S x ∧ O' x = O x ∧ P' x = P x ∧ B' x = B x ∧ Q' x = Q x)
    (hv : F' (pd_hc N p) = nI p ∧ S' (pd_hc N p) = nI 1 ∧ O' (pd_hc N p) = nI (pd_cs 2 K p) ∧ P' (pd_hc N p) = nI (pd_cs 2 K (p + 1) - pd_cs 2 K p) ∧ B' (pd_hc N p) = nI (pd_cs 1 K p) ∧ Q' (pd_hc N p) = nI (pd_cs 1 K (p + 1) - pd_cs 1 K p)) :
    pd_hc N (p + 1) = pd_hc N p + 1 ∧ pd_hI K N (p + 1) F' S' O' P' B' Q' := by
  have e := pd_hc_y hN
  have hnew : pd_HK N (p + 1) (pd_hc N p) p (p + 1) := by
    refine ⟨by omega, by omega, hN, rfl, fun q q1 q2 => ?_, Or.inl rfl⟩
    have : q = p := by omega
    rw [this]; exact hN.1
  refine ⟨e, fun x hx => ?_, fun _ _ => ⟨pd_hc N p, p, e, hnew⟩⟩
  by_cases c : x = pd_hc N p
  · subst c
    obtain ⟨v1, v2, v3, v4, v5, v6⟩ := hv
    exact ⟨p, p + 1, hnew, v1, by rw [v2, Nat.add_sub_cancel_left], v3, v4, v5, v6⟩
  · obtain ⟨s, t, ⟨k1, k2, k3, k4, k5, k6⟩, kk⟩ := h.1 x (by omega)
    obtain ⟨o1, o2, o3, o4, o5, o6⟩ := ho x c
    unfold pd_hA
    rw [o1, o2, o3, o4, o5, o6]
    refine ⟨s, t, ⟨k1, by omega, k3, k4, k5, ?_⟩, kk⟩
    rcases k6 with z | z
    · subst z
      rcases hN.2 with w | w
      · omega
      · exact absurd w (k5 (t - 1) (by omega) (by omega))
    · exact Or.inr z
theorem pd_hI_g {K N : Nat → Int32} {p H : Nat} {F S O P B Q S' P' Q' : Nat → Int32} (h : pd_hI K N p F S O P B Q) (hN : ¬ N p = 0) (hp : 0 < p) (hN2 : ¬ N (p - 1) = 0) (hH : pd_hc N p = H + 1)
    (ho : ∀ x, x ≠ H → S' x = S x ∧ P' x = P x ∧ Q' x = Q x)
    (hv : S' H = S H + 1 ∧ P' H = P H + nI (pd_cs 2 K (p + 1) - pd_cs 2 K p) ∧ Q' H = Q H + nI (pd_cs 1 K (p + 1) - pd_cs 1 K p)) :
    pd_hc N (p + 1) = pd_hc N p ∧ pd_hI K N (p + 1) F S' O P' B Q' := by
  have e := pd_hc_n (N := N) (p := p) (fun z => by
    rcases z.2 with w | w
    · omega
    · exact hN2 w)
  obtain ⟨H2, s0, a1, a2⟩ := h.2 hp hN2
  have eH : H2 = H := by omega
  subst eH
  have hnew : pd_HK N (p + 1) H2 s0 (p + 1) := by
    obtain ⟨k1, k2, k3, k4, k5, k6⟩ := a2
    refine ⟨by omega, by omega, k3, k4, fun q q1 q2 => ?_, Or.inl rfl⟩
    by_cases c : q = p
    · rw [c]; exact hN
    · exact k5 q q1 (by omega)
  refine ⟨e, fun x hx => ?_, fun _ _ => ⟨H2, s0, by omega, hnew⟩⟩
  rw [e] at hx
  obtain ⟨s, t, kH, g1, g2, g3, g4, g5, g6⟩ := h.1 x hx
  by_cases c : x = H2
  · subst c
    obtain ⟨rfl, rfl⟩ := pd_HK_u kH a2
    obtain ⟨v1, v2, v3⟩ := hv
    have m1 := pd_cs_m (s := 2) (K := K) t s (by have := kH.1; omega)
    have m2 := pd_cs_m (s := 1) (K := K) t s (by have := kH.1; omega)
    have m3 := pd_cs_m (s := 2) (K := K) (t + 1) t (by omega)
    have m4 := pd_cs_m (s := 1) (K := K) (t + 1) t (by omega)
    have m5 := kH.1
    refine ⟨s, t + 1, hnew, g1, ?_, g3, ?_, g5, ?_⟩
    · rw [v1, g2, nI_1]; exact congrArg nI (by omega)
    · rw [v2, g4, nI_add]; exact congrArg nI (by omega)
    · rw [v3, g6, nI_add]; exact congrArg nI (by omega)
  · obtain ⟨o1, o2, o3⟩ := ho x c
    obtain ⟨k1, k2, k3, k4, k5, k6⟩ := kH
    refine ⟨s, t, ⟨k1, by omega, k3, k4, k5, ?_⟩, g1, by rw [o1]; exact g2, g3, by rw [o2]; exact g4, g5, by rw [o3]; exact g6⟩
    rcases k6 with z | z
    · subst z
      exact absurd (pd_HK_x ⟨k1, k2, k3, k4, k5, Or.inl rfl⟩ a2) c
    · exact Or.inr z
theorem pd_hI_0 {K N : Nat → Int32} {F S O P B Q : Nat → Int32} : pd_hI K N 0 F S O P B Q := ⟨fun h hh => absurd hh (Nat.not_lt_zero _), fun h => absurd h (Nat.lt_irrefl 0)⟩
