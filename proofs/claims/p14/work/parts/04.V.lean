/-! V: the pair of line i in the gap, by fuel -/
/-- how many of D's first k lie at or above i -/
def pd_ce (D : Nat → Nat) (i : Nat) : Nat → Nat
  | 0 => 0
  | k + 1 => pd_ce D i k + if i ≤ D k then 1 else 0
def pd_hi (h : Nat) (D : Nat → Nat) : Nat → Nat
  | 0 => h
  | t + 1 => D t
def pd_lo (l : Nat) (D : Nat → Nat) (K t : Nat) : Nat := if t < K then D t + 1 else l
theorem pd_ce_s (D : Nat → Nat) (i k : Nat) : pd_ce D i (k + 1) = pd_ce D i k + if i ≤ D k then 1 else 0 := rfl
theorem pd_ce_t {D : Nat → Nat} {i t : Nat} : ∀ k, t ≤ k → (∀ d, d < t → i ≤ D d) → (∀ d, t ≤ d → d < k → D d < i) → pd_ce D i k = t := by
  intro k
  induction k with
  | zero => intro h _ _; have : t = 0 := by omega
            subst this; rfl
  | succ k ih =>
    intro h h1 h2
    rw [pd_ce_s]
    by_cases e : t = k + 1
    · subst e
      rw [if_pos (h1 k (by omega))]
      have : pd_ce D i k = k := by
        have : ∀ k', k' ≤ k → pd_ce D i k' = k' := by
          intro k'
          induction k' with
          | zero => intro _; rfl
          | succ k' ih' => intro hk; rw [pd_ce_s, if_pos (h1 k' (by omega)), ih' (by omega)]
        exact this k (Nat.le_refl k)
      omega
    · rw [if_neg (by have := h2 k (by omega) (by omega); omega), ih (by omega) h1 (fun d h3 h4 => h2 d h3 (by omega)), Nat.add_zero]
abbrev pd_W : Type := Nat → Nat → Nat → Nat → Nat → Option Nat
/-- the chain's matches and what lies between them -/
def pd_vc (W : pd_W) (al ah bl bh : Nat) (K : Nat) (D E : Nat → Nat) (i : Nat) : Option Nat :=
  if 0 < pd_ce D i K ∧ D (pd_ce D i K - 1) = i then some (E (pd_ce D i K - 1))
  else W (pd_lo al D K (pd_ce D i K)) (pd_hi ah D (pd_ce D i K)) (pd_lo bl E K (pd_ce D i K)) (pd_hi bh E (pd_ce D i K)) i
def pd_A (a b : Nat → Int32) (al ah bl bh : Nat) : Nat × (Nat → Nat) × (Nat → Nat) := pd_an a b al ah bl bh (ah - al)
def pd_K (s : Nat × (Nat → Nat) × (Nat → Nat)) : Nat := pd_gr (pd_rk s.2.2) s.1
def pd_c (s : Nat × (Nat → Nat) × (Nat → Nat)) (d : Nat) : Nat := (pd_cd s.2.1 s.2.2 (pd_rk s.2.2) s.1 (pd_K s) d).getD 0
def pd_D (s : Nat × (Nat → Nat) × (Nat → Nat)) (d : Nat) : Nat := s.2.1 (pd_c s d)
def pd_E (s : Nat × (Nat → Nat) × (Nat → Nat)) (d : Nat) : Nat := s.2.2 (pd_c s d)
def pd_vm (a b : Nat → Int32) (W : pd_W) (al ah bl bh i : Nat) : Option Nat :=
  if al = ah ∨ bl = bh then none
  else if (pd_A a b al ah bl bh).1 = 0 then pd_lm a b ah bh ((ah - al) + (bh - bl)) al bl i
  else pd_vc W al ah bl bh (pd_K (pd_A a b al ah bl bh)) (pd_D (pd_A a b al ah bl bh)) (pd_E (pd_A a b al ah bl bh)) i
def pd_p (a b : Nat → Int32) (al ah bl bh : Nat) : Nat := pd_pf a b (min (ah - al) (bh - bl)) al bl
def pd_s (a b : Nat → Int32) (al ah bl bh : Nat) : Nat := pd_sf a b (min (ah - al) (bh - bl)) ah bh
def pd_vt (a b : Nat → Int32) (W : pd_W) (al ah bl bh i : Nat) : Option Nat :=
  if ah - pd_s a b al ah bl bh ≤ i then some (bh - (ah - i)) else pd_vm a b W al (ah - pd_s a b al ah bl bh) bl (bh - pd_s a b al ah bl bh) i
def pd_vs (a b : Nat → Int32) (W : pd_W) (al ah bl bh i : Nat) : Option Nat :=
  if i < al + pd_p a b al ah bl bh then some (bl + (i - al)) else pd_vt a b W (al + pd_p a b al ah bl bh) ah (bl + pd_p a b al ah bl bh) bh i
def pd_V (a b : Nat → Int32) : Nat → pd_W
  | 0 => fun _ _ _ _ _ => none
  | f + 1 => pd_vs a b (pd_V a b f)
theorem pd_V_s (a b : Nat → Int32) (f : Nat) : pd_V a b (f + 1) = pd_vs a b (pd_V a b f) := rfl
theorem pd_p_le {a b : Nat → Int32} {al ah bl bh : Nat} : pd_p a b al ah bl bh ≤ ah - al ∧ pd_p a b al ah bl bh ≤ bh - bl := by
  have := pd_pf_le (a := a) (b := b) (min (ah - al) (bh - bl)) al bl
  unfold pd_p
  omega
theorem pd_s_le {a b : Nat → Int32} {al ah bl bh : Nat} : pd_s a b al ah bl bh ≤ ah - al ∧ pd_s a b al ah bl bh ≤ bh - bl := by
  have := pd_sf_le (a := a) (b := b) (min (ah - al) (bh - bl)) ah bh
  unfold pd_s
  omega
/-- an empty gap pairs nothing -/
theorem pd_V_n {a b : Nat → Int32} {f al ah bl bh x : Nat} (h : bl = bh) (h1 : al ≤ x) (h2 : x < ah) : pd_V a b f al ah bl bh x = none := by
  cases f with
  | zero => rfl
  | succ f =>
    have hp := pd_p_le (a := a) (b := b) (al := al) (ah := ah) (bl := bl) (bh := bh)
    have hs := pd_s_le (a := a) (b := b) (al := al) (ah := ah) (bl := bl) (bh := bh)
    have ep : pd_p a b al ah bl bh = 0 := by omega
    have es : pd_s a b al ah bl bh = 0 := by omega
    rw [pd_V_s]
    unfold pd_vs
    rw [ep, if_neg (by omega)]
    unfold pd_vt
    rw [Nat.add_zero, Nat.add_zero, es, if_neg (by omega)]
    unfold pd_vm
    rw [if_pos (Or.inr (by omega))]
/-- what is known of the chain: K, its places in A (D) and in B (E), from its end -/
def pd_CK (a b : Nat → Int32) (al ah bl bh K : Nat) (D E : Nat → Nat) : Prop :=
  1 ≤ K ∧ K ≤ ah - al ∧ (∀ d, d < K → al ≤ D d ∧ D d < ah ∧ bl ≤ E d ∧ E d < bh ∧ a (D d) = b (E d)) ∧ (∀ d, d + 1 < K → D (d + 1) < D d ∧ E (d + 1) < E d)
theorem pd_RK_A {a b : Nat → Int32} {al ah bl bh : Nat} (h0 : (pd_A a b al ah bl bh).1 ≠ 0) : pd_RK (pd_A a b al ah bl bh).2.1 (pd_A a b al ah bl bh).2.2 (pd_rk (pd_A a b al ah bl bh).2.2) (pd_A a b al ah bl bh).1 (pd_K (pd_A a b al ah bl bh)) := by
  have hA := pd_an_k (a := a) (b := b) (al := al) (ah := ah) (bl := bl) (bh := bh) (ah - al)
  have hA2 : pd_an a b al ah bl bh (ah - al) = pd_A a b al ah bl bh := rfl
  rw [hA2] at hA
  generalize pd_A a b al ah bl bh = s at *
  have k1 : 1 ≤ pd_K s := Nat.le_trans (pd_rk_1 s.2.2 0) (pd_gr_ge s.1 0 (by omega))
  exact ⟨k1, pd_gr_x s.1 k1, fun p _ => pd_rk_1 _ p, fun p l _ hl hp => pd_rk_x hl hp, hA.2.2⟩
theorem pd_c_k {a b : Nat → Int32} {al ah bl bh : Nat} (h0 : (pd_A a b al ah bl bh).1 ≠ 0) {d : Nat} (hd : d < pd_K (pd_A a b al ah bl bh)) : pd_cd (pd_A a b al ah bl bh).2.1 (pd_A a b al ah bl bh).2.2 (pd_rk (pd_A a b al ah bl bh).2.2) (pd_A a b al ah bl bh).1 (pd_K (pd_A a b al ah bl bh)) d = some (pd_c (pd_A a b al ah bl bh) d) ∧ pd_c (pd_A a b al ah bl bh) d < (pd_A a b al ah bl bh).1 ∧ pd_rk (pd_A a b al ah bl bh).2.2 (pd_c (pd_A a b al ah bl bh) d) = pd_K (pd_A a b al ah bl bh) - d := by
  obtain ⟨c, hc, h1, h2⟩ := pd_cd_k (pd_RK_A h0) d hd
  have e : pd_c (pd_A a b al ah bl bh) d = c := by unfold pd_c; rw [hc]; rfl
  rw [e]
  exact ⟨hc, h1, h2⟩
theorem pd_K_le (s : Nat × (Nat → Nat) × (Nat → Nat)) : pd_K s ≤ s.1 := pd_gr_le s.1 (fun p hp => Nat.le_trans (pd_rk_l s.2.2 p) hp)
theorem pd_CK_A {a b : Nat → Int32} {al ah bl bh : Nat} (h0 : (pd_A a b al ah bl bh).1 ≠ 0) (ha : al ≤ ah) : pd_CK a b al ah bl bh (pd_K (pd_A a b al ah bl bh)) (pd_D (pd_A a b al ah bl bh)) (pd_E (pd_A a b al ah bl bh)) := by
  have hA := pd_an_k (a := a) (b := b) (al := al) (ah := ah) (bl := bl) (bh := bh) (ah - al)
  have hA2 : pd_an a b al ah bl bh (ah - al) = pd_A a b al ah bl bh := rfl
  rw [hA2, show al + (ah - al) = ah by omega] at hA
  refine ⟨(pd_RK_A h0).1, Nat.le_trans (pd_K_le _) hA.1, fun d hd => hA.2.1 _ (pd_c_k h0 hd).2.1, fun d hd => ?_⟩
  have r := pd_cd_d (pd_c_k h0 (d := d) (by omega)).1 (pd_c_k h0 hd).1
  exact r
theorem pd_CK_mono {a b : Nat → Int32} {al ah bl bh K : Nat} {D E : Nat → Nat} (h : pd_CK a b al ah bl bh K D E) {d : Nat} : ∀ e, d < e → e < K → D e < D d ∧ E e < E d := by
  intro e
  induction e with
  | zero => intro h1 _; omega
  | succ e ih =>
    intro h1 h2
    have h3 := h.2.2.2 e h2
    by_cases c : d = e
    · subst c; exact h3
    · have := ih (by omega) (by omega)
      omega
/-- between the chain's pairs V is the gap's own, at a pair it is the pair -/
theorem pd_vc_in {a b : Nat → Int32} {W : pd_W} {al ah bl bh K t x : Nat} {D E : Nat → Nat} (h : pd_CK a b al ah bl bh K D E) (ht : t ≤ K) (h1 : pd_lo al D K t ≤ x) (h2 : x < pd_hi ah D t) :
    pd_vc W al ah bl bh K D E x = W (pd_lo al D K t) (pd_hi ah D t) (pd_lo bl E K t) (pd_hi bh E t) x := by
  have hc : pd_ce D x K = t := by
    refine pd_ce_t K ht (fun d hd => ?_) (fun d hd hk => ?_)
    · cases t with
      | zero => omega
      | succ t =>
        have h2' : x < D t := h2
        by_cases c : d = t
        · subst c; omega
        · have := pd_CK_mono h t (d := d) (by omega) (by omega)
          omega
    · unfold pd_lo at h1
      rw [if_pos (by omega)] at h1
      by_cases c : t = d
      · subst c; omega
      · have := pd_CK_mono h d (d := t) (by omega) hk
        omega
  unfold pd_vc
  rw [hc, if_neg]
  intro ⟨k1, k2⟩
  obtain ⟨s, rfl⟩ : ∃ s, t = s + 1 := ⟨t - 1, by omega⟩
  have h2' : x < D s := h2
  rw [Nat.add_sub_cancel] at k2
  omega
theorem pd_vc_at {a b : Nat → Int32} {W : pd_W} {al ah bl bh K d : Nat} {D E : Nat → Nat} (h : pd_CK a b al ah bl bh K D E) (hd : d < K) : pd_vc W al ah bl bh K D E (D d) = some (E d) := by
  have hc : pd_ce D (D d) K = d + 1 := by
    refine pd_ce_t K (by omega) (fun e he => ?_) (fun e he hk => ?_)
    · by_cases c : e = d
      · subst c; exact Nat.le_refl _
      · have := pd_CK_mono h d (d := e) (by omega) hd
        omega
    · exact (pd_CK_mono h e (d := d) (by omega) hk).1
  unfold pd_vc
  rw [hc, if_pos ⟨by omega, rfl⟩]
  rfl
theorem pd_CK_lh {a b : Nat → Int32} {al ah bl bh K : Nat} {D E : Nat → Nat} (h : pd_CK a b al ah bl bh K D E) (ha : al ≤ ah) (hb : bl ≤ bh) {t : Nat} (ht : t ≤ K) : al ≤ pd_lo al D K t ∧ pd_lo al D K t ≤ pd_hi ah D t ∧ pd_hi ah D t ≤ ah ∧ bl ≤ pd_lo bl E K t ∧ pd_lo bl E K t ≤ pd_hi bh E t ∧ pd_hi bh E t ≤ bh ∧ pd_hi ah D t - pd_lo al D K t < ah - al := by
  have hk := h.1
  have h0 := h.2.2.1 0 (by omega)
  unfold pd_lo
  cases t with
  | zero =>
    rw [if_pos (by omega), if_pos (by omega)]
    show al ≤ D 0 + 1 ∧ D 0 + 1 ≤ ah ∧ ah ≤ ah ∧ bl ≤ E 0 + 1 ∧ E 0 + 1 ≤ bh ∧ bh ≤ bh ∧ ah - (D 0 + 1) < ah - al
    omega
  | succ t =>
    have ht1 := h.2.2.1 t (by omega)
    show al ≤ _ ∧ _ ≤ D t ∧ D t ≤ ah ∧ bl ≤ _ ∧ _ ≤ E t ∧ E t ≤ bh ∧ D t - _ < ah - al
    by_cases c : t + 1 < K
    · rw [if_pos c, if_pos c]
      have h1 := h.2.2.1 (t + 1) c
      have h2 := h.2.2.2 t c
      omega
    · rw [if_neg c, if_neg c]
      omega
theorem pd_vc_ok {a b : Nat → Int32} {W : pd_W} {al ah bl bh K : Nat} {D E : Nat → Nat} (h : pd_CK a b al ah bl bh K D E) (ha : al ≤ ah) (hb : bl ≤ bh)
    (hW : ∀ t, t ≤ K → pd_ok a b (W (pd_lo al D K t) (pd_hi ah D t) (pd_lo bl E K t) (pd_hi bh E t)) (pd_lo al D K t) (pd_hi ah D t) (pd_lo bl E K t) (pd_hi bh E t)) :
    ∀ u t, t + u = K → pd_ok a b (pd_vc W al ah bl bh K D E) al (pd_hi ah D t) bl (pd_hi bh E t) := by
  have hsub : ∀ t, t ≤ K → pd_ok a b (pd_vc W al ah bl bh K D E) (pd_lo al D K t) (pd_hi ah D t) (pd_lo bl E K t) (pd_hi bh E t) := fun t ht => pd_ok_c (fun x h1 h2 => pd_vc_in h ht h1 h2) (hW t ht)
  intro u
  induction u with
  | zero =>
    intro t ht
    have := hsub t (by omega)
    unfold pd_lo at this
    rw [if_neg (by omega), if_neg (by omega)] at this
    exact this
  | succ u ih =>
    intro t ht
    have h1 := ih (t + 1) (by omega)
    have h2 := hsub t (by omega)
    have h3 := h.2.2.1 t (by omega)
    have h4 := pd_CK_lh h ha hb (t := t) (by omega)
    have el : pd_lo al D K t = D t + 1 := if_pos (by omega)
    have el' : pd_lo bl E K t = E t + 1 := if_pos (by omega)
    rw [el, el'] at h2 h4
    have h1' : pd_ok a b (pd_vc W al ah bl bh K D E) al (D t) bl (E t) := h1
    exact pd_ok_g (by omega) (by omega) (pd_ok_g (by omega) (by omega) h1' (pd_ok_1 (pd_vc_at h (by omega)) h3.2.2.2.2)) h2
theorem pd_vm_ok {a b : Nat → Int32} {W : pd_W} (hW : ∀ al ah bl bh, al ≤ ah → bl ≤ bh → pd_ok a b (W al ah bl bh) al ah bl bh) {al ah bl bh : Nat} (ha : al ≤ ah) (hb : bl ≤ bh) : pd_ok a b (pd_vm a b W al ah bl bh) al ah bl bh := by
  by_cases e : al = ah ∨ bl = bh
  · exact pd_ok_n (fun x _ _ => if_pos e)
  · by_cases z : (pd_A a b al ah bl bh).1 = 0
    · exact pd_ok_c (fun x _ _ => by unfold pd_vm; rw [if_neg e, if_pos z]) (pd_lm_ok _ _ _ ha hb)
    · refine pd_ok_c (fun x _ _ => by unfold pd_vm; rw [if_neg e, if_neg z]) (pd_vc_ok (pd_CK_A z ha) ha hb (fun t ht => ?_) _ 0 (Nat.zero_add _))
      have := pd_CK_lh (pd_CK_A z ha) ha hb ht
      exact hW _ _ _ _ this.2.1 this.2.2.2.2.1
theorem pd_vt_ok {a b : Nat → Int32} {W : pd_W} (hW : ∀ al ah bl bh, al ≤ ah → bl ≤ bh → pd_ok a b (W al ah bl bh) al ah bl bh) {al ah bl bh : Nat} (ha : al ≤ ah) (hb : bl ≤ bh) : pd_ok a b (pd_vt a b W al ah bl bh) al ah bl bh := by
  have hs := pd_s_le (a := a) (b := b) (al := al) (ah := ah) (bl := bl) (bh := bh)
  have hq := pd_sf_eq (a := a) (b := b) (min (ah - al) (bh - bl)) ah bh
  have es : pd_sf a b (min (ah - al) (bh - bl)) ah bh = pd_s a b al ah bl bh := rfl
  rw [es] at hq
  generalize hS : pd_s a b al ah bl bh = S at *
  have hF : ∀ x, pd_vt a b W al ah bl bh x = if ah - S ≤ x then some (bh - (ah - x)) else pd_vm a b W al (ah - S) bl (bh - S) x := fun x => by unfold pd_vt; rw [hS]
  refine pd_ok_g (x := ah - S) (y := bh - S) (by omega) (by omega) (pd_ok_c (fun x h1 h2 => by rw [hF, if_neg (by omega)]) (pd_vm_ok hW (by omega) (by omega))) ⟨fun i j h1 h2 h3 => ?_, fun i i' j j' h1 h2 h3 h4 h5 => ?_⟩
  · rw [hF, if_pos h1] at h3
    cases h3
    have := hq (ah - 1 - i) (by omega)
    rw [show ah - 1 - (ah - 1 - i) = i by omega, show bh - 1 - (ah - 1 - i) = bh - (ah - i) by omega] at this
    exact ⟨by omega, by omega, this⟩
  · rw [hF, if_pos (by omega)] at h4 h5
    cases h4
    cases h5
    omega
theorem pd_vs_ok {a b : Nat → Int32} {W : pd_W} (hW : ∀ al ah bl bh, al ≤ ah → bl ≤ bh → pd_ok a b (W al ah bl bh) al ah bl bh) {al ah bl bh : Nat} (ha : al ≤ ah) (hb : bl ≤ bh) : pd_ok a b (pd_vs a b W al ah bl bh) al ah bl bh := by
  have hp := pd_p_le (a := a) (b := b) (al := al) (ah := ah) (bl := bl) (bh := bh)
  have hq := pd_pf_eq (a := a) (b := b) (min (ah - al) (bh - bl)) al bl
  have ep : pd_pf a b (min (ah - al) (bh - bl)) al bl = pd_p a b al ah bl bh := rfl
  rw [ep] at hq
  generalize hP : pd_p a b al ah bl bh = P at *
  have hF : ∀ x, pd_vs a b W al ah bl bh x = if x < al + P then some (bl + (x - al)) else pd_vt a b W (al + P) ah (bl + P) bh x := fun x => by unfold pd_vs; rw [hP]
  refine pd_ok_g (x := al + P) (y := bl + P) (by omega) (by omega) ⟨fun i j h1 h2 h3 => ?_, fun i i' j j' h1 h2 h3 h4 h5 => ?_⟩ (pd_ok_c (fun x h1 h2 => by rw [hF, if_neg (by omega)]) (pd_vt_ok hW (by omega) (by omega)))
  · rw [hF, if_pos h2] at h3
    cases h3
    have := hq (i - al) (by omega)
    rw [show al + (i - al) = i by omega] at this
    exact ⟨by omega, by omega, this⟩
  · rw [hF, if_pos (by omega)] at h4 h5
    cases h4
    cases h5
    omega
theorem pd_V_ok {a b : Nat → Int32} : ∀ f al ah bl bh, al ≤ ah → bl ≤ bh → pd_ok a b (pd_V a b f al ah bl bh) al ah bl bh := by
  intro f
  induction f with
  | zero => intro al ah bl bh _ _; exact pd_ok_n (fun x _ _ => rfl)
  | succ f ih => intro al ah bl bh ha hb; exact pd_vs_ok ih ha hb
