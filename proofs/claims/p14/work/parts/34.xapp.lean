/-! apply: places and output, pure; then X -/
def pd_cu (ps : Nat → Option (Nat × Nat × Nat)) (h : Nat) : Nat := match ps h with
  | some s => s.1
  | none => 0
def pd_pk (ps : Nat → Option (Nat × Nat × Nat)) (h : Nat) : Nat := match ps (h + 1) with
  | some s => s.2.1
  | none => 0
theorem pd_cu_e {ps : Nat → Option (Nat × Nat × Nat)} {h : Nat} {s : Nat × Nat × Nat} (e : ps h = some s) : pd_cu ps h = s.1 := by
  unfold pd_cu
  rw [e]
theorem pd_pk_e {ps : Nat → Option (Nat × Nat × Nat)} {h : Nat} {s : Nat × Nat × Nat} (e : ps (h + 1) = some s) : pd_pk ps h = s.2.1 := by
  unfold pd_pk
  rw [e]
def pd_ou (base b : Nat → Int32) (ps : Nat → Option (Nat × Nat × Nat)) (bS bL : Nat → Nat) (R0 : Nat → Int32) : Nat → Nat × (Nat → Int32)
  | 0 => (0, R0)
  | h + 1 => ((pd_ou base b ps bS bL R0 h).1 + (pd_pk ps h - pd_cu ps h) + bL h, pd_cp (pd_cp (pd_ou base b ps bS bL R0 h).2 (pd_ou base b ps bS bL R0 h).1 base (pd_cu ps h) (pd_pk ps h - pd_cu ps h)) ((pd_ou base b ps bS bL R0 h).1 + (pd_pk ps h - pd_cu ps h)) b (bS h) (bL h))
theorem pd_ou_s (base b : Nat → Int32) (ps : Nat → Option (Nat × Nat × Nat)) (bS bL : Nat → Nat) (R0 : Nat → Int32) (h : Nat) : pd_ou base b ps bS bL R0 (h + 1) = ((pd_ou base b ps bS bL R0 h).1 + (pd_pk ps h - pd_cu ps h) + bL h, pd_cp (pd_cp (pd_ou base b ps bS bL R0 h).2 (pd_ou base b ps bS bL R0 h).1 base (pd_cu ps h) (pd_pk ps h - pd_cu ps h)) ((pd_ou base b ps bS bL R0 h).1 + (pd_pk ps h - pd_cu ps h)) b (bS h) (bL h)) := rfl
theorem pd_ou_e {base b : Nat → Int32} {ps : Nat → Option (Nat × Nat × Nat)} {bS bL : Nat → Nat} {R T : Nat → Int32} : ∀ h, (pd_ou base b ps bS bL R h).1 = (pd_ou base b ps bS bL T h).1 ∧ ∀ q, q < (pd_ou base b ps bS bL R h).1 → (pd_ou base b ps bS bL R h).2 q = (pd_ou base b ps bS bL T h).2 q := by
  intro h
  induction h with
  | zero => exact ⟨rfl, fun q hq => absurd hq (Nat.not_lt_zero _)⟩
  | succ h ih =>
    rw [pd_ou_s, pd_ou_s, ← ih.1]
    exact ⟨rfl, pd_cp_e (pd_cp_e ih.2 _ _ _) _ _ _⟩
def pd_bE (bS bL : Nat → Nat) : Nat → Nat
  | 0 => 0
  | h + 1 => bS h + bL h
/-- how the hunks lie: in order, within A and B -/
def pd_geo (H n m : Nat) (aS aL bS bL : Nat → Nat) : Prop := (∀ h, h < H → aS h + aL h ≤ n ∧ bS h + bL h ≤ m) ∧ (∀ h, h + 1 < H → aS h + aL h ≤ aS (h + 1) ∧ bS h + bL h ≤ bS (h + 1))
section PSI
variable {base a b : Nat → Int32} {z r H n m : Nat} {aS aL bS bL : Nat → Nat}
theorem pd_ft_k {cur P s l : Nat} (h : pd_ft base a z s l cur P = true) : cur ≤ P ∧ P + l ≤ z ∧ ∀ t, t < l → base (P + t) = a (s + t) := of_decide_eq_true h
theorem pd_ps_x {h : Nat} {s' : Nat × Nat × Nat} (e : pd_ps base a z r aS aL (h + 1) = some s') : ∃ s Q, pd_ps base a z r aS aL h = some s ∧ pd_fp (pd_ft base a z (aS h) (aL h) s.1) (aS h - s.2.2 + s.2.1) (r + 1) 0 = some Q ∧ s' = (Q + aL h, Q, aS h) ∧ s.1 ≤ Q ∧ Q + aL h ≤ z := by
  cases hs : pd_ps base a z r aS aL h with
  | none =>
    rw [pd_ps, hs] at e
    exact nomatch e
  | some s =>
    cases hf : pd_fp (pd_ft base a z (aS h) (aL h) s.1) (aS h - s.2.2 + s.2.1) (r + 1) 0 with
    | none =>
      rw [pd_ps_n base a z r aS aL hs hf] at e
      exact nomatch e
    | some Q =>
      rw [pd_ps_y base a z r aS aL hs hf] at e
      cases e
      have := pd_ft_k (pd_fp_k _ _ hf)
      exact ⟨s, Q, rfl, hf, rfl, this.1, this.2.1⟩
theorem pd_ps_none {h : Nat} (e : pd_ps base a z r aS aL h = none) : ∀ d, pd_ps base a z r aS aL (h + d) = none := by
  intro d
  induction d with
  | zero => exact e
  | succ d ih =>
    show pd_ps base a z r aS aL (h + d + 1) = none
    rw [pd_ps, ih]
theorem pd_ps_i (hG : pd_geo H n m aS aL bS bL) : ∀ h s, h ≤ H → pd_ps base a z r aS aL h = some s → s.1 ≤ z ∧ s.2.1 ≤ s.1 ∧ (h < H → s.2.2 ≤ aS h ∧ pd_bE bS bL h ≤ bS h) ∧ s.2.2 ≤ n ∧ pd_bE bS bL h ≤ m := by
  intro h
  cases h with
  | zero =>
    intro s _ e
    cases e
    exact ⟨Nat.zero_le _, Nat.le_refl _, fun _ => ⟨Nat.zero_le _, Nat.zero_le _⟩, Nat.zero_le _, Nat.zero_le _⟩
  | succ h =>
    intro s hh e
    obtain ⟨s0, Q, e0, e1, rfl, e3, e4⟩ := pd_ps_x e
    have g1 := hG.1 h (by omega)
    refine ⟨e4, by dsimp only; omega, fun hl => ?_, by dsimp only; omega, g1.2⟩
    have g2 := hG.2 h hl
    exact ⟨by dsimp only; omega, g2.2⟩
theorem pd_ou_b (hG : pd_geo H n m aS aL bS bL) {R : Nat → Int32} : ∀ h s, h ≤ H → pd_ps base a z r aS aL h = some s → (pd_ou base b (pd_ps base a z r aS aL) bS bL R h).1 ≤ s.1 + pd_bE bS bL h := by
  intro h
  induction h with
  | zero => intro s _ _; exact Nat.zero_le _
  | succ h ih =>
    intro s hh e
    obtain ⟨s0, Q, e0, e1, e2, e3, e4⟩ := pd_ps_x e
    have i1 := ih s0 (by omega) e0
    have i2 := (pd_ps_i hG h s0 (by omega) e0).2.2.1 (by omega)
    rw [pd_ou_s, pd_cu_e e0, pd_pk_e e]
    subst e2
    show (pd_ou base b (pd_ps base a z r aS aL) bS bL R h).1 + (Q - s0.1) + bL h ≤ Q + aL h + (bS h + bL h)
    omega
end PSI
section XAP
variable {xcp xcx xoc xnc xbc xrc xhd xhr xpc xop xht xgc xac : Int32} {xol xnl xbl xrl xpa xok xoh xoi xhf xhs xho xhp xhn xhm xtp xap xg0 xg1 xg2 xg3 xao xan xar xlc : Nat → Int32}
variable {z r H n m : Nat} {aS aL bS bL : Nat → Nat}
theorem xa_fit25 {post : Int32 → Prop} {h P s l : Nat} (hh : h < 64) (e1 : xhp h = nI l) (e2 : xho h = nI s) (ha : s + l ≤ 32) (hP : P + l ≤ 32) (K1 : (∀ t, t < l → xbl (P + t) = xol (s + t)) → post 1) (K0 : ¬ (∀ t, t < l → xbl (P + t) = xol (s + t)) → post 0) :
    ∀ d t, t + d = l → (∀ t', t' < t → xbl (P + t') = xol (s + t')) → wX_fitsAt_25 post (nI h) (nI P) xcp xcx xoc xnc xbc xrc xhd xhr xpc xop xht xgc xac xol xnl xbl xrl xpa xok xoh xoi xhf xhs xho xhp xhn xhm xtp xap xg0 xg1 xg2 xg3 xao xan xar xlc (d + 1) (nI t) := by
  have zh : (nI h).toNatClampNeg = h := nI_clamp (by omega)
  have vh : vp_in (nI h) 64 := vp_in_nI hh (by decide)
  have f1 : xhp (nI h).toNatClampNeg = nI l := by rw [zh, e1]
  have f2 : xho (nI h).toNatClampNeg = nI s := by rw [zh, e2]
  intro d
  induction d with
  | zero =>
    intro t ht hq
    have et : t = l := by omega
    subst et
    exact And.intro vh (pk_le t t (fun _ => K1 hq) (fun c => absurd c (by omega)) f1)
  | succ d ih =>
    intro t ht hq
    refine And.intro vh (pk_le l t (fun c => absurd c (by omega)) (fun c => And.intro (by rw [nI_add]; exact vp_in_nI (by omega) (by decide)) (And.intro vh (And.intro (by rw [f2, nI_add]; exact vp_in_nI (by omega) (by decide)) (br_c (fun c1 => ?_) (fun c1 => ?_))))) f1)
    · rw [f2, nI_add, nI_add, nI_clamp (by omega), nI_clamp (by omega)] at c1
      refine nm_r (nI_1 t) (ih (t + 1) (by omega) (fun t' ht' => ?_))
      by_cases e : t' = t
      · rw [e]; exact c1
      · exact hq t' (by omega)
    · rw [f2, nI_add, nI_add, nI_clamp (by omega), nI_clamp (by omega)] at c1
      exact K0 (fun w => c1 (w t (by omega)))
theorem xa_fitsAt {post : Int32 → Prop} {h P s l cur : Nat} (hh : h < 64) (e1 : xhp h = nI l) (e2 : xho h = nI s) (ha : s + l ≤ 32) (hz : z ≤ 32) (hP : P < 1000) (hc : cur ≤ 32) (K1 : pd_ft xbl xol z s l cur P = true → post 1) (K0 : ¬ pd_ft xbl xol z s l cur P = true → post 0) : wpX_fitsAt post (xcp, xcx, xoc, xnc, nI z, xrc, xhd, xhr, xpc, xop, xht, xgc, xac, xol, xnl, xbl, xrl, xpa, xok, xoh, xoi, xhf, xhs, xho, xhp, xhn, xhm, xtp, xap, xg0, xg1, xg2, xg3, xao, xan, xar, xlc) (nI h) (nI P) (nI cur) := by
  have zh : (nI h).toNatClampNeg = h := nI_clamp (by omega)
  have vh : vp_in (nI h) 64 := vp_in_nI hh (by decide)
  refine pk_lt P cur (fun c => K0 (fun w => ?_)) (fun c => And.intro vh (pk_le (P + l) z (fun c2 => ⟨_, xa_fit25 hh e1 e2 ha (by omega) (fun w => K1 (decide_eq_true ⟨c, c2, w⟩)) (fun w => K0 (fun w2 => w (pd_ft_k w2).2.2)) l 0 (by omega) (fun t' ht' => absurd ht' (Nat.not_lt_zero _))⟩) (fun c2 => K0 (fun w => ?_)) (by rw [zh, e1, nI_add])))
  · have := (pd_ft_k w).1
    omega
  · have := (pd_ft_k w).2.1
    omega
theorem pd_neg {E s cur : Nat} (h : E < s) (hs : s < 1000) (hc : cur ≤ 32) : nI E - nI s < nI cur := by
  rw [Int32.lt_iff_toInt_lt, pk_sub_toInt (by omega) (by omega), nI_toInt (by omega)]
  omega
theorem xa_find3 {post : Int32 → Prop} {h E s l cur : Nat} (hh : h < 64) (e1 : xhp h = nI l) (e2 : xho h = nI s) (ha : s + l ≤ 32) (hz : z ≤ 32) (hE : E ≤ 200) (hr : r ≤ 8) (hc : cur ≤ 32) :
    ∀ k o, o + k = r + 1 → post (pd_e (pd_fp (pd_ft xbl xol z s l cur) E k o)) → wX_findPlace_3 post (nI h) (nI E) (nI cur) (nI r) xcp xcx xoc xnc (nI z) xrc xhd xhr xpc xop xht xgc xac xol xnl xbl xrl xpa xok xoh xoi xhf xhs xho xhp xhn xhm xtp xap xg0 xg1 xg2 xg3 xao xan xar xlc (k + 1) (nI o) := by
  intro k
  induction k with
  | zero =>
    intro o ho K
    exact br_t (nI_lt (by omega) (by omega)) K
  | succ k ih =>
    intro o ho K
    rw [pd_fp_s] at K
    have d1 : ¬ (1 : Int32) = 0 := by decide
    have second : ¬ (o ≤ E ∧ pd_ft xbl xol z s l cur (E - o) = true) → wpX_fitsAt (fun r_41 => ((r_41 = 0 → ∀ x5_80 : Int32, x5_80 = nI o + 1 → wX_findPlace_3 post (nI h) (nI E) (nI cur) (nI r) xcp xcx xoc xnc (nI z) xrc xhd xhr xpc xop xht xgc xac xol xnl xbl xrl xpa xok xoh xoi xhf xhs xho xhp xhn xhm xtp xap xg0 xg1 xg2 xg3 xao xan xar xlc (k + 1) x5_80) ∧ (¬ r_41 = 0 → post (nI E + nI o)))) (xcp, xcx, xoc, xnc, nI z, xrc, xhd, xhr, xpc, xop, xht, xgc, xac, xol, xnl, xbl, xrl, xpa, xok, xoh, xoi, xhf, xhs, xho, xhp, xhn, xhm, xtp, xap, xg0, xg1, xg2, xg3, xao, xan, xar, xlc) (nI h) (nI E + nI o) (nI cur) := fun w => by
      rw [if_neg w] at K
      rw [nI_add]
      refine xa_fitsAt hh e1 e2 ha hz (by omega) hc (fun w2 => br_f d1 ?_) (fun w2 => br_t rfl (nm_r (nI_1 o) (ih (o + 1) (by omega) ?_)))
      · rw [if_pos w2] at K
        exact K
      · rw [if_neg w2] at K
        exact K
    refine br_f (nI_nlt (by omega) (by omega)) ?_
    by_cases c : o ≤ E
    · rw [pk_sub c]
      refine xa_fitsAt hh e1 e2 ha hz (by omega) hc (fun w => br_f d1 ?_) (fun w => br_t rfl (second (fun w2 => w w2.2)))
      rw [if_pos ⟨c, w⟩] at K
      exact K
    · exact br_t (pd_neg (by omega) (by omega) hc) (br_t rfl (second (fun w => c w.1)))
theorem xa_findPlace {post : Int32 → Prop} {h E s l cur : Nat} (hh : h < 64) (e1 : xhp h = nI l) (e2 : xho h = nI s) (ha : s + l ≤ 32) (hz : z ≤ 32) (hE : E ≤ 200) (hr : r ≤ 8) (hc : cur ≤ 32) (K : post (pd_e (pd_fp (pd_ft xbl xol z s l cur) E (r + 1) 0))) : wpX_findPlace post (xcp, xcx, xoc, xnc, nI z, xrc, xhd, xhr, xpc, xop, xht, xgc, xac, xol, xnl, xbl, xrl, xpa, xok, xoh, xoi, xhf, xhs, xho, xhp, xhn, xhm, xtp, xap, xg0, xg1, xg2, xg3, xao, xan, xar, xlc) (nI h) (nI E) (nI cur) (nI r) :=
  ⟨_, xa_find3 hh e1 e2 ha hz hE hr hc (r + 1) 0 (by omega) K⟩
theorem pd_shift {A P S : Nat} (h : S ≤ A) : nI A + (nI P - nI S) = nI (A - S + P) := by
  obtain ⟨d, rfl⟩ : ∃ d, A = d + S := ⟨A - S, by omega⟩
  rw [Nat.add_sub_cancel, ← nI_add, ← nI_add]
  grind
theorem xa_place7 {post : Int32 → St2 → Prop} (hH : H ≤ 64) (hz : z ≤ 32) (hn : n ≤ 32) (hr : r ≤ 8) (hG : pd_geo H n m aS aL bS bL) (e1 : ∀ h, h < H → xhp h = nI (aL h)) (e2 : ∀ h, h < H → xho h = nI (aS h))
    (K1 : ∀ h T, h < H → (∃ s, pd_ps xbl xol z r aS aL h = some s) → pd_ps xbl xol z r aS aL (h + 1) = none → post (nI h) (xcp, xcx, xoc, xnc, nI z, xrc, xhd, xhr, xpc, xop, nI H, xgc, xac, xol, xnl, xbl, xrl, xpa, xok, xoh, xoi, xhf, xhs, xho, xhp, xhn, xhm, T, xap, xg0, xg1, xg2, xg3, xao, xan, xar, xlc))
    (K2 : ∀ s T, pd_ps xbl xol z r aS aL H = some s → (∀ q, q < H → T q = nI (pd_pk (pd_ps xbl xol z r aS aL) q)) → post (nI H) (xcp, xcx, xoc, xnc, nI z, xrc, xhd, xhr, xpc, xop, nI H, xgc, xac, xol, xnl, xbl, xrl, xpa, xok, xoh, xoi, xhf, xhs, xho, xhp, xhn, xhm, T, xap, xg0, xg1, xg2, xg3, xao, xan, xar, xlc)) :
    ∀ d h s T, h + d = H → pd_ps xbl xol z r aS aL h = some s → (∀ q, q < h → T q = nI (pd_pk (pd_ps xbl xol z r aS aL) q)) →
    wX_placeHunks_7 post (nI r) xcp xcx xoc xnc (nI z) xrc xhd xhr xpc xop (nI H) xgc xac (d + 1) (nI s.1) (nI s.2.1 - nI s.2.2) (nI h) xol xnl xbl xrl xpa xok xoh xoi xhf xhs xho xhp xhn xhm T xap xg0 xg1 xg2 xg3 xao xan xar xlc := by
  intro d
  induction d with
  | zero =>
    intro h s T hd hs hT
    have eh : h = H := by omega
    subst eh
    exact br_t (nI_le (Nat.le_refl _) (by omega)) (K2 s T hs hT)
  | succ d ih =>
    intro h s T hd hs hT
    have zh : (nI h).toNatClampNeg = h := nI_clamp (by omega)
    have vh : vp_in (nI h) 64 := vp_in_nI (by omega) (by decide)
    have hi := pd_ps_i hG h s (by omega) hs
    have hg := hG.1 h (by omega)
    have hsl := hi.2.2.1 (by omega)
    refine br_f (nI_ge (by omega) (by omega)) (And.intro vh ?_)
    rw [zh, e2 h (by omega), pd_shift hsl.1]
    refine xa_findPlace (s := aS h) (l := aL h) (by omega) (e1 h (by omega)) (e2 h (by omega)) (by omega) hz (by omega) hr (by omega) ?_
    cases hf : pd_fp (pd_ft xbl xol z (aS h) (aL h) s.1) (aS h - s.2.2 + s.2.1) (r + 1) 0 with
    | none => exact br_t rfl (K1 h T (by omega) ⟨s, hs⟩ (pd_ps_n _ _ _ _ _ _ hs hf))
    | some Q =>
      have hs' := pd_ps_y xbl xol z r aS aL hs hf
      have hQ := pd_ft_k (pd_fp_k _ _ hf)
      refine br_f (pd_ne1 (by omega)) (And.intro vh (nm_r (e' := upd T h (nI Q)) rfl (And.intro vh (nm_r (e' := nI (Q + aL h)) ?_ (And.intro vh (nm_r (e' := nI Q - nI (aS h)) rfl (nm_r (nI_1 h) (ih (h + 1) (Q + aL h, Q, aS h) _ (by omega) hs' (fun q hq => ?_)))))))))
      · rw [e1 h (by omega)]
        exact nI_add Q (aL h)
      · by_cases e : q = h
        · subst e
          rw [pk_us, pd_pk_e hs']
        · rw [pk_un e]
          exact hT q (by omega)
end XAP
