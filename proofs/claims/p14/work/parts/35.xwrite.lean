/-! X: appendRun, writeResult, apply -/
section XWR
variable {xcp xcx xoc xnc xbc xrc xhd xhr xpc xop xht xgc xac : Int32} {xol xnl xbl xrl xpa xok xoh xoi xhf xhs xho xhp xhn xhm xtp xap xg0 xg1 xg2 xg3 xao xan xar xlc : Nat → Int32}
variable {z r H n m : Nat} {aS aL bS bL : Nat → Nat}
theorem xa_ap3_xbl {post : St2 → Prop} {f t o : Nat} (hf : f ≤ 64) (ht : t ≤ 32) (R0 : Nat → Int32) (ho : o + (t - f) ≤ 64) (K : post (xcp, xcx, xoc, xnc, xbc, nI (o + (t - f)), xhd, xhr, xpc, xop, xht, xgc, xac, xol, xnl, xbl, pd_cp R0 o xbl f (t - f), xpa, xok, xoh, xoi, xhf, xhs, xho, xhp, xhn, xhm, xtp, xap, xg0, xg1, xg2, xg3, xao, xan, xar, xlc)) :
    ∀ d q, q + d = t - f → wX_appendRun_3 post (nI t) xcp xcx xoc xnc xbc xhd xhr xpc xop xht xgc xac (d + 1) (nI (f + q)) (nI (o + q)) xol xnl xbl (pd_cp R0 o xbl f q) xpa xok xoh xoi xhf xhs xho xhp xhn xhm xtp xap xg0 xg1 xg2 xg3 xao xan xar xlc := by
  intro d
  induction d with
  | zero =>
    intro q hq
    have eq : q = t - f := by omega
    subst eq
    exact br_t (nI_le (by omega) (by omega)) K
  | succ d ih =>
    intro q hq
    have z1 : (nI (f + q)).toNatClampNeg = f + q := nI_clamp (by omega)
    have z2 : (nI (o + q)).toNatClampNeg = o + q := nI_clamp (by omega)
    exact br_f (nI_ge (by omega) (by omega)) (And.intro (vp_in_nI (by omega) (by decide)) (And.intro (vp_in_nI (by omega) (by decide)) (nm_r (e' := pd_cp R0 o xbl f (q + 1)) (by rw [z1, z2, pd_cp_s]) (nm_r (nI_1 (o + q)) (nm_r (nI_1 (f + q)) (ih (q + 1) (by omega)))))))
theorem xa_app_xbl {post : St2 → Prop} {f t o : Nat} (hf : f ≤ 64) (ht : t ≤ 32) (ho : o + (t - f) ≤ 64) (K : post (xcp, xcx, xoc, xnc, xbc, nI (o + (t - f)), xhd, xhr, xpc, xop, xht, xgc, xac, xol, xnl, xbl, pd_cp xrl o xbl f (t - f), xpa, xok, xoh, xoi, xhf, xhs, xho, xhp, xhn, xhm, xtp, xap, xg0, xg1, xg2, xg3, xao, xan, xar, xlc)) : wpX_appendRun post (xcp, xcx, xoc, xnc, xbc, nI o, xhd, xhr, xpc, xop, xht, xgc, xac, xol, xnl, xbl, xrl, xpa, xok, xoh, xoi, xhf, xhs, xho, xhp, xhn, xhm, xtp, xap, xg0, xg1, xg2, xg3, xao, xan, xar, xlc) (nI f) (nI t) := by
  have := xa_ap3_xbl (post := post) (f := f) (t := t) (o := o) (xcp := xcp) (xcx := xcx) (xoc := xoc) (xnc := xnc) (xbc := xbc) (xhd := xhd) (xhr := xhr) (xpc := xpc) (xop := xop) (xht := xht) (xgc := xgc) (xac := xac) (xol := xol) (xnl := xnl) (xbl := xbl) (xpa := xpa) (xok := xok) (xoh := xoh) (xoi := xoi) (xhf := xhf) (xhs := xhs) (xho := xho) (xhp := xhp) (xhn := xhn) (xhm := xhm) (xtp := xtp) (xap := xap) (xg0 := xg0) (xg1 := xg1) (xg2 := xg2) (xg3 := xg3) (xao := xao) (xan := xan) (xar := xar) (xlc := xlc) hf ht xrl ho K (t - f) 0 (by omega)
  rw [pd_cp_0] at this
  exact ⟨_, this⟩
theorem xa_ap3_xnl {post : St2 → Prop} {f t o : Nat} (hf : f ≤ 64) (ht : t ≤ 32) (R0 : Nat → Int32) (ho : o + (t - f) ≤ 64) (K : post (xcp, xcx, xoc, xnc, xbc, nI (o + (t - f)), xhd, xhr, xpc, xop, xht, xgc, xac, xol, xnl, xbl, pd_cp R0 o xnl f (t - f), xpa, xok, xoh, xoi, xhf, xhs, xho, xhp, xhn, xhm, xtp, xap, xg0, xg1, xg2, xg3, xao, xan, xar, xlc)) :
    ∀ d q, q + d = t - f → wX_appendRun_2_3 post (nI t) xcp xcx xoc xnc xbc xhd xhr xpc xop xht xgc xac (d + 1) (nI (f + q)) (nI (o + q)) xol xnl xbl (pd_cp R0 o xnl f q) xpa xok xoh xoi xhf xhs xho xhp xhn xhm xtp xap xg0 xg1 xg2 xg3 xao xan xar xlc := by
  intro d
  induction d with
  | zero =>
    intro q hq
    have eq : q = t - f := by omega
    subst eq
    exact br_t (nI_le (by omega) (by omega)) K
  | succ d ih =>
    intro q hq
    have z1 : (nI (f + q)).toNatClampNeg = f + q := nI_clamp (by omega)
    have z2 : (nI (o + q)).toNatClampNeg = o + q := nI_clamp (by omega)
    exact br_f (nI_ge (by omega) (by omega)) (And.intro (vp_in_nI (by omega) (by decide)) (And.intro (vp_in_nI (by omega) (by decide)) (nm_r (e' := pd_cp R0 o xnl f (q + 1)) (by rw [z1, z2, pd_cp_s]) (nm_r (nI_1 (o + q)) (nm_r (nI_1 (f + q)) (ih (q + 1) (by omega)))))))
theorem xa_app_xnl {post : St2 → Prop} {f t o : Nat} (hf : f ≤ 64) (ht : t ≤ 32) (ho : o + (t - f) ≤ 64) (K : post (xcp, xcx, xoc, xnc, xbc, nI (o + (t - f)), xhd, xhr, xpc, xop, xht, xgc, xac, xol, xnl, xbl, pd_cp xrl o xnl f (t - f), xpa, xok, xoh, xoi, xhf, xhs, xho, xhp, xhn, xhm, xtp, xap, xg0, xg1, xg2, xg3, xao, xan, xar, xlc)) : wpX_appendRun_2 post (xcp, xcx, xoc, xnc, xbc, nI o, xhd, xhr, xpc, xop, xht, xgc, xac, xol, xnl, xbl, xrl, xpa, xok, xoh, xoi, xhf, xhs, xho, xhp, xhn, xhm, xtp, xap, xg0, xg1, xg2, xg3, xao, xan, xar, xlc) (nI f) (nI t) := by
  have := xa_ap3_xnl (post := post) (f := f) (t := t) (o := o) (xcp := xcp) (xcx := xcx) (xoc := xoc) (xnc := xnc) (xbc := xbc) (xhd := xhd) (xhr := xhr) (xpc := xpc) (xop := xop) (xht := xht) (xgc := xgc) (xac := xac) (xol := xol) (xnl := xnl) (xbl := xbl) (xpa := xpa) (xok := xok) (xoh := xoh) (xoi := xoi) (xhf := xhf) (xhs := xhs) (xho := xho) (xhp := xhp) (xhn := xhn) (xhm := xhm) (xtp := xtp) (xap := xap) (xg0 := xg0) (xg1 := xg1) (xg2 := xg2) (xg3 := xg3) (xao := xao) (xan := xan) (xar := xar) (xlc := xlc) hf ht xrl ho K (t - f) 0 (by omega)
  rw [pd_cp_0] at this
  exact ⟨_, this⟩
theorem xa_wr9 {post : St2 → Prop} {R0 : Nat → Int32} (hH : H ≤ 64) (hz : z ≤ 32) (hn : n ≤ 32) (hm : m ≤ 32) (hG : pd_geo H n m aS aL bS bL) (e1 : ∀ h, h < H → xhp h = nI (aL h)) (e3 : ∀ h, h < H → xhn h = nI (bS h)) (e4 : ∀ h, h < H → xhm h = nI (bL h))
    (hsH : ∃ s, pd_ps xbl xol z r aS aL H = some s) (hT : ∀ q, q < H → xtp q = nI (pd_pk (pd_ps xbl xol z r aS aL) q))
    (K : ∀ A, (∀ q, q < H → A q = nI (pd_pk (pd_ps xbl xol z r aS aL) q)) → post (xcp, xcx, xoc, xnc, nI z, nI ((pd_ou xbl xnl (pd_ps xbl xol z r aS aL) bS bL R0 H).1 + (z - pd_cu (pd_ps xbl xol z r aS aL) H)), xhd, 1, xpc, xop, nI H, xgc, xac, xol, xnl, xbl, pd_cp (pd_ou xbl xnl (pd_ps xbl xol z r aS aL) bS bL R0 H).2 (pd_ou xbl xnl (pd_ps xbl xol z r aS aL) bS bL R0 H).1 xbl (pd_cu (pd_ps xbl xol z r aS aL) H) (z - pd_cu (pd_ps xbl xol z r aS aL) H), xpa, xok, xoh, xoi, xhf, xhs, xho, xhp, xhn, xhm, xtp, A, xg0, xg1, xg2, xg3, xao, xan, xar, xlc)) :
    ∀ d h A, h + d = H → (∀ q, q < h → A q = nI (pd_pk (pd_ps xbl xol z r aS aL) q)) →
    wX_writeResult_9 post (d + 1) (nI (pd_cu (pd_ps xbl xol z r aS aL) h)) (nI h) xcp xcx xoc xnc (nI z) (nI (pd_ou xbl xnl (pd_ps xbl xol z r aS aL) bS bL R0 h).1) xhd xhr xpc xop (nI H) xgc xac xol xnl xbl ((pd_ou xbl xnl (pd_ps xbl xol z r aS aL) bS bL R0 h).2) xpa xok xoh xoi xhf xhs xho xhp xhn xhm xtp A xg0 xg1 xg2 xg3 xao xan xar xlc := by
  have some_at : ∀ h, h ≤ H → ∃ s, pd_ps xbl xol z r aS aL h = some s := fun h hh => by
    cases hs : pd_ps xbl xol z r aS aL h with
    | none =>
      obtain ⟨s, e⟩ := hsH
      have := pd_ps_none hs (H - h)
      rw [show h + (H - h) = H by omega, e] at this
      exact nomatch this
    | some s => exact ⟨s, rfl⟩
  intro d
  induction d with
  | zero =>
    intro h A hd hA
    have eh : h = H := by omega
    subst eh
    obtain ⟨s, hs⟩ := some_at h (Nat.le_refl _)
    have hi := pd_ps_i hG h s (Nat.le_refl _) hs
    have hb := pd_ou_b (b := xnl) (R := R0) hG h s (Nat.le_refl _) hs
    have ec := pd_cu_e hs
    refine br_t (nI_le (Nat.le_refl _) (by omega)) (xa_app_xbl (by omega) hz (by omega) ?_)
    dsimp only
    exact K A hA
  | succ d ih =>
    intro h A hd hA
    obtain ⟨s, hs⟩ := some_at h (by omega)
    obtain ⟨s', hs'⟩ := some_at (h + 1) (by omega)
    have hi := pd_ps_i hG h s (by omega) hs
    have hb := pd_ou_b (b := xnl) (R := R0) hG h s (by omega) hs
    have ec := pd_cu_e hs
    obtain ⟨s2, Q, f1, f2, f3, f4, f5⟩ := pd_ps_x hs'
    rw [hs] at f1
    cases f1
    have ep : pd_pk (pd_ps xbl xol z r aS aL) h = Q := by rw [pd_pk_e hs', f3]
    have hsl := hi.2.2.1 (by omega)
    have hg := hG.1 h (by omega)
    have zh : (nI h).toNatClampNeg = h := nI_clamp (by omega)
    have vh : vp_in (nI h) 64 := vp_in_nI (by omega) (by decide)
    refine br_f (nI_ge (by omega) (by omega)) (And.intro vh ?_)
    rw [zh, hT h (by omega), ep]
    refine xa_app_xbl (by omega) (by omega) (by omega) ?_
    dsimp only
    refine And.intro vh (And.intro vh (And.intro vh ?_))
    rw [e3 h (by omega), e4 h (by omega), nI_add]
    refine xa_app_xnl (by omega) (by omega) (by omega) ?_
    dsimp only
    refine And.intro vh (And.intro vh (nm_r (e' := nI (pd_cu (pd_ps xbl xol z r aS aL) (h + 1))) ?_ (And.intro vh (And.intro vh (nm_r (e' := upd A h (nI Q)) ?_ (nm_r (nI_1 h) ?_))))))
    · rw [hT h (by omega), ep, e1 h (by omega), nI_add, pd_cu_e hs', f3]
    · rw [hT h (by omega), ep]
    · have I := ih (h + 1) (upd A h (nI Q)) (by omega) (fun q hq => by
        by_cases e : q = h
        · subst e; rw [pk_us, ep]
        · rw [pk_un e]; exact hA q (by omega))
      rw [pd_ou_s, ep] at I
      rw [Nat.add_sub_cancel_left]
      exact I
theorem xa_writeResult {post : St2 → Prop} (hH : H ≤ 64) (hz : z ≤ 32) (hn : n ≤ 32) (hm : m ≤ 32) (hG : pd_geo H n m aS aL bS bL) (e1 : ∀ h, h < H → xhp h = nI (aL h)) (e3 : ∀ h, h < H → xhn h = nI (bS h)) (e4 : ∀ h, h < H → xhm h = nI (bL h))
    (hsH : ∃ s, pd_ps xbl xol z r aS aL H = some s) (hT : ∀ q, q < H → xtp q = nI (pd_pk (pd_ps xbl xol z r aS aL) q))
    (K : ∀ A, (∀ q, q < H → A q = nI (pd_pk (pd_ps xbl xol z r aS aL) q)) → post (xcp, xcx, xoc, xnc, nI z, nI ((pd_ou xbl xnl (pd_ps xbl xol z r aS aL) bS bL xrl H).1 + (z - pd_cu (pd_ps xbl xol z r aS aL) H)), xhd, 1, xpc, xop, nI H, xgc, xac, xol, xnl, xbl, pd_cp (pd_ou xbl xnl (pd_ps xbl xol z r aS aL) bS bL xrl H).2 (pd_ou xbl xnl (pd_ps xbl xol z r aS aL) bS bL xrl H).1 xbl (pd_cu (pd_ps xbl xol z r aS aL) H) (z - pd_cu (pd_ps xbl xol z r aS aL) H), xpa, xok, xoh, xoi, xhf, xhs, xho, xhp, xhn, xhm, xtp, A, xg0, xg1, xg2, xg3, xao, xan, xar, xlc)) : wpX_writeResult post (xcp, xcx, xoc, xnc, nI z, xrc, xhd, xhr, xpc, xop, nI H, xgc, xac, xol, xnl, xbl, xrl, xpa, xok, xoh, xoi, xhf, xhs, xho, xhp, xhn, xhm, xtp, xap, xg0, xg1, xg2, xg3, xao, xan, xar, xlc) :=
  ⟨_, xa_wr9 (r := r) (R0 := xrl) hH hz hn hm hG e1 e3 e4 hsH hT K H 0 xap (by omega) (fun q hq => absurd hq (Nat.not_lt_zero _))⟩
theorem xa_apply {post : Int32 → St2 → Prop} {p0 : Int32} (hH : H ≤ 64) (hz : z ≤ 32) (hn : n ≤ 32) (hm : m ≤ 32) (hr : r ≤ 8) (hd : ¬ xhd = 0) (hcl : ∀ post : Int32 → Prop, post (nI r) → wpX_clamp post () p0 0 8) (hG : pd_geo H n m aS aL bS bL) (e1 : ∀ h, h < H → xhp h = nI (aL h)) (e2 : ∀ h, h < H → xho h = nI (aS h)) (e3 : ∀ h, h < H → xhn h = nI (bS h)) (e4 : ∀ h, h < H → xhm h = nI (bL h))
    (K1 : ∀ h T, h < H → (∃ s, pd_ps xbl xol z r aS aL h = some s) → pd_ps xbl xol z r aS aL (h + 1) = none → post ((-2) - nI h) (xcp, xcx, xoc, xnc, nI z, xrc, xhd, xhr, xpc, xop, nI H, xgc, xac, xol, xnl, xbl, xrl, xpa, xok, xoh, xoi, xhf, xhs, xho, xhp, xhn, xhm, T, xap, xg0, xg1, xg2, xg3, xao, xan, xar, xlc))
    (K2 : ∀ A T, (∃ s, pd_ps xbl xol z r aS aL H = some s) → (∀ q, q < H → A q = nI (pd_pk (pd_ps xbl xol z r aS aL) q)) → post (nI H) (xcp, xcx, xoc, xnc, nI z, nI ((pd_ou xbl xnl (pd_ps xbl xol z r aS aL) bS bL xrl H).1 + (z - pd_cu (pd_ps xbl xol z r aS aL) H)), xhd, 1, xpc, xop, nI H, xgc, xac, xol, xnl, xbl, pd_cp (pd_ou xbl xnl (pd_ps xbl xol z r aS aL) bS bL xrl H).2 (pd_ou xbl xnl (pd_ps xbl xol z r aS aL) bS bL xrl H).1 xbl (pd_cu (pd_ps xbl xol z r aS aL) H) (z - pd_cu (pd_ps xbl xol z r aS aL) H), xpa, xok, xoh, xoi, xhf, xhs, xho, xhp, xhn, xhm, T, A, xg0, xg1, xg2, xg3, xao, xan, xar, xlc)) :
    wpX_apply post (xcp, xcx, xoc, xnc, nI z, xrc, xhd, xhr, xpc, xop, nI H, xgc, xac, xol, xnl, xbl, xrl, xpa, xok, xoh, xoi, xhf, xhs, xho, xhp, xhn, xhm, xtp, xap, xg0, xg1, xg2, xg3, xao, xan, xar, xlc) p0 := by
  refine br_f hd (hcl _ ?_)
  have s0 : nI 0 - nI 0 = 0 := Int32.sub_self _
  have := xa_place7 (post := fun r_3 u => match u with | (xcp, xcx, xoc, xnc, xbc, xrc, xhd, xhr, xpc, xop, xht, xgc, xac, xol, xnl, xbl, xrl, xpa, xok, xoh, xoi, xhf, xhs, xho, xhp, xhn, xhm, xtp, xap, xg0, xg1, xg2, xg3, xao, xan, xar, xlc) => ((xht ≤ r_3 → wpX_writeResult (fun u => match u with | (xcp, xcx, xoc, xnc, xbc, xrc, xhd, xhr, xpc, xop, xht, xgc, xac, xol, xnl, xbl, xrl, xpa, xok, xoh, xoi, xhf, xhs, xho, xhp, xhn, xhm, xtp, xap, xg0, xg1, xg2, xg3, xao, xan, xar, xlc) => post xht (xcp, xcx, xoc, xnc, xbc, xrc, xhd, xhr, xpc, xop, xht, xgc, xac, xol, xnl, xbl, xrl, xpa, xok, xoh, xoi, xhf, xhs, xho, xhp, xhn, xhm, xtp, xap, xg0, xg1, xg2, xg3, xao, xan, xar, xlc)) (xcp, xcx, xoc, xnc, xbc, xrc, xhd, xhr, xpc, xop, xht, xgc, xac, xol, xnl, xbl, xrl, xpa, xok, xoh, xoi, xhf, xhs, xho, xhp, xhn, xhm, xtp, xap, xg0, xg1, xg2, xg3, xao, xan, xar, xlc)) ∧ (¬ xht ≤ r_3 → post ((-2) - r_3) (xcp, xcx, xoc, xnc, xbc, xrc, xhd, xhr, xpc, xop, xht, xgc, xac, xol, xnl, xbl, xrl, xpa, xok, xoh, xoi, xhf, xhs, xho, xhp, xhn, xhm, xtp, xap, xg0, xg1, xg2, xg3, xao, xan, xar, xlc)))) (r := r) (z := z) (H := H) (n := n) (m := m) (aS := aS) (aL := aL) (bS := bS) (bL := bL) (xcp := xcp) (xcx := xcx) (xoc := xoc) (xnc := xnc) (xrc := xrc) (xhd := xhd) (xhr := xhr) (xpc := xpc) (xop := xop) (xgc := xgc) (xac := xac) (xol := xol) (xnl := xnl) (xbl := xbl) (xrl := xrl) (xpa := xpa) (xok := xok) (xoh := xoh) (xoi := xoi) (xhf := xhf) (xhs := xhs) (xho := xho) (xhp := xhp) (xhn := xhn) (xhm := xhm) (xap := xap) (xg0 := xg0) (xg1 := xg1) (xg2 := xg2) (xg3 := xg3) (xao := xao) (xan := xan) (xar := xar) (xlc := xlc) hH hz hn hr hG e1 e2 (fun h T h1 h2 h3 => ?_) (fun s T h1 h2 => ?_) H 0 (0, 0, 0) xtp (by omega) rfl (fun q hq => absurd hq (Nat.not_lt_zero _))
  · dsimp only at this
    rw [s0] at this
    exact ⟨_, this⟩
  · dsimp only
    exact br_f (nI_ge h1 (by omega)) (K1 h T h1 h2 h3)
  · dsimp only
    refine br_t (nI_le (Nat.le_refl _) (by omega)) (xa_writeResult (r := r) hH hz hn hm hG e1 e3 e4 ⟨s, h1⟩ h2 (fun A hA => ?_))
    dsimp only
    exact K2 A T ⟨s, h1⟩ hA
end XWR
