/-! X: fillLcs, walkLcs -/
section XLC
variable {xcp xcx xoc xnc xbc xrc xhd xhr xpc xop xht xgc xac : Int32} {xol xnl xbl xrl xpa xok xoh xoi xhf xhs xho xhp xhn xhm xtp xap xg0 xg1 xg2 xg3 xao xan xar xlc : Nat → Int32}
variable {post : St2 → Prop} {n m : Nat} {V0 : Nat → Option Nat} {lo hi : Nat} {gp : Nat → pd_g}
theorem xa_fill24 {J7 : Int32 → (Nat → Int32) → (Nat → Int32) → (Nat → Int32) → (Nat → Int32) → (Nat → Int32) → (Nat → Int32) → (Nat → Int32) → (Nat → Int32) → (Nat → Int32) → (Nat → Int32) → (Nat → Int32) → (Nat → Int32) → (Nat → Int32) → (Nat → Int32) → (Nat → Int32) → (Nat → Int32) → (Nat → Int32) → (Nat → Int32) → (Nat → Int32) → (Nat → Int32) → (Nat → Int32) → (Nat → Int32) → (Nat → Int32) → (Nat → Int32) → Prop} {g al ah bl bh r : Nat} (hg : g < 65) (e1 : xg1 g = nI ah) (e2 : xg2 g = nI bl) (e3 : xg3 g = nI bh) (h1 : ah ≤ 32) (h3 : bh ≤ 32) (hr : al + r ≤ ah)
    (K : ∀ T, pd_tb xol xnl al ah bl bh (r + 1) 0 T → J7 (nI (al + r) - 1) xol xnl xbl xrl xpa xok xoh xoi xhf xhs xho xhp xhn xhm xtp xap xg0 xg1 xg2 xg3 xao xan xar T) :
    ∀ t T, bl + t ≤ bh + 1 → pd_tb xol xnl al ah bl bh (r + 1) t T → wX_fillLcs_24 post J7 (nI g) (nI (al + r)) xcp xcx xoc xnc xbc xrc xhd xhr xpc xop xht xgc xac (t + 1) (nI (bl + t) - 1) xol xnl xbl xrl xpa xok xoh xoi xhf xhs xho xhp xhn xhm xtp xap xg0 xg1 xg2 xg3 xao xan xar T := by
  have z : (nI g).toNatClampNeg = g := nI_clamp (by omega)
  have v : vp_in (nI g) 65 := vp_in_nI hg (by decide)
  have f1 : xg1 (nI g).toNatClampNeg = nI ah := by rw [z, e1]
  have f2 : xg2 (nI g).toNatClampNeg = nI bl := by rw [z, e2]
  have f3 : xg3 (nI g).toNatClampNeg = nI bh := by rw [z, e3]
  have zi : (nI (al + r)).toNatClampNeg = al + r := nI_clamp (by omega)
  intro t
  induction t with
  | zero =>
    intro T ht hT
    refine And.intro v (br_t ?_ (nm_r (pd_sub1 _) (K T hT)))
    rw [f2]
    exact pd_lt1 (by omega)
  | succ t ih =>
    intro T ht hT
    have hx : nI (bl + (t + 1)) - 1 = nI (bl + t) := nI_pred (bl + t)
    have hx2 : nI (bl + t) + (-1) = nI (bl + t) - 1 := pd_sub1 _
    have zj : (nI (bl + t)).toNatClampNeg = bl + t := nI_clamp (by omega)
    have zc : (nI ((al + r) * 33 + (bl + t))).toNatClampNeg = (al + r) * 33 + (bl + t) := nI_clamp (by omega)
    have vc : vp_in (nI ((al + r) * 33 + (bl + t))) 1089 := vp_in_nI (by omega) (by decide)
    rw [hx]
    refine And.intro v (br_f (by rw [f2]; exact nI_nlt (by omega) (by omega)) (nm_r (pd_cell (al + r) (bl + t)) (And.intro v (pk_eq (al + r) ah (fun c => ?_) (fun c => And.intro v (pk_eq (bl + t) bh (fun c2 => ?_) (fun c2 => And.intro (vp_in_nI (by omega) (by decide)) (And.intro (vp_in_nI (by omega) (by decide)) (br_c (fun c3 => ?_) (fun c3 => ?_)))) rfl f3)) rfl f1))))
    · refine And.intro vc (nm_r (e' := upd T ((al + r) * 33 + (bl + t)) 0) (by rw [zc]) (nm_r hx2 (ih _ (by omega) (pd_tb_p h3 (by omega) ?_ hT))))
      rw [show ah - (al + r) = 0 by omega]
      rfl
    · refine And.intro vc (nm_r (e' := upd T ((al + r) * 33 + (bl + t)) 0) (by rw [zc]) (nm_r hx2 (ih _ (by omega) (pd_tb_p h3 (by omega) ?_ hT))))
      rw [show bh - (bl + t) = 0 by omega, pd_T_0]
      rfl
    · rw [zi, zj] at c3
      have ec : nI ((al + r) * 33 + (bl + t)) + 33 + 1 = nI ((al + r + 1) * 33 + (bl + t + 1)) := by
        rw [show nI ((al + r) * 33 + (bl + t)) + 33 = nI ((al + r) * 33 + (bl + t) + 33) from nI_add _ 33, nI_1]
        exact congrArg nI (by omega)
      have et := hT (al + r + 1) (bl + t + 1) (by omega) (by omega) (by omega) (by omega)
      refine And.intro (by rw [ec]; exact vp_in_nI (by omega) (by decide)) (And.intro vc (nm_r (e' := upd T ((al + r) * 33 + (bl + t)) (nI (pd_T xol xnl ah bh (ah - (al + r)) (bh - (bl + t))))) ?_ (nm_r hx2 (ih _ (by omega) (pd_tb_p h3 (by omega) rfl hT)))))
      rw [zc, ec, nI_clamp (by omega), et, nI_1]
      rw [show ah - (al + r) = ah - (al + r + 1) + 1 by omega, show bh - (bl + t) = bh - (bl + t + 1) + 1 by omega, pd_T_s, if_pos (by rw [show ah - (ah - (al + r + 1) + 1) = al + r by omega, show bh - (bh - (bl + t + 1) + 1) = bl + t by omega]; exact c3)]
    · rw [zi, zj] at c3
      have ec : nI ((al + r) * 33 + (bl + t)) + 33 = nI ((al + r + 1) * 33 + (bl + t)) := by
        rw [show nI ((al + r) * 33 + (bl + t)) + 33 = nI ((al + r) * 33 + (bl + t) + 33) from nI_add _ 33]
        exact congrArg nI (by omega)
      have ed : nI ((al + r) * 33 + (bl + t)) + 1 = nI ((al + r) * 33 + (bl + t + 1)) := by
        rw [nI_1]
        exact congrArg nI (by omega)
      have et := hT (al + r + 1) (bl + t) (by omega) (by omega) (by omega) (by omega)
      have eu := hT (al + r) (bl + t + 1) (by omega) (by omega) (by omega) (by omega)
      have b1 := pd_T_le (a := xol) (b := xnl) (ah := ah) (bh := bh) (ah - (al + r + 1)) (bh - (bl + t))
      have b2 := pd_T_le (a := xol) (b := xnl) (ah := ah) (bh := bh) (ah - (al + r)) (bh - (bl + t + 1))
      have eT : pd_T xol xnl ah bh (ah - (al + r)) (bh - (bl + t)) = if pd_T xol xnl ah bh (ah - (al + r)) (bh - (bl + t + 1)) ≤ pd_T xol xnl ah bh (ah - (al + r + 1)) (bh - (bl + t)) then pd_T xol xnl ah bh (ah - (al + r + 1)) (bh - (bl + t)) else pd_T xol xnl ah bh (ah - (al + r)) (bh - (bl + t + 1)) := by
        rw [show ah - (al + r) = ah - (al + r + 1) + 1 by omega, show bh - (bl + t) = bh - (bl + t + 1) + 1 by omega, pd_T_s, if_neg (by rw [show ah - (ah - (al + r + 1) + 1) = al + r by omega, show bh - (bh - (bl + t + 1) + 1) = bl + t by omega]; exact c3)]
      refine And.intro (by rw [ec]; exact vp_in_nI (by omega) (by decide)) (nm_r (e' := nI (pd_T xol xnl ah bh (ah - (al + r + 1)) (bh - (bl + t)))) (by rw [ec, nI_clamp (by omega), et]) (And.intro (by rw [ed]; exact vp_in_nI (by omega) (by decide)) (nm_r (e' := nI (pd_T xol xnl ah bh (ah - (al + r)) (bh - (bl + t + 1)))) (by rw [ed, nI_clamp (by omega), eu]) (pk_le (pd_T xol xnl ah bh (ah - (al + r + 1)) (bh - (bl + t))) (pd_T xol xnl ah bh (ah - (al + r)) (bh - (bl + t + 1))) (fun c4 => ?_) (fun c4 => ?_)))))
      · refine And.intro vc (nm_r (e' := upd T ((al + r) * 33 + (bl + t)) (nI (pd_T xol xnl ah bh (ah - (al + r)) (bh - (bl + t + 1))))) (by rw [zc]) (nm_r hx2 (ih _ (by omega) (pd_tb_p h3 (by omega) ?_ hT))))
        rw [eT]
        split
        · exact congrArg nI (by omega)
        · rfl
      · refine And.intro vc (nm_r (e' := upd T ((al + r) * 33 + (bl + t)) (nI (pd_T xol xnl ah bh (ah - (al + r + 1)) (bh - (bl + t))))) (by rw [zc]) (nm_r hx2 (ih _ (by omega) (pd_tb_p h3 (by omega) ?_ hT))))
        rw [eT, if_pos (by omega)]
theorem xa_fill7 {g al ah bl bh : Nat} (hg : g < 65) (e0 : xg0 g = nI al) (e1 : xg1 g = nI ah) (e2 : xg2 g = nI bl) (e3 : xg3 g = nI bh) (h0 : al ≤ ah) (h1 : ah ≤ 32) (h2 : bl ≤ bh) (h3 : bh ≤ 32)
    (K : ∀ T, pd_tb xol xnl al ah bl bh 0 (bh + 1) T → post (xcp, xcx, xoc, xnc, xbc, xrc, xhd, xhr, xpc, xop, xht, xgc, xac, xol, xnl, xbl, xrl, xpa, xok, xoh, xoi, xhf, xhs, xho, xhp, xhn, xhm, xtp, xap, xg0, xg1, xg2, xg3, xao, xan, xar, T)) :
    ∀ r T, al + r ≤ ah + 1 → pd_tb xol xnl al ah bl bh r (bh + 1) T → wX_fillLcs_7 post (nI g) xcp xcx xoc xnc xbc xrc xhd xhr xpc xop xht xgc xac (r + 1) (nI (al + r) - 1) xol xnl xbl xrl xpa xok xoh xoi xhf xhs xho xhp xhn xhm xtp xap xg0 xg1 xg2 xg3 xao xan xar T := by
  have z : (nI g).toNatClampNeg = g := nI_clamp (by omega)
  have v : vp_in (nI g) 65 := vp_in_nI hg (by decide)
  have f0 : xg0 (nI g).toNatClampNeg = nI al := by rw [z, e0]
  have f3 : xg3 (nI g).toNatClampNeg = nI bh := by rw [z, e3]
  intro r
  induction r with
  | zero =>
    intro T hr hT
    refine And.intro v (br_t ?_ (K T hT))
    rw [f0]
    exact pd_lt1 (by omega)
  | succ r ih =>
    intro T hr hT
    have hx : nI (al + (r + 1)) - 1 = nI (al + r) := nI_pred (al + r)
    have hb : nI bh = nI (bl + (bh + 1 - bl)) - 1 := by
      rw [show bl + (bh + 1 - bl) = bh + 1 by omega, nI_pred]
    rw [hx]
    refine And.intro v (br_f (by rw [f0]; exact nI_nlt (by omega) (by omega)) (And.intro v (nm_r (e' := nI (bl + (bh + 1 - bl)) - 1) (by rw [f3, hb]) ⟨_, xa_fill24 hg e1 e2 e3 h1 h3 (by omega) (fun T' hT' => ih T' (by omega) (pd_tb_r hT' (by omega))) (bh + 1 - bl) T (by omega) ?_⟩)))
    intro x y k1 k2 k3 k4
    exact hT x y k1 k2 k3 (by omega)
theorem xa_fill {g al ah bl bh : Nat} (hg : g < 65) (e0 : xg0 g = nI al) (e1 : xg1 g = nI ah) (e2 : xg2 g = nI bl) (e3 : xg3 g = nI bh) (h0 : al ≤ ah) (h1 : ah ≤ 32) (h2 : bl ≤ bh) (h3 : bh ≤ 32)
    (K : ∀ T, pd_tb xol xnl al ah bl bh 0 (bh + 1) T → post (xcp, xcx, xoc, xnc, xbc, xrc, xhd, xhr, xpc, xop, xht, xgc, xac, xol, xnl, xbl, xrl, xpa, xok, xoh, xoi, xhf, xhs, xho, xhp, xhn, xhm, xtp, xap, xg0, xg1, xg2, xg3, xao, xan, xar, T)) : wpX_fillLcs post (xcp, xcx, xoc, xnc, xbc, xrc, xhd, xhr, xpc, xop, xht, xgc, xac, xol, xnl, xbl, xrl, xpa, xok, xoh, xoi, xhf, xhs, xho, xhp, xhn, xhm, xtp, xap, xg0, xg1, xg2, xg3, xao, xan, xar, xlc) (nI g) := by
  have z : (nI g).toNatClampNeg = g := nI_clamp (by omega)
  refine And.intro (vp_in_nI hg (by decide)) (nm_r (e' := nI (al + (ah + 1 - al)) - 1) ?_ ⟨_, xa_fill7 hg e0 e1 e2 e3 h0 h1 h2 h3 K (ah + 1 - al) xlc (by omega) (pd_tb_0 (by omega) (by omega))⟩)
  rw [z, e1, show al + (ah + 1 - al) = ah + 1 by omega, nI_pred]
theorem xa_walk14 {g al ah bl bh : Nat} (hg : g < 65) (e1 : xg1 g = nI ah) (e3 : xg3 g = nI bh) (h1 : ah ≤ n) (hn : n ≤ 32) (h3 : bh ≤ 32) (hT : pd_tb xol xnl al ah bl bh 0 (bh + 1) xlc)
    (K : ∀ M, pd_I xol xnl n m V0 lo hi gp ah ah M → post (xcp, xcx, xoc, xnc, xbc, xrc, xhd, xhr, nI (pd_cm M n), xop, xht, xgc, xac, xol, xnl, xbl, xrl, M, xok, xoh, xoi, xhf, xhs, xho, xhp, xhn, xhm, xtp, xap, xg0, xg1, xg2, xg3, xao, xan, xar, xlc)) :
    ∀ f i j M, (ah - i) + (bh - j) ≤ f → al ≤ i → bl ≤ j → i ≤ ah → j ≤ bh → (∀ x, i ≤ x → x < ah → V0 x = pd_lm xol xnl ah bh f i j x) → pd_I xol xnl n m V0 lo hi gp i ah M →
    wX_walkLcs_14 post (nI g) (f + 1) (nI i) (nI j) xcp xcx xoc xnc xbc xrc xhd xhr (nI (pd_cm M n)) xop xht xgc xac xol xnl xbl xrl M xok xoh xoi xhf xhs xho xhp xhn xhm xtp xap xg0 xg1 xg2 xg3 xao xan xar xlc := by
  have z : (nI g).toNatClampNeg = g := nI_clamp (by omega)
  have v : vp_in (nI g) 65 := vp_in_nI hg (by decide)
  have f1 : xg1 (nI g).toNatClampNeg = nI ah := by rw [z, e1]
  have f3 : xg3 (nI g).toNatClampNeg = nI bh := by rw [z, e3]
  intro f
  induction f with
  | zero =>
    intro i j M hf ha hb hi hj hV hI
    have ei : i = ah := by omega
    subst ei
    exact And.intro v (pk_le i i (fun _ => K M hI) (fun c => absurd c (by omega)) f1)
  | succ f ih =>
    intro i j M hf ha hb hi hj hV hI
    refine And.intro v (pk_le ah i (fun c => ?_) (fun c => And.intro v (pk_le bh j (fun c2 => ?_) (fun c2 => nm_r (pd_cell i j) (And.intro (vp_in_nI (by omega) (by decide)) (And.intro (vp_in_nI (by omega) (by decide)) (br_c (fun c3 => ?_) (fun c3 => ?_))))) f3)) f1)
    · have ei : i = ah := by omega
      subst ei
      exact K M hI
    · refine K M (pd_I_sk hI hi (fun x x1 x2 => ?_))
      rw [hV x x1 x2, pd_lm_s, if_neg (by omega)]
    · rw [nI_clamp (by omega), nI_clamp (by omega)] at c3
      have hm : M i = -1 := hI.2.2.2.1 i (Nat.le_refl i) c
      have ec : pd_cm (upd M i (nI j)) n = pd_cm M n + 1 := pd_cm_u hm (pd_ne1 (by omega)) n (by omega)
      have hVi : V0 i = some j := by rw [hV i (Nat.le_refl i) c, pd_lm_s, if_pos ⟨c, c2⟩, if_pos c3, if_pos rfl]
      refine xa_addPair (by omega) (nm_r (nI_1 i) (nm_r (nI_1 j) ?_))
      rw [← ec]
      refine ih (i + 1) (j + 1) _ (by omega) (by omega) (by omega) (by omega) (by omega) (fun x x1 x2 => ?_) (pd_I_lo hI c hVi)
      rw [hV x (by omega) x2, pd_lm_s, if_pos ⟨c, c2⟩, if_pos c3, if_neg (by omega)]
    · rw [nI_clamp (by omega), nI_clamp (by omega)] at c3
      have ec : nI (i * 33 + j) + 33 = nI ((i + 1) * 33 + j) := by
        rw [show nI (i * 33 + j) + 33 = nI (i * 33 + j + 33) from nI_add _ 33]
        exact congrArg nI (by omega)
      have ed : nI (i * 33 + j) + 1 = nI (i * 33 + (j + 1)) := by
        rw [nI_1]
        exact congrArg nI (by omega)
      have et := hT (i + 1) j (by omega) (by omega) (by omega) (by omega)
      have eu := hT i (j + 1) (by omega) (by omega) (by omega) (by omega)
      have b1 := pd_T_le (a := xol) (b := xnl) (ah := ah) (bh := bh) (ah - (i + 1)) (bh - j)
      have b2 := pd_T_le (a := xol) (b := xnl) (ah := ah) (bh := bh) (ah - i) (bh - (j + 1))
      refine And.intro (by rw [ec]; exact vp_in_nI (by omega) (by decide)) (And.intro (by rw [ed]; exact vp_in_nI (by omega) (by decide)) (pk_lt (pd_T xol xnl ah bh (ah - (i + 1)) (bh - j)) (pd_T xol xnl ah bh (ah - i) (bh - (j + 1))) (fun c4 => nm_r (nI_1 j) ?_) (fun c4 => nm_r (nI_1 i) ?_) (by rw [ec, nI_clamp (by omega), et]) (by rw [ed, nI_clamp (by omega), eu])))
      · refine ih i (j + 1) M (by omega) ha (by omega) hi (by omega) (fun x x1 x2 => ?_) hI
        rw [hV x x1 x2, pd_lm_s, if_pos ⟨c, c2⟩, if_neg c3, if_neg (by omega)]
      · have hVi : ∀ x, i ≤ x → x < ah → V0 x = pd_lm xol xnl ah bh f (i + 1) j x := fun x x1 x2 => by rw [hV x x1 x2, pd_lm_s, if_pos ⟨c, c2⟩, if_neg c3, if_pos c4]
        refine ih (i + 1) j M (by omega) (by omega) hb (by omega) hj (fun x x1 x2 => hVi x (by omega) x2) (pd_I_sk hI (by omega) (fun x x1 x2 => ?_))
        have ex : x = i := by omega
        subst ex
        rw [hVi x (Nat.le_refl x) c]
        cases hh : pd_lm xol xnl ah bh f (x + 1) j x with
        | none => rfl
        | some y => have := pd_lm_lo _ _ _ _ _ hh; omega
theorem xa_walk {g al ah bl bh : Nat} (hg : g < 65) (e0 : xg0 g = nI al) (e1 : xg1 g = nI ah) (e2 : xg2 g = nI bl) (e3 : xg3 g = nI bh) (h0 : al ≤ ah) (h1 : ah ≤ n) (hn : n ≤ 32) (h2 : bl ≤ bh) (h3 : bh ≤ 32) (hT : pd_tb xol xnl al ah bl bh 0 (bh + 1) xlc)
    (hV : ∀ x, al ≤ x → x < ah → V0 x = pd_lm xol xnl ah bh ((ah - al) + (bh - bl)) al bl x) (hI : pd_I xol xnl n m V0 lo hi gp al ah xpa)
    (K : ∀ M, pd_I xol xnl n m V0 lo hi gp ah ah M → post (xcp, xcx, xoc, xnc, xbc, xrc, xhd, xhr, nI (pd_cm M n), xop, xht, xgc, xac, xol, xnl, xbl, xrl, M, xok, xoh, xoi, xhf, xhs, xho, xhp, xhn, xhm, xtp, xap, xg0, xg1, xg2, xg3, xao, xan, xar, xlc)) : wpX_walkLcs post (xcp, xcx, xoc, xnc, xbc, xrc, xhd, xhr, nI (pd_cm xpa n), xop, xht, xgc, xac, xol, xnl, xbl, xrl, xpa, xok, xoh, xoi, xhf, xhs, xho, xhp, xhn, xhm, xtp, xap, xg0, xg1, xg2, xg3, xao, xan, xar, xlc) (nI g) := by
  have z : (nI g).toNatClampNeg = g := nI_clamp (by omega)
  have v : vp_in (nI g) 65 := vp_in_nI hg (by decide)
  exact And.intro v (nm_r (e' := nI al) (by rw [z, e0]) (And.intro v (nm_r (e' := nI bl) (by rw [z, e2]) ⟨_, xa_walk14 hg e1 e3 h1 hn h3 hT K _ al bl xpa (Nat.le_refl _) (Nat.le_refl _) (Nat.le_refl _) h0 h2 hV hI⟩)))
end XLC
