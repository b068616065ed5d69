/-! X: addPair, addGap, common beginning, common end -/
section XPR
variable {xcp xcx xoc xnc xbc xrc xhd xhr xpc xop xht xgc xac : Int32} {xol xnl xbl xrl xpa xok xoh xoi xhf xhs xho xhp xhn xhm xtp xap xg0 xg1 xg2 xg3 xao xan xar xlc : Nat → Int32}
variable {post : St2 → Prop} {n m : Nat} {V0 : Nat → Option Nat} {lo hi : Nat} {gp : Nat → pd_g}
theorem xa_addPair {i c : Nat} {x : Int32} (h1 : i < 32) (k : post (xcp, xcx, xoc, xnc, xbc, xrc, xhd, xhr, nI (c + 1), xop, xht, xgc, xac, xol, xnl, xbl, xrl, upd xpa i x, xok, xoh, xoi, xhf, xhs, xho, xhp, xhn, xhm, xtp, xap, xg0, xg1, xg2, xg3, xao, xan, xar, xlc)) : wpX_addPair post (xcp, xcx, xoc, xnc, xbc, xrc, xhd, xhr, nI c, xop, xht, xgc, xac, xol, xnl, xbl, xrl, xpa, xok, xoh, xoi, xhf, xhs, xho, xhp, xhn, xhm, xtp, xap, xg0, xg1, xg2, xg3, xao, xan, xar, xlc) (nI i) x :=
  And.intro (vp_in_nI h1 (by decide)) (nm_r (e' := upd xpa i x) (by rw [nI_clamp (by omega)]) (nm_r (nI_1 c) k))
theorem xa_addGap {G : Nat} {p0 p1 p2 p3 : Int32} (h1 : G < 65) (k : post (xcp, xcx, xoc, xnc, xbc, xrc, xhd, xhr, xpc, xop, xht, nI (G + 1), xac, xol, xnl, xbl, xrl, xpa, xok, xoh, xoi, xhf, xhs, xho, xhp, xhn, xhm, xtp, xap, upd xg0 G p0, upd xg1 G p1, upd xg2 G p2, upd xg3 G p3, xao, xan, xar, xlc)) : wpX_addGap post (xcp, xcx, xoc, xnc, xbc, xrc, xhd, xhr, xpc, xop, xht, nI G, xac, xol, xnl, xbl, xrl, xpa, xok, xoh, xoi, xhf, xhs, xho, xhp, xhn, xhm, xtp, xap, xg0, xg1, xg2, xg3, xao, xan, xar, xlc) p0 p1 p2 p3 := by
  have z : (nI G).toNatClampNeg = G := nI_clamp (by omega)
  have v : vp_in (nI G) 65 := vp_in_nI h1 (by decide)
  exact br_t (nI_lt (b := 65) h1 (by decide)) (And.intro v (nm_r (e' := upd xg0 G p0) (by rw [z]) (And.intro v (nm_r (e' := upd xg1 G p1) (by rw [z]) (And.intro v (nm_r (e' := upd xg2 G p2) (by rw [z]) (And.intro v (nm_r (e' := upd xg3 G p3) (by rw [z]) (nm_r (nI_1 G) k)))))))))
theorem xa_pre14 {g ah bh : Nat} (hg : g < 65) (e1 : xg1 g = nI ah) (e3 : xg3 g = nI bh) (h1 : ah ≤ n) (h2 : n ≤ 32) (h3 : bh ≤ 32) : ∀ (k i j : Nat) (M : Nat → Int32), min (ah - i) (bh - j) = k → i ≤ ah → j ≤ bh →
    (∀ x, x < pd_pf xol xnl k i j → V0 (i + x) = some (j + x)) →
    pd_I xol xnl n m V0 lo hi gp i ah M →
    (∀ M', pd_I xol xnl n m V0 lo hi gp (i + pd_pf xol xnl k i j) ah M' → wX_matchPrefix_64 post (nI g) (nI (i + pd_pf xol xnl k i j)) (nI (j + pd_pf xol xnl k i j)) xcp xcx xoc xnc xbc xrc xhd xhr (nI (pd_cm M' n)) xop xht xgc xac xol xnl xbl xrl M' xok xoh xoi xhf xhs xho xhp xhn xhm xtp xap xg0 xg1 xg2 xg3 xao xan xar xlc) →
    wX_matchPrefix_14 post (nI g) (k + 1) (nI i) (nI j) xcp xcx xoc xnc xbc xrc xhd xhr (nI (pd_cm M n)) xop xht xgc xac xol xnl xbl xrl M xok xoh xoi xhf xhs xho xhp xhn xhm xtp xap xg0 xg1 xg2 xg3 xao xan xar xlc := by
  have z : (nI g).toNatClampNeg = g := nI_clamp (by omega)
  have v : vp_in (nI g) 65 := vp_in_nI hg (by decide)
  have f1 : xg1 (nI g).toNatClampNeg = nI ah := by rw [z, e1]
  have f3 : xg3 (nI g).toNatClampNeg = nI bh := by rw [z, e3]
  intro k
  induction k with
  | zero =>
    intro i j M hk hi hj hV hI K
    have K' := K M hI
    exact And.intro v (pk_le ah i (fun _ => K') (fun c1 => And.intro v (pk_le bh j (fun _ => K') (fun c2 => absurd hk (by omega)) f3)) f1)
  | succ k ih =>
    intro i j M hk hi hj hV hI K
    have zi : (nI i).toNatClampNeg = i := nI_clamp (by omega)
    have zj : (nI j).toNatClampNeg = j := nI_clamp (by omega)
    refine And.intro v (pk_le ah i (fun c => absurd hk (by omega)) (fun c1 => And.intro v (pk_le bh j (fun c => absurd hk (by omega)) (fun c2 => And.intro (vp_in_nI (by omega) (by decide)) (And.intro (vp_in_nI (by omega) (by decide)) (br_c (fun c3 => ?_) (fun c3 => ?_)))) f3)) f1)
    · rw [zi, zj] at c3
      rw [pd_pf_s, if_pos c3] at hV K
      have hm : M i = -1 := hI.2.2.2.1 i (Nat.le_refl i) c1
      have ec : pd_cm (upd M i (nI j)) n = pd_cm M n + 1 := pd_cm_u hm (pd_ne1 (by omega)) n (by omega)
      refine xa_addPair (by omega) (nm_r (nI_1 i) (nm_r (nI_1 j) ?_))
      rw [← ec]
      refine ih (i + 1) (j + 1) _ (by omega) (by omega) (by omega) (fun x hx => ?_) (pd_I_lo hI c1 (hV 0 (by omega))) (fun M' hM' => ?_)
      · rw [show i + 1 + x = i + (x + 1) by omega, show j + 1 + x = j + (x + 1) by omega]
        exact hV (x + 1) (by omega)
      · rw [show i + 1 + pd_pf xol xnl k (i + 1) (j + 1) = i + (pd_pf xol xnl k (i + 1) (j + 1) + 1) by omega] at hM' ⊢
        rw [show j + 1 + pd_pf xol xnl k (i + 1) (j + 1) = j + (pd_pf xol xnl k (i + 1) (j + 1) + 1) by omega]
        exact K M' hM'
    · rw [zi, zj] at c3
      rw [pd_pf_s, if_neg c3] at K
      exact K M hI
theorem xa_prefix {g al ah bl bh : Nat} (hg : g < 65) (e0 : xg0 g = nI al) (e1 : xg1 g = nI ah) (e2 : xg2 g = nI bl) (e3 : xg3 g = nI bh) (h0 : al ≤ ah) (h1 : ah ≤ n) (h2 : n ≤ 32) (h4 : bl ≤ bh) (h3 : bh ≤ 32)
    (hV : ∀ x, x < pd_p xol xnl al ah bl bh → V0 (al + x) = some (bl + x))
    (hI : pd_I xol xnl n m V0 lo hi gp al ah xpa)
    (k : ∀ M', pd_I xol xnl n m V0 lo hi gp (al + pd_p xol xnl al ah bl bh) ah M' → post (xcp, xcx, xoc, xnc, xbc, xrc, xhd, xhr, nI (pd_cm M' n), xop, xht, xgc, xac, xol, xnl, xbl, xrl, M', xok, xoh, xoi, xhf, xhs, xho, xhp, xhn, xhm, xtp, xap, upd xg0 g (nI (al + pd_p xol xnl al ah bl bh)), xg1, upd xg2 g (nI (bl + pd_p xol xnl al ah bl bh)), xg3, xao, xan, xar, xlc)) :
    wpX_matchPrefix post (xcp, xcx, xoc, xnc, xbc, xrc, xhd, xhr, nI (pd_cm xpa n), xop, xht, xgc, xac, xol, xnl, xbl, xrl, xpa, xok, xoh, xoi, xhf, xhs, xho, xhp, xhn, xhm, xtp, xap, xg0, xg1, xg2, xg3, xao, xan, xar, xlc) (nI g) := by
  have z : (nI g).toNatClampNeg = g := nI_clamp (by omega)
  have v : vp_in (nI g) 65 := vp_in_nI hg (by decide)
  refine And.intro v (nm_r (e' := nI al) (by rw [z, e0]) (And.intro v (nm_r (e' := nI bl) (by rw [z, e2]) ⟨_, xa_pre14 hg e1 e3 h1 h2 h3 _ al bl xpa rfl h0 h4 hV hI (fun M' hM' => ?_)⟩)))
  exact And.intro v (nm_r (by rw [z]; rfl) (And.intro v (nm_r (by rw [z]; rfl) (k M' hM'))))
theorem xa_suf14 {g al bl : Nat} (hg : g < 65) (e1 : xg0 g = nI al) (e3 : xg2 g = nI bl) (h2 : n ≤ 32) : ∀ (k i j : Nat) (M : Nat → Int32), min (i - al) (j - bl) = k → al ≤ i → bl ≤ j → i ≤ n → j ≤ 32 →
    (∀ x, x < pd_sf xol xnl k i j → V0 (i - 1 - x) = some (j - 1 - x)) →
    pd_I xol xnl n m V0 lo hi gp al i M →
    (∀ M', pd_I xol xnl n m V0 lo hi gp al (i - pd_sf xol xnl k i j) M' → wX_matchSuffix_68 post (nI g) (nI (i - pd_sf xol xnl k i j)) (nI (j - pd_sf xol xnl k i j)) xcp xcx xoc xnc xbc xrc xhd xhr (nI (pd_cm M' n)) xop xht xgc xac xol xnl xbl xrl M' xok xoh xoi xhf xhs xho xhp xhn xhm xtp xap xg0 xg1 xg2 xg3 xao xan xar xlc) →
    wX_matchSuffix_14 post (nI g) (k + 1) (nI i) (nI j) xcp xcx xoc xnc xbc xrc xhd xhr (nI (pd_cm M n)) xop xht xgc xac xol xnl xbl xrl M xok xoh xoi xhf xhs xho xhp xhn xhm xtp xap xg0 xg1 xg2 xg3 xao xan xar xlc := by
  have z : (nI g).toNatClampNeg = g := nI_clamp (by omega)
  have v : vp_in (nI g) 65 := vp_in_nI hg (by decide)
  have f1 : xg0 (nI g).toNatClampNeg = nI al := by rw [z, e1]
  have f3 : xg2 (nI g).toNatClampNeg = nI bl := by rw [z, e3]
  intro k
  induction k with
  | zero =>
    intro i j M hk hi hj hi2 hj2 hV hI K
    have K' := K M hI
    exact And.intro v (pk_le i al (fun _ => K') (fun c1 => And.intro v (pk_le j bl (fun _ => K') (fun c2 => absurd hk (by omega)) rfl f3)) rfl f1)
  | succ k ih =>
    intro i j M hk hi hj hi2 hj2 hV hI K
    obtain ⟨i, rfl⟩ : ∃ y, i = y + 1 := ⟨i - 1, by omega⟩
    obtain ⟨j, rfl⟩ : ∃ y, j = y + 1 := ⟨j - 1, by omega⟩
    have zi : (nI (i + 1) - 1).toNatClampNeg = i := by rw [nI_pred, nI_clamp (by omega)]
    have zj : (nI (j + 1) - 1).toNatClampNeg = j := by rw [nI_pred, nI_clamp (by omega)]
    refine And.intro v (pk_le (i + 1) al (fun c => absurd hk (by omega)) (fun c1 => And.intro v (pk_le (j + 1) bl (fun c => absurd hk (by omega)) (fun c2 => And.intro (by rw [nI_pred]; exact vp_in_nI (by omega) (by decide)) (And.intro (by rw [nI_pred]; exact vp_in_nI (by omega) (by decide)) (br_c (fun c3 => ?_) (fun c3 => ?_)))) rfl f3)) rfl f1)
    · rw [zi, zj] at c3
      rw [pd_sf_s] at hV K
      rw [Nat.add_sub_cancel, Nat.add_sub_cancel, if_pos c3] at hV K
      have hm : M i = -1 := hI.2.2.2.1 i (by omega) (by omega)
      have ec : pd_cm (upd M i (nI j)) n = pd_cm M n + 1 := pd_cm_u hm (pd_ne1 (by omega)) n (by omega)
      refine nm_r (pk_m1 i) (nm_r (pk_m1 j) (xa_addPair (by omega) ?_))
      show wX_matchSuffix_14 post (nI g) (k + 1) (nI i) (nI j) xcp xcx xoc xnc xbc xrc xhd xhr (nI (pd_cm M n + 1)) xop xht xgc xac xol xnl xbl xrl (upd M i (nI j)) xok xoh xoi xhf xhs xho xhp xhn xhm xtp xap xg0 xg1 xg2 xg3 xao xan xar xlc
      rw [← ec]
      refine ih i j _ (by omega) (by omega) (by omega) (by omega) (by omega) (fun x hx => ?_) (pd_I_hi hI (by omega) (hV 0 (by omega))) (fun M' hM' => ?_)
      · rw [show i - 1 - x = i - (x + 1) by omega, show j - 1 - x = j - (x + 1) by omega]
        exact hV (x + 1) (by omega)
      · rw [show i - pd_sf xol xnl k i j = i + 1 - (pd_sf xol xnl k i j + 1) by omega] at hM' ⊢
        rw [show j - pd_sf xol xnl k i j = j + 1 - (pd_sf xol xnl k i j + 1) by omega]
        exact K M' hM'
    · rw [zi, zj] at c3
      rw [pd_sf_s, Nat.add_sub_cancel, Nat.add_sub_cancel, if_neg c3] at K
      exact K M hI
theorem xa_suffix {g al ah bl bh : Nat} (hg : g < 65) (e0 : xg0 g = nI al) (e1 : xg1 g = nI ah) (e2 : xg2 g = nI bl) (e3 : xg3 g = nI bh) (h0 : al ≤ ah) (h1 : ah ≤ n) (h2 : n ≤ 32) (h4 : bl ≤ bh) (h3 : bh ≤ 32)
    (hV : ∀ x, x < pd_s xol xnl al ah bl bh → V0 (ah - 1 - x) = some (bh - 1 - x))
    (hI : pd_I xol xnl n m V0 lo hi gp al ah xpa)
    (k : ∀ M', pd_I xol xnl n m V0 lo hi gp al (ah - pd_s xol xnl al ah bl bh) M' → post (xcp, xcx, xoc, xnc, xbc, xrc, xhd, xhr, nI (pd_cm M' n), xop, xht, xgc, xac, xol, xnl, xbl, xrl, M', xok, xoh, xoi, xhf, xhs, xho, xhp, xhn, xhm, xtp, xap, xg0, upd xg1 g (nI (ah - pd_s xol xnl al ah bl bh)), xg2, upd xg3 g (nI (bh - pd_s xol xnl al ah bl bh)), xao, xan, xar, xlc)) :
    wpX_matchSuffix post (xcp, xcx, xoc, xnc, xbc, xrc, xhd, xhr, nI (pd_cm xpa n), xop, xht, xgc, xac, xol, xnl, xbl, xrl, xpa, xok, xoh, xoi, xhf, xhs, xho, xhp, xhn, xhm, xtp, xap, xg0, xg1, xg2, xg3, xao, xan, xar, xlc) (nI g) := by
  have z : (nI g).toNatClampNeg = g := nI_clamp (by omega)
  have v : vp_in (nI g) 65 := vp_in_nI hg (by decide)
  refine And.intro v (nm_r (e' := nI ah) (by rw [z, e1]) (And.intro v (nm_r (e' := nI bh) (by rw [z, e3]) ⟨_, xa_suf14 hg e0 e2 h2 _ ah bh xpa rfl h0 h4 h1 h3 hV hI (fun M' hM' => ?_)⟩)))
  exact And.intro v (nm_r (by rw [z]; rfl) (And.intro v (nm_r (by rw [z]; rfl) (k M' hM'))))
end XPR
