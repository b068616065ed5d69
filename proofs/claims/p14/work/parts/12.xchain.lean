/-! X: matchChain -/
section XCH
variable {xcp xcx xoc xnc xbc xrc xhd xhr xpc xop xht xgc xac : Int32} {xol xnl xbl xrl xpa xok xoh xoi xhf xhs xho xhp xhn xhm xtp xap xg0 xg1 xg2 xg3 xao xan xar xlc : Nat → Int32}
variable {post : St2 → Prop} {n m : Nat} {V0 : Nat → Option Nat}
/-- what the chain's part of V0 says -/
def pd_cv (a b : Nat → Int32) (n m : Nat) (V0 : Nat → Option Nat) (al ah bl bh : Nat) : Prop :=
  (∀ d, d < pd_K (pd_A a b al ah bl bh) → V0 (pd_D (pd_A a b al ah bl bh) d) = some (pd_E (pd_A a b al ah bl bh) d)) ∧
  (∀ t, t ≤ pd_K (pd_A a b al ah bl bh) → pd_gk a b n m V0 (pd_lo al (pd_D (pd_A a b al ah bl bh)) (pd_K (pd_A a b al ah bl bh)) t, pd_hi ah (pd_D (pd_A a b al ah bl bh)) t, pd_lo bl (pd_E (pd_A a b al ah bl bh)) (pd_K (pd_A a b al ah bl bh)) t, pd_hi bh (pd_E (pd_A a b al ah bl bh)) t))
theorem xa_chain28 {g al ah bl bh B : Nat} (hg : g < 65) (h0 : al ≤ ah) (h1 : ah ≤ n) (hn : n ≤ 32) (h2 : bl ≤ bh) (h3 : bh ≤ 32) (hz : (pd_A xol xnl al ah bl bh).1 ≠ 0) (hc : pd_cv xol xnl n m V0 al ah bl bh)
    (hr : pd_ar (pd_A xol xnl al ah bl bh) xao xan) (hk : ∀ q, q < (pd_A xol xnl al ah bl bh).1 → xar q = nI (pd_rk (pd_A xol xnl al ah bl bh).2.2 q)) (hB : B ≤ 65)
    (K : ∀ G gp M G0 G1 G2 G3, pd_I xol xnl n m V0 (g + 1) G gp 0 0 M → g < G → pd_sm gp (g + 1) = pd_sm gp (g + 1) → G + 2 * pd_sm gp G ≤ B + 2 * pd_sm gp (g + 1) → pd_rp (g + 1) G gp G0 G1 G2 G3 → post (xcp, xcx, xoc, xnc, xbc, xrc, xhd, xhr, nI (pd_cm M n), xop, xht, nI G, xac, xol, xnl, xbl, xrl, M, xok, xoh, xoi, xhf, xhs, xho, xhp, xhn, xhm, xtp, xap, G0, G1, G2, G3, xao, xan, xar, xlc)) :
    ∀ r d G gp M G0 G1 G2 G3, pd_X (pd_A xol xnl al ah bl bh) d r → pd_I xol xnl n m V0 (g + 1) G gp al (pd_hi ah (pd_D (pd_A xol xnl al ah bl bh)) d) M → g < G → G + 2 * pd_sm gp G + 2 * (pd_hi ah (pd_D (pd_A xol xnl al ah bl bh)) d - al) + d ≤ B + 2 * pd_sm gp (g + 1) → pd_rp (g + 1) G gp G0 G1 G2 G3 → G0 g = nI al → G2 g = nI bl →
    wX_matchChain_28 post (nI g) (r + 1) (nI (pd_K (pd_A xol xnl al ah bl bh) - d)) (nI (pd_hi ah (pd_D (pd_A xol xnl al ah bl bh)) d)) (nI (pd_hi bh (pd_E (pd_A xol xnl al ah bl bh)) d)) (nI r - 1) xcp xcx xoc xnc xbc xrc xhd xhr (nI (pd_cm M n)) xop xht (nI G) xac xol xnl xbl xrl M xok xoh xoi xhf xhs xho xhp xhn xhm xtp xap G0 G1 G2 G3 xao xan xar xlc := by
  have z : (nI g).toNatClampNeg = g := nI_clamp (by omega)
  have v : vp_in (nI g) 65 := vp_in_nI hg (by decide)
  have hC := pd_CK_A hz h0
  have hA := pd_an_k (a := xol) (b := xnl) (al := al) (ah := ah) (bl := bl) (bh := bh) (ah - al)
  have hA2 : pd_an xol xnl al ah bl bh (ah - al) = pd_A xol xnl al ah bl bh := rfl
  rw [hA2, show al + (ah - al) = ah by omega] at hA
  have hK := pd_K_le (pd_A xol xnl al ah bl bh)
  intro r
  induction r with
  | zero =>
    intro d G gp M G0 G1 G2 G3 hX hI hG hS hR e0 e2
    have ed := pd_X_end hz hX
    have f0 : G0 (nI g).toNatClampNeg = nI al := by rw [z, e0]
    have f2 : G2 (nI g).toNatClampNeg = nI bl := by rw [z, e2]
    have hm := pd_sm_m (gp := gp) G (g + 1) (by omega)
    have hk1 := hC.1
    have hgk := hc.2 d (by omega)
    have el : pd_lo al (pd_D (pd_A xol xnl al ah bl bh)) (pd_K (pd_A xol xnl al ah bl bh)) d = al := if_neg (by omega)
    have el2 : pd_lo bl (pd_E (pd_A xol xnl al ah bl bh)) (pd_K (pd_A xol xnl al ah bl bh)) d = bl := if_neg (by omega)
    rw [el, el2] at hgk
    have hlh : al ≤ pd_hi ah (pd_D (pd_A xol xnl al ah bl bh)) d := hgk.1
    refine br_t (by decide) (And.intro v (And.intro v ?_))
    rw [f0, f2]
    refine xa_addGap (by omega) ?_
    have hI' := pd_I_em (L' := 0) (H' := 0) (pd_I_dn hI (by omega) hlh (Nat.le_refl _) hgk) (Nat.le_refl _) (Nat.le_refl _)
    have e1 := pd_sm_u (gp := gp) (k := G) (v := (al, pd_hi ah (pd_D (pd_A xol xnl al ah bl bh)) d, bl, pd_hi bh (pd_E (pd_A xol xnl al ah bl bh)) d)) (g + 1) (by omega)
    have e3 := pd_sm_p (gp := gp) (k := G) (v := (al, pd_hi ah (pd_D (pd_A xol xnl al ah bl bh)) d, bl, pd_hi bh (pd_E (pd_A xol xnl al ah bl bh)) d))
    refine K (G + 1) _ M _ _ _ _ hI' (by omega) rfl ?_ (pd_rp_p hR)
    rw [e1, e3]
    show G + 1 + 2 * (pd_sm gp G + (pd_hi ah (pd_D (pd_A xol xnl al ah bl bh)) d - al)) ≤ _
    omega
  | succ r ih =>
    intro d G gp M G0 G1 G2 G3 hX hI hG hS hR e0 e2
    have hr1 : r < (pd_A xol xnl al ah bl bh).1 := by have := hX.2.1; omega
    have hrr := hA.2.1 r hr1
    have zr : (nI (r + 1) - 1).toNatClampNeg = r := by rw [nI_pred, nI_clamp (by omega)]
    have vr : vp_in (nI (r + 1) - 1) 32 := by rw [nI_pred]; exact vp_in_nI (by omega) (by decide)
    have fr : xar (nI (r + 1) - 1).toNatClampNeg = nI (pd_rk (pd_A xol xnl al ah bl bh).2.2 r) := by rw [zr, hk r hr1]
    have fo : xao (nI (r + 1) - 1).toNatClampNeg = nI ((pd_A xol xnl al ah bl bh).2.1 r) := by rw [zr, (hr r hr1).1]
    have fn : xan (nI (r + 1) - 1).toNatClampNeg = nI ((pd_A xol xnl al ah bl bh).2.2 r) := by rw [zr, (hr r hr1).2]
    have bk := pd_rk_l (pd_A xol xnl al ah bl bh).2.2 r
    have hx : nI (r + 1) - 1 + (-1) = nI r - 1 := by rw [nI_pred, pd_sub1]
    have hlh : pd_hi ah (pd_D (pd_A xol xnl al ah bl bh)) d ≤ ah ∧ pd_hi bh (pd_E (pd_A xol xnl al ah bl bh)) d ≤ bh := by
      have := pd_CK_lh hC h0 h2 (t := d) hX.1
      exact ⟨this.2.2.1, this.2.2.2.2.2.1⟩
    refine br_f (by rw [nI_pred]; exact nI_pos (by omega)) (And.intro vr (pk_eq (pd_rk (pd_A xol xnl al ah bl bh).2.2 r) (pd_K (pd_A xol xnl al ah bl bh) - d) (fun c1 => And.intro vr (pk_le (pd_hi bh (pd_E (pd_A xol xnl al ah bl bh)) d) ((pd_A xol xnl al ah bl bh).2.2 r) (fun c2 => nm_r hx ?_) (fun c2 => And.intro vr (And.intro vr ?_)) rfl fn)) (fun c1 => nm_r hx ?_) fr))
    · exact ih d G gp M G0 G1 G2 G3 (pd_X_miss hz h0 hX (fun w => absurd w.2 (by omega))) hI hG hS hR e0 e2
    · obtain ⟨hd, ec, hX'⟩ := pd_X_hit hz h0 hX c1 c2
      have eD : pd_D (pd_A xol xnl al ah bl bh) d = (pd_A xol xnl al ah bl bh).2.1 r := by unfold pd_D; rw [ec]
      have eE : pd_E (pd_A xol xnl al ah bl bh) d = (pd_A xol xnl al ah bl bh).2.2 r := by unfold pd_E; rw [ec]
      have hgk := hc.2 d (by omega)
      have hV := hc.1 d hd
      have el : pd_lo al (pd_D (pd_A xol xnl al ah bl bh)) (pd_K (pd_A xol xnl al ah bl bh)) d = pd_D (pd_A xol xnl al ah bl bh) d + 1 := if_pos hd
      have el2 : pd_lo bl (pd_E (pd_A xol xnl al ah bl bh)) (pd_K (pd_A xol xnl al ah bl bh)) d = pd_E (pd_A xol xnl al ah bl bh) d + 1 := if_pos hd
      rw [el, el2] at hgk
      rw [eD, eE] at hgk hV
      have hlo : (pd_A xol xnl al ah bl bh).2.1 r + 1 ≤ pd_hi ah (pd_D (pd_A xol xnl al ah bl bh)) d := hgk.1
      have hm := pd_sm_m (gp := gp) G (g + 1) (by omega)
      have hI' := pd_I_up hI (by omega) hrr.1 (by omega) hV hgk
      have hMr : M ((pd_A xol xnl al ah bl bh).2.1 r) = -1 := hI.2.2.2.1 _ hrr.1 (by omega)
      have ecm : pd_cm (upd M ((pd_A xol xnl al ah bl bh).2.1 r) (nI ((pd_A xol xnl al ah bl bh).2.2 r))) n = pd_cm M n + 1 := pd_cm_u hMr (pd_ne1 (by omega)) n (by omega)
      rw [fo, fn]
      refine xa_addPair (by omega) (And.intro vr (And.intro vr ?_))
      rw [fo, fn, nI_1, nI_1]
      refine xa_addGap (by omega) (And.intro vr (nm_r fo (And.intro vr (nm_r fn (nm_r (e' := nI (pd_K (pd_A xol xnl al ah bl bh) - (d + 1))) ?_ (nm_r hx ?_))))))
      · rw [show pd_K (pd_A xol xnl al ah bl bh) - d = pd_K (pd_A xol xnl al ah bl bh) - (d + 1) + 1 by omega]
        exact pk_m1 _
      · have e1 := pd_sm_u (gp := gp) (k := G) (v := ((pd_A xol xnl al ah bl bh).2.1 r + 1, pd_hi ah (pd_D (pd_A xol xnl al ah bl bh)) d, (pd_A xol xnl al ah bl bh).2.2 r + 1, pd_hi bh (pd_E (pd_A xol xnl al ah bl bh)) d)) (g + 1) (by omega)
        have e3 := pd_sm_p (gp := gp) (k := G) (v := ((pd_A xol xnl al ah bl bh).2.1 r + 1, pd_hi ah (pd_D (pd_A xol xnl al ah bl bh)) d, (pd_A xol xnl al ah bl bh).2.2 r + 1, pd_hi bh (pd_E (pd_A xol xnl al ah bl bh)) d))
        have eh : pd_hi ah (pd_D (pd_A xol xnl al ah bl bh)) (d + 1) = (pd_A xol xnl al ah bl bh).2.1 r := eD
        have eh2 : pd_hi bh (pd_E (pd_A xol xnl al ah bl bh)) (d + 1) = (pd_A xol xnl al ah bl bh).2.2 r := eE
        have I := ih (d + 1) (G + 1) _ _ _ _ _ _ hX' (by rw [eh]; exact hI') (by omega) (by
          rw [e1, e3, eh]
          show G + 1 + 2 * (pd_sm gp G + (pd_hi ah (pd_D (pd_A xol xnl al ah bl bh)) d - ((pd_A xol xnl al ah bl bh).2.1 r + 1))) + 2 * ((pd_A xol xnl al ah bl bh).2.1 r - al) + (d + 1) ≤ _
          omega) (pd_rp_p hR) (by rw [pk_un (by omega)]; exact e0) (by rw [pk_un (by omega)]; exact e2)
        rw [eh, eh2, ecm] at I
        exact I
    · exact ih d G gp M G0 G1 G2 G3 (pd_X_miss hz h0 hX (fun w => absurd w.1 c1)) hI hG hS hR e0 e2
end XCH
