/-! Y: the chain's levels, its matches and gaps -/
section YC2
variable {ycp ycx yn ym yz yrl ysl ysp yna yhd yhr : Int32} {ya yb ybs yrs ytm yat yta yma yki yha yin ys0 ys1 ys2 ys3 yai yaj yal yci ycj yt : Nat → Int32}
variable {post : SY → Prop} {n m : Nat} {V0 : Nat → Option Nat} {al ah bl bh : Nat}
/-- chI, chJ hold the chain's d-th pair from its end -/
def pd_cI (K d : Nat) (D E : Nat → Nat) (CI CJ : Nat → Int32) : Prop := ∀ t, t ≤ d → CI (K - 1 - t) = nI (D t) ∧ CJ (K - 1 - t) = nI (E t)
theorem ya_lev185 {x1 x2 x3 x4 : Int32} (hz : (pd_A ya yb al ah bl bh).1 ≠ 0) (h0 : al ≤ ah) (h1 : ah ≤ 32) (h3 : bh ≤ 32) (hr : pd_ar (pd_A ya yb al ah bl bh) yai yaj) (hk : ∀ q, q < (pd_A ya yb al ah bl bh).1 → yal q = nI (pd_rk (pd_A ya yb al ah bl bh).2.2 q))
    (K : ∀ CI CJ, pd_cI (pd_K (pd_A ya yb al ah bl bh)) (pd_K (pd_A ya yb al ah bl bh) - 1) (pd_D (pd_A ya yb al ah bl bh)) (pd_E (pd_A ya yb al ah bl bh)) CI CJ → ∃ n319, wY_chain_319 post x2 x4 (nI (pd_K (pd_A ya yb al ah bl bh))) n319 x1 x3 0 ycp ycx yn ym yz yrl ysl ysp (nI (pd_A ya yb al ah bl bh).1) yhd yhr ya yb ybs yrs ytm yat yta yma yki yha yin ys0 ys1 ys2 ys3 yai yaj yal CI CJ yt) :
    ∀ u d CI CJ, d + u + 1 = pd_K (pd_A ya yb al ah bl bh) → pd_cI (pd_K (pd_A ya yb al ah bl bh)) d (pd_D (pd_A ya yb al ah bl bh)) (pd_E (pd_A ya yb al ah bl bh)) CI CJ →
    wY_chain_185 post x1 x2 x3 x4 (nI (pd_K (pd_A ya yb al ah bl bh))) ycp ycx yn ym yz yrl ysl ysp (nI (pd_A ya yb al ah bl bh).1) yhd yhr (u + 1) (nI (pd_c (pd_A ya yb al ah bl bh) d)) (nI u) ya yb ybs yrs ytm yat yta yma yki yha yin ys0 ys1 ys2 ys3 yai yaj yal CI CJ yt := by
  have hA := pd_an_k (a := ya) (b := yb) (al := al) (ah := ah) (bl := bl) (bh := bh) (ah - al)
  have hA2 : pd_an ya yb al ah bl bh (ah - al) = pd_A ya yb al ah bl bh := rfl
  rw [hA2, show al + (ah - al) = ah by omega] at hA
  have hK := pd_K_le (pd_A ya yb al ah bl bh)
  intro u
  induction u with
  | zero =>
    intro d CI CJ hd hC
    refine br_t (nI_lt (a := 0) (b := 1) (by decide) (by decide)) (K CI CJ ?_)
    rw [show pd_K (pd_A ya yb al ah bl bh) - 1 = d by omega]
    exact hC
  | succ u ih =>
    intro d CI CJ hd hC
    have c0 := pd_c_k hz (d := d) (by omega)
    have c1 := pd_c_k hz (d := d + 1) (by omega)
    refine br_f (nI_nlt (b := 1) (by omega) (by omega)) ⟨_, ya_pick197 (s := pd_A ya yb al ah bl bh) (l := u + 1) (c0 := pd_c (pd_A ya yb al ah bl bh) d) (c1 := pd_c (pd_A ya yb al ah bl bh) (d + 1)) (by omega) (fun q hq => ⟨by have := (hA.2.1 q hq).2.1; omega, by have := (hA.2.1 q hq).2.2.2.1; omega⟩) (by omega) (by omega) hk c0.2.1 hr ?_ c1.2.1 (ih (d + 1) _ _ (by omega) (fun t ht => ?_)) (pd_A ya yb al ah bl bh).1 0 (by omega)⟩
    · have e := c1.1
      rw [pd_cd_s, c0.1, show pd_K (pd_A ya yb al ah bl bh) - (d + 1) = u + 1 by omega] at e
      exact e
    · rw [Nat.add_sub_cancel]
      by_cases e : t = d + 1
      · subst e
        rw [show pd_K (pd_A ya yb al ah bl bh) - 1 - (d + 1) = u by omega, pk_us, pk_us]
        exact ⟨rfl, rfl⟩
      · rw [pk_un (by omega), pk_un (by omega)]
        exact hC t (by omega)
theorem ya_gaps319 {S0 : Nat} (hz : (pd_A ya yb al ah bl bh).1 ≠ 0) (h0 : al ≤ ah) (h1 : ah ≤ n) (hn : n ≤ 32) (h2 : bl ≤ bh) (h3 : bh ≤ 32) (hc : pd_cv ya yb n m V0 al ah bl bh) (hC : pd_cI (pd_K (pd_A ya yb al ah bl bh)) (pd_K (pd_A ya yb al ah bl bh) - 1) (pd_D (pd_A ya yb al ah bl bh)) (pd_E (pd_A ya yb al ah bl bh)) yci ycj) (hS0 : S0 ≤ 32)
    (K : ∀ sp gp M G0 G1 G2 G3, pd_I ya yb n m V0 0 sp gp 0 0 M → pd_nE gp sp → pd_sm gp sp + 1 ≤ S0 → pd_rp 0 sp gp G0 G1 G2 G3 → post (ycp, ycx, yn, ym, yz, yrl, ysl, nI sp, yna, yhd, yhr, ya, yb, ybs, yrs, ytm, yat, yta, M, yki, yha, yin, G0, G1, G2, G3, yai, yaj, yal, yci, ycj, yt)) :
    ∀ u c sp gp M G0 G1 G2 G3, c + u = pd_K (pd_A ya yb al ah bl bh) → pd_I ya yb n m V0 0 sp gp (pd_lo al (pd_D (pd_A ya yb al ah bl bh)) (pd_K (pd_A ya yb al ah bl bh)) (pd_K (pd_A ya yb al ah bl bh) - c)) ah M → pd_nE gp sp → pd_sm gp sp + (ah - pd_lo al (pd_D (pd_A ya yb al ah bl bh)) (pd_K (pd_A ya yb al ah bl bh)) (pd_K (pd_A ya yb al ah bl bh) - c)) + c ≤ S0 → pd_rp 0 sp gp G0 G1 G2 G3 →
    wY_chain_319 post (nI ah) (nI bh) (nI (pd_K (pd_A ya yb al ah bl bh))) (u + 1) (nI (pd_lo al (pd_D (pd_A ya yb al ah bl bh)) (pd_K (pd_A ya yb al ah bl bh)) (pd_K (pd_A ya yb al ah bl bh) - c))) (nI (pd_lo bl (pd_E (pd_A ya yb al ah bl bh)) (pd_K (pd_A ya yb al ah bl bh)) (pd_K (pd_A ya yb al ah bl bh) - c))) (nI c) ycp ycx yn ym yz yrl ysl (nI sp) yna yhd yhr ya yb ybs yrs ytm yat yta M yki yha yin G0 G1 G2 G3 yai yaj yal yci ycj yt := by
  have hCK := pd_CK_A hz h0
  have hK1 := hCK.1
  have hK2 := hCK.2.1
  generalize eK : pd_K (pd_A ya yb al ah bl bh) = k at *
  generalize eD : pd_D (pd_A ya yb al ah bl bh) = D at *
  generalize eE : pd_E (pd_A ya yb al ah bl bh) = E at *
  have hc1 : ∀ d, d < k → V0 (D d) = some (E d) := fun d hd => by
    have := hc.1 d (by rw [eK]; exact hd)
    rw [eD, eE] at this
    exact this
  have hc2 : ∀ t, t ≤ k → pd_gk ya yb n m V0 (pd_lo al D k t, pd_hi ah D t, pd_lo bl E k t, pd_hi bh E t) := fun t ht => by
    have := hc.2 t (by rw [eK]; exact ht)
    rw [eD, eE, eK] at this
    exact this
  intro u
  induction u with
  | zero =>
    intro c sp gp M G0 G1 G2 G3 hu hI hE hS hR
    have ec : c = k := by omega
    subst ec
    have hg := hc2 0 (Nat.zero_le _)
    rw [Nat.sub_self] at hI hS ⊢
    have hlh := pd_CK_lh hCK h0 h2 (t := 0) (Nat.zero_le _)
    have l1 : pd_lo al D c 0 ≤ ah := hlh.2.1
    have l2 : pd_lo bl E c 0 ≤ bh := hlh.2.2.2.2.1
    refine br_t (nI_le (Nat.le_refl _) (by omega)) (ya_push (n := n) (m := m) (V0 := V0) (gp := gp) (S := S0) (M := M) (H := ah) l1 l2 (Nat.le_refl _) (by omega) h3 hg hI hE (by omega) hS0 hR (fun sp' gp' G0 G1 G2 G3 q1 q2 q3 q4 => ?_))
    dsimp only
    exact K sp' gp' M _ _ _ _ (pd_I_em q1 (Nat.le_refl _) (Nat.le_refl _)) q2 (by omega) q4
  | succ u ih =>
    intro c sp gp M G0 G1 G2 G3 hu hI hE hS hR
    have hg := hc2 (k - c) (by omega)
    have hlh := pd_CK_lh hCK h0 h2 (t := k - c) (by omega)
    obtain ⟨t, et⟩ : ∃ t, k - c = t + 1 := ⟨k - c - 1, by omega⟩
    have hC1 := hC t (by omega)
    rw [show k - 1 - t = c by omega] at hC1
    have hin := hCK.2.2.1 t (by omega)
    have el : pd_lo al D k (k - (c + 1)) = D t + 1 := by
      rw [show k - (c + 1) = t by omega]
      exact if_pos (by omega)
    have el2 : pd_lo bl E k (k - (c + 1)) = E t + 1 := by
      rw [show k - (c + 1) = t by omega]
      exact if_pos (by omega)
    have e1 : pd_hi ah D (t + 1) = D t := rfl
    have e2 : pd_hi bh E (t + 1) = E t := rfl
    have IH := fun sp' gp' M' G0 G1 G2 G3 => ih (c + 1) sp' gp' M' G0 G1 G2 G3 (by omega)
    rw [el, el2] at IH
    rw [et, e1, e2] at hg hlh
    rw [et] at hI hS ⊢
    generalize eP : pd_lo al D k (t + 1) = P at *
    generalize eQ : pd_lo bl E k (t + 1) = Q at *
    have z : (nI c).toNatClampNeg = c := nI_clamp (by omega)
    have v : vp_in (nI c) 32 := vp_in_nI (by omega) (by decide)
    have f1 : yci (nI c).toNatClampNeg = nI (D t) := by rw [z, hC1.1]
    have f2 : ycj (nI c).toNatClampNeg = nI (E t) := by rw [z, hC1.2]
    have zD : (nI (D t)).toNatClampNeg = D t := nI_clamp (by omega)
    refine br_f (nI_ge (by omega) (by omega)) (And.intro v (And.intro v (And.intro (by rw [f1]; exact vp_in_nI (by omega) (by decide)) (nm_r (e' := upd M (D t) (nI (E t))) (by rw [f1, f2, zD]) (And.intro v (And.intro v ?_))))))
    rw [f1, f2]
    refine ya_push (n := n) (m := m) (V0 := V0) (gp := gp) (S := S0) (M := M) (H := ah) (by omega) (by omega) (by omega) (by omega) (by omega) hg hI hE (by omega) hS0 hR (fun sp' gp' G0 G1 G2 G3 q1 q2 q3 q4 => ?_)
    dsimp only
    refine And.intro v (nm_r (e' := nI (D t + 1)) (by rw [f1, nI_1]) (And.intro v (nm_r (e' := nI (E t + 1)) (by rw [f2, nI_1]) (nm_r (nI_1 c) ?_))))
    exact IH sp' gp' _ _ _ _ _ (pd_I_lo q1 (by omega) (hc1 t (by omega))) q2 (by omega) q4
theorem ya_chain {S0 sp : Nat} {gp : Nat → pd_g} (hz : (pd_A ya yb al ah bl bh).1 ≠ 0) (h0 : al ≤ ah) (h1 : ah ≤ n) (hn : n ≤ 32) (h2 : bl ≤ bh) (h3 : bh ≤ 32) (hc : pd_cv ya yb n m V0 al ah bl bh) (hr : pd_ar (pd_A ya yb al ah bl bh) yai yaj) (hS0 : S0 ≤ 32)
    (hI : pd_I ya yb n m V0 0 sp gp al ah yma) (hE : pd_nE gp sp) (hS : pd_sm gp sp + (ah - al) ≤ S0) (hR : pd_rp 0 sp gp ys0 ys1 ys2 ys3)
    (K : ∀ sp gp M G0 G1 G2 G3 AR CI CJ, pd_I ya yb n m V0 0 sp gp 0 0 M → pd_nE gp sp → pd_sm gp sp + 1 ≤ S0 → pd_rp 0 sp gp G0 G1 G2 G3 → post (ycp, ycx, yn, ym, yz, yrl, ysl, nI sp, nI (pd_A ya yb al ah bl bh).1, yhd, yhr, ya, yb, ybs, yrs, ytm, yat, yta, M, yki, yha, yin, G0, G1, G2, G3, yai, yaj, AR, CI, CJ, yt)) :
    wpY_chain post (ycp, ycx, yn, ym, yz, yrl, ysl, nI sp, nI (pd_A ya yb al ah bl bh).1, yhd, yhr, ya, yb, ybs, yrs, ytm, yat, yta, yma, yki, yha, yin, ys0, ys1, ys2, ys3, yai, yaj, yal, yci, ycj, yt) (nI al) (nI ah) (nI bl) (nI bh) := by
  have hA := pd_an_k (a := ya) (b := yb) (al := al) (ah := ah) (bl := bl) (bh := bh) (ah - al)
  have hA2 : pd_an ya yb al ah bl bh (ah - al) = pd_A ya yb al ah bl bh := rfl
  rw [hA2, show al + (ah - al) = ah by omega] at hA
  have hK := pd_K_le (pd_A ya yb al ah bl bh)
  have hCK := pd_CK_A hz h0
  have hK1 := hCK.1
  have c0 := pd_c_k hz (d := 0) (by omega)
  refine ⟨_, ya_rank9 (s := pd_A ya yb al ah bl bh) (by omega) (fun q hq => by have := (hA.2.1 q hq).2.2.2.1; omega) hr (fun AR hAR => ⟨_, ya_last116 (s := pd_A ya yb al ah bl bh) (Kk := pd_K (pd_A ya yb al ah bl bh)) (c0 := pd_c (pd_A ya yb al ah bl bh) 0) (by omega) (by omega) hAR c0.1 c0.2.1 hK1 hr ⟨_, ya_lev185 hz h0 (by omega) h3 hr hAR (fun CI CJ hC => ?_) (pd_K (pd_A ya yb al ah bl bh) - 1) 0 _ _ (by omega) (fun t ht => ?_)⟩ (pd_A ya yb al ah bl bh).1 0 (by omega)⟩) (pd_A ya yb al ah bl bh).1 0 yal (by omega) (fun q hq => absurd hq (Nat.not_lt_zero _))⟩
  · have el : pd_lo al (pd_D (pd_A ya yb al ah bl bh)) (pd_K (pd_A ya yb al ah bl bh)) (pd_K (pd_A ya yb al ah bl bh) - 0) = al := if_neg (by omega)
    have el2 : pd_lo bl (pd_E (pd_A ya yb al ah bl bh)) (pd_K (pd_A ya yb al ah bl bh)) (pd_K (pd_A ya yb al ah bl bh) - 0) = bl := if_neg (by omega)
    have G := ya_gaps319 (post := post) (S0 := S0) (yci := CI) (ycj := CJ) (yna := nI (pd_A ya yb al ah bl bh).1) (yal := AR) (yai := yai) (yaj := yaj) (ycp := ycp) (ycx := ycx) (yn := yn) (ym := ym) (yz := yz) (yrl := yrl) (ysl := ysl) (yhd := yhd) (yhr := yhr) (ybs := ybs) (yrs := yrs) (ytm := ytm) (yat := yat) (yta := yta) (yki := yki) (yha := yha) (yin := yin) (yt := yt) hz h0 h1 hn h2 h3 hc hC hS0 (fun sp gp M G0 G1 G2 G3 q1 q2 q3 q4 => K sp gp M G0 G1 G2 G3 AR CI CJ q1 q2 q3 q4) (pd_K (pd_A ya yb al ah bl bh)) 0 sp gp yma ys0 ys1 ys2 ys3 (by omega) (by rw [el]; exact hI) hE (by rw [el]; omega) hR
    rw [el, el2] at G
    exact ⟨_, G⟩
  · have et : t = 0 := by omega
    subst et
    rw [Nat.sub_zero, pk_us, pk_us]
    exact ⟨rfl, rfl⟩
end YC2
