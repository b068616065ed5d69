/-! Y: lcs -/
section YLC
variable {ycp ycx yn ym yz yrl ysl ysp yna yhd yhr : Int32} {ya yb ybs yrs ytm yat yta yma yki yha yin ys0 ys1 ys2 ys3 yai yaj yal yci ycj yt : Nat → Int32}
variable {post : SY → Prop} {n m : Nat} {V0 : Nat → Option Nat} {lo hi : Nat} {gp : Nat → pd_g}
theorem ya_fill13 {J3 : Int32 → (Nat → Int32) → (Nat → Int32) → (Nat → Int32) → (Nat → Int32) → (Nat → Int32) → (Nat → Int32) → (Nat → Int32) → (Nat → Int32) → (Nat → Int32) → (Nat → Int32) → (Nat → Int32) → (Nat → Int32) → (Nat → Int32) → (Nat → Int32) → (Nat → Int32) → (Nat → Int32) → (Nat → Int32) → (Nat → Int32) → (Nat → Int32) → (Nat → Int32) → (Nat → Int32) → Prop} {al ah bl bh r : Nat} (h1 : ah ≤ 32) (h3 : bh ≤ 32) (hr : al + r ≤ ah)
    (K : ∀ T, pd_tb ya yb al ah bl bh (r + 1) 0 T → J3 (nI (al + r) - 1) ya yb ybs yrs ytm yat yta yma yki yha yin ys0 ys1 ys2 ys3 yai yaj yal yci ycj T) :
    ∀ t T, bl + t ≤ bh + 1 → pd_tb ya yb al ah bl bh (r + 1) t T → wY_lcs_13 post J3 (nI al) (nI ah) (nI bl) (nI bh) (nI (al + r)) ycp ycx yn ym yz yrl ysl ysp yna yhd yhr (t + 1) (nI (bl + t) - 1) ya yb ybs yrs ytm yat yta yma yki yha yin ys0 ys1 ys2 ys3 yai yaj yal yci ycj T := by
  have zi : (nI (al + r)).toNatClampNeg = al + r := nI_clamp (by omega)
  intro t
  induction t with
  | zero =>
    intro T ht hT
    exact br_t (pd_lt1 (by omega)) (nm_r (pd_sub1 _) (K T hT))
  | succ t ih =>
    intro T ht hT
    have hx : nI (bl + (t + 1)) - 1 = nI (bl + t) := nI_pred (bl + t)
    have hx2 : nI (bl + t) + (-1) = nI (bl + t) - 1 := pd_sub1 _
    have zj : (nI (bl + t)).toNatClampNeg = bl + t := nI_clamp (by omega)
    have ecell : nI (al + r) * 33 + nI (bl + t) = nI ((al + r) * 33 + (bl + t)) := pd_cell _ _
    have zc : (nI (al + r) * 33 + nI (bl + t)).toNatClampNeg = (al + r) * 33 + (bl + t) := by rw [ecell, nI_clamp (by omega)]
    have vc : vp_in (nI (al + r) * 33 + nI (bl + t)) 1089 := by rw [ecell]; exact vp_in_nI (by omega) (by decide)
    have put : ∀ v : Nat, v = pd_T ya yb ah bh (ah - (al + r)) (bh - (bl + t)) → wY_lcs_126 post J3 (wY_lcs_13 post J3 (nI al) (nI ah) (nI bl) (nI bh) (nI (al + r)) ycp ycx yn ym yz yrl ysl ysp yna yhd yhr (t + 1)) (nI al) (nI ah) (nI bl) (nI bh) (nI (al + r)) (nI (bl + t)) (nI v) ycp ycx yn ym yz yrl ysl ysp yna yhd yhr ya yb ybs yrs ytm yat yta yma yki yha yin ys0 ys1 ys2 ys3 yai yaj yal yci ycj T := fun v hv =>
      And.intro vc (nm_r (e' := upd T ((al + r) * 33 + (bl + t)) (nI v)) (by rw [zc]) (nm_r hx2 (ih _ (by omega) (pd_tb_p h3 (by omega) (by rw [hv]) hT))))
    rw [hx]
    refine br_f (nI_nlt (by omega) (by omega)) (pk_le ah (al + r) (fun c => ?_) (fun c => pk_le bh (bl + t) (fun c2 => ?_) (fun c2 => And.intro (vp_in_nI (by omega) (by decide)) (And.intro (vp_in_nI (by omega) (by decide)) (br_c (fun c3 => ?_) (fun c3 => ?_))))))
    · refine put 0 ?_
      rw [show ah - (al + r) = 0 by omega]
      rfl
    · refine put 0 ?_
      rw [show bh - (bl + t) = 0 by omega, pd_T_0]
    · rw [zi, zj] at c3
      have ec : (nI (al + r) + 1) * 33 + nI (bl + t) + 1 = nI ((al + r + 1) * 33 + (bl + t + 1)) := by
        rw [nI_1, pd_cell, nI_1]
        exact congrArg nI (by omega)
      have et := hT (al + r + 1) (bl + t + 1) (by omega) (by omega) (by omega) (by omega)
      refine And.intro (by rw [ec]; exact vp_in_nI (by omega) (by decide)) (nm_r (e' := nI (1 + pd_T ya yb ah bh (ah - (al + r + 1)) (bh - (bl + t + 1)))) ?_ (put _ ?_))
      · rw [ec, nI_clamp (by omega), et]
        exact nI_add 1 _
      · rw [show ah - (al + r) = ah - (al + r + 1) + 1 by omega, show bh - (bl + t) = bh - (bl + t + 1) + 1 by omega, pd_T_s, if_pos (by rw [show ah - (ah - (al + r + 1) + 1) = al + r by omega, show bh - (bh - (bl + t + 1) + 1) = bl + t by omega]; exact c3)]
        omega
    · rw [zi, zj] at c3
      have ec : (nI (al + r) + 1) * 33 + nI (bl + t) = nI ((al + r + 1) * 33 + (bl + t)) := by
        rw [nI_1, pd_cell]
      have ed : nI (al + r) * 33 + nI (bl + t) + 1 = nI ((al + r) * 33 + (bl + t + 1)) := by
        rw [pd_cell, nI_1]
        exact congrArg nI (by omega)
      have et := hT (al + r + 1) (bl + t) (by omega) (by omega) (by omega) (by omega)
      have eu := hT (al + r) (bl + t + 1) (by omega) (by omega) (by omega) (by omega)
      have b1 := pd_T_le (a := ya) (b := yb) (ah := ah) (bh := bh) (ah - (al + r + 1)) (bh - (bl + t))
      have b2 := pd_T_le (a := ya) (b := yb) (ah := ah) (bh := bh) (ah - (al + r)) (bh - (bl + t + 1))
      have eT : pd_T ya yb ah bh (ah - (al + r)) (bh - (bl + t)) = if pd_T ya yb ah bh (ah - (al + r)) (bh - (bl + t + 1)) ≤ pd_T ya yb ah bh (ah - (al + r + 1)) (bh - (bl + t)) then pd_T ya yb ah bh (ah - (al + r + 1)) (bh - (bl + t)) else pd_T ya yb ah bh (ah - (al + r)) (bh - (bl + t + 1)) := by
        rw [show ah - (al + r) = ah - (al + r + 1) + 1 by omega, show bh - (bl + t) = bh - (bl + t + 1) + 1 by omega, pd_T_s, if_neg (by rw [show ah - (ah - (al + r + 1) + 1) = al + r by omega, show bh - (bh - (bl + t + 1) + 1) = bl + t by omega]; exact c3)]
      refine And.intro (by rw [ec]; exact vp_in_nI (by omega) (by decide)) (nm_r (e' := nI (pd_T ya yb ah bh (ah - (al + r + 1)) (bh - (bl + t)))) (by rw [ec, nI_clamp (by omega), et]) (And.intro (by rw [ed]; exact vp_in_nI (by omega) (by decide)) (nm_r (e' := nI (pd_T ya yb ah bh (ah - (al + r)) (bh - (bl + t + 1)))) (by rw [ed, nI_clamp (by omega), eu]) (pk_lt (pd_T ya yb ah bh (ah - (al + r + 1)) (bh - (bl + t))) (pd_T ya yb ah bh (ah - (al + r)) (bh - (bl + t + 1))) (fun c4 => put _ ?_) (fun c4 => put _ ?_)))))
      · rw [eT, if_neg (by omega)]
      · rw [eT, if_pos (by omega)]
theorem ya_fill3 {al ah bl bh : Nat} (h0 : al ≤ ah) (h1 : ah ≤ 32) (h2 : bl ≤ bh) (h3 : bh ≤ 32)
    (K : ∀ T, pd_tb ya yb al ah bl bh 0 (bh + 1) T → ∃ n162, wY_lcs_162 post (nI ah) (nI bh) ycp ycx yn ym yz yrl ysl ysp yna yhd yhr n162 (nI al) (nI bl) 0 ya yb ybs yrs ytm yat yta yma yki yha yin ys0 ys1 ys2 ys3 yai yaj yal yci ycj T) :
    ∀ r T, al + r ≤ ah + 1 → pd_tb ya yb al ah bl bh r (bh + 1) T → wY_lcs_3 post (nI al) (nI ah) (nI bl) (nI bh) ycp ycx yn ym yz yrl ysl ysp yna yhd yhr (r + 1) (nI (al + r) - 1) ya yb ybs yrs ytm yat yta yma yki yha yin ys0 ys1 ys2 ys3 yai yaj yal yci ycj T := by
  intro r
  induction r with
  | zero =>
    intro T hr hT
    exact br_t (pd_lt1 (by omega)) (K T hT)
  | succ r ih =>
    intro T hr hT
    have hx : nI (al + (r + 1)) - 1 = nI (al + r) := nI_pred (al + r)
    have hb : nI bh = nI (bl + (bh + 1 - bl)) - 1 := by
      rw [show bl + (bh + 1 - bl) = bh + 1 by omega, nI_pred]
    have F := ya_fill13 (post := post) (J3 := wY_lcs_3 post (nI al) (nI ah) (nI bl) (nI bh) ycp ycx yn ym yz yrl ysl ysp yna yhd yhr (r + 1)) (al := al) (ah := ah) (bl := bl) (bh := bh) (r := r) (ycp := ycp) (ycx := ycx) (yn := yn) (ym := ym) (yz := yz) (yrl := yrl) (ysl := ysl) (ysp := ysp) (yna := yna) (yhd := yhd) (yhr := yhr) (ya := ya) (yb := yb) (ybs := ybs) (yrs := yrs) (ytm := ytm) (yat := yat) (yta := yta) (yma := yma) (yki := yki) (yha := yha) (yin := yin) (ys0 := ys0) (ys1 := ys1) (ys2 := ys2) (ys3 := ys3) (yai := yai) (yaj := yaj) (yal := yal) (yci := yci) (ycj := ycj) h1 h3 (by omega) (fun T' hT' => ih T' (by omega) (pd_tb_r hT' (by omega))) (bh + 1 - bl) T (by omega) (fun x y k1 k2 k3 k4 => hT x y k1 k2 k3 (by omega))
    rw [← hb] at F
    rw [hx]
    exact br_f (nI_nlt (by omega) (by omega)) ⟨_, F⟩
theorem ya_walk162 {al ah bl bh : Nat} (h1 : ah ≤ n) (hn : n ≤ 32) (h3 : bh ≤ 32) (hT : pd_tb ya yb al ah bl bh 0 (bh + 1) yt)
    (K : ∀ M, pd_I ya yb n m V0 lo hi gp ah ah M → post (ycp, ycx, yn, ym, yz, yrl, ysl, ysp, yna, yhd, yhr, ya, yb, ybs, yrs, ytm, yat, yta, M, yki, yha, yin, ys0, ys1, ys2, ys3, yai, yaj, yal, yci, ycj, yt)) :
    ∀ f i j c M, (ah - i) + (bh - j) ≤ f → c + f ≤ 64 → al ≤ i → bl ≤ j → i ≤ ah → j ≤ bh → (∀ x, i ≤ x → x < ah → V0 x = pd_lm ya yb ah bh f i j x) → pd_I ya yb n m V0 lo hi gp i ah M →
    wY_lcs_162 post (nI ah) (nI bh) ycp ycx yn ym yz yrl ysl ysp yna yhd yhr (f + 1) (nI i) (nI j) (nI c) ya yb ybs yrs ytm yat yta M yki yha yin ys0 ys1 ys2 ys3 yai yaj yal yci ycj yt := by
  intro f
  induction f with
  | zero =>
    intro i j c M hf hc ha hb hi hj hV hI
    have ei : i = ah := by omega
    subst ei
    exact pk_le 64 c (fun _ => K M hI) (fun _ => pk_le i i (fun _ => K M hI) (fun c => absurd c (by omega)))
  | succ f ih =>
    intro i j c M hf hcf ha hb hi hj hV hI
    refine pk_le 64 c (fun c0 => absurd c0 (by omega)) (fun _ => pk_le ah i (fun c => ?_) (fun c => pk_le bh j (fun c2 => ?_) (fun c2 => And.intro (vp_in_nI (by omega) (by decide)) (And.intro (vp_in_nI (by omega) (by decide)) (br_c (fun c3 => ?_) (fun c3 => ?_))))))
    · have ei : i = ah := by omega
      subst ei
      exact K M hI
    · refine K M (pd_I_sk hI hi (fun x x1 x2 => ?_))
      rw [hV x x1 x2, pd_lm_s, if_neg (by omega)]
    · rw [nI_clamp (by omega), nI_clamp (by omega)] at c3
      have hVi : V0 i = some j := by rw [hV i (Nat.le_refl i) c, pd_lm_s, if_pos ⟨c, c2⟩, if_pos c3, if_pos rfl]
      refine And.intro (vp_in_nI (by omega) (by decide)) (nm_r (e' := upd M i (nI j)) (by rw [nI_clamp (by omega)]) (nm_r (nI_1 i) (nm_r (nI_1 j) (nm_r (nI_1 _) ?_))))
      refine ih (i + 1) (j + 1) _ _ (by omega) (by omega) (by omega) (by omega) (by omega) (by omega) (fun x x1 x2 => ?_) (pd_I_lo hI c hVi)
      rw [hV x (by omega) x2, pd_lm_s, if_pos ⟨c, c2⟩, if_pos c3, if_neg (by omega)]
    · rw [nI_clamp (by omega), nI_clamp (by omega)] at c3
      have ec : (nI i + 1) * 33 + nI j = nI ((i + 1) * 33 + j) := by
        rw [nI_1, pd_cell]
      have ed : nI i * 33 + nI j + 1 = nI (i * 33 + (j + 1)) := by
        rw [pd_cell, nI_1]
        exact congrArg nI (by omega)
      have et := hT (i + 1) j (by omega) (by omega) (by omega) (by omega)
      have eu := hT i (j + 1) (by omega) (by omega) (by omega) (by omega)
      have b1 := pd_T_le (a := ya) (b := yb) (ah := ah) (bh := bh) (ah - (i + 1)) (bh - j)
      have b2 := pd_T_le (a := ya) (b := yb) (ah := ah) (bh := bh) (ah - i) (bh - (j + 1))
      refine And.intro (by rw [ec]; exact vp_in_nI (by omega) (by decide)) (And.intro (by rw [ed]; exact vp_in_nI (by omega) (by decide)) (pk_lt (pd_T ya yb ah bh (ah - (i + 1)) (bh - j)) (pd_T ya yb ah bh (ah - i) (bh - (j + 1))) (fun c4 => nm_r (nI_1 j) (nm_r (nI_1 _) ?_)) (fun c4 => nm_r (nI_1 i) (nm_r (nI_1 _) ?_)) (by rw [ec, nI_clamp (by omega), et]) (by rw [ed, nI_clamp (by omega), eu])))
      · refine ih i (j + 1) _ M (by omega) (by omega) ha (by omega) hi (by omega) (fun x x1 x2 => ?_) hI
        rw [hV x x1 x2, pd_lm_s, if_pos ⟨c, c2⟩, if_neg c3, if_neg (by omega)]
      · have hVi : ∀ x, i ≤ x → x < ah → V0 x = pd_lm ya yb ah bh f (i + 1) j x := fun x x1 x2 => by rw [hV x x1 x2, pd_lm_s, if_pos ⟨c, c2⟩, if_neg c3, if_pos c4]
        refine ih (i + 1) j _ M (by omega) (by omega) (by omega) hb (by omega) hj (fun x x1 x2 => hVi x (by omega) x2) (pd_I_sk hI (by omega) (fun x x1 x2 => ?_))
        have ex : x = i := by omega
        subst ex
        rw [hVi x (Nat.le_refl x) c]
        cases hh : pd_lm ya yb ah bh f (x + 1) j x with
        | none => rfl
        | some y => have := pd_lm_lo _ _ _ _ _ hh; omega
theorem ya_lcs {al ah bl bh : Nat} (h0 : al ≤ ah) (h1 : ah ≤ n) (hn : n ≤ 32) (h2 : bl ≤ bh) (h3 : bh ≤ 32)
    (hV : ∀ x, al ≤ x → x < ah → V0 x = pd_lm ya yb ah bh ((ah - al) + (bh - bl)) al bl x) (hI : pd_I ya yb n m V0 lo hi gp al ah yma)
    (K : ∀ M T, pd_I ya yb n m V0 lo hi gp ah ah M → post (ycp, ycx, yn, ym, yz, yrl, ysl, ysp, yna, yhd, yhr, ya, yb, ybs, yrs, ytm, yat, yta, M, yki, yha, yin, ys0, ys1, ys2, ys3, yai, yaj, yal, yci, ycj, T)) : wpY_lcs post (ycp, ycx, yn, ym, yz, yrl, ysl, ysp, yna, yhd, yhr, ya, yb, ybs, yrs, ytm, yat, yta, yma, yki, yha, yin, ys0, ys1, ys2, ys3, yai, yaj, yal, yci, ycj, yt) (nI al) (nI ah) (nI bl) (nI bh) := by
  have hb : nI ah = nI (al + (ah + 1 - al)) - 1 := by
    rw [show al + (ah + 1 - al) = ah + 1 by omega, nI_pred]
  have F := ya_fill3 (post := post) (al := al) (ah := ah) (bl := bl) (bh := bh) (ycp := ycp) (ycx := ycx) (yn := yn) (ym := ym) (yz := yz) (yrl := yrl) (ysl := ysl) (ysp := ysp) (yna := yna) (yhd := yhd) (yhr := yhr) (ya := ya) (yb := yb) (ybs := ybs) (yrs := yrs) (ytm := ytm) (yat := yat) (yta := yta) (yma := yma) (yki := yki) (yha := yha) (yin := yin) (ys0 := ys0) (ys1 := ys1) (ys2 := ys2) (ys3 := ys3) (yai := yai) (yaj := yaj) (yal := yal) (yci := yci) (ycj := ycj) h0 (by omega) h2 h3 (fun T hT => ⟨_, ya_walk162 (yt := T) h1 hn h3 hT (fun M hM => K M T hM) _ al bl 0 yma (Nat.le_refl _) (by omega) (Nat.le_refl _) (Nat.le_refl _) h0 h2 hV hI⟩) (ah + 1 - al) yt (by omega) (pd_tb_0 (by omega) (by omega))
  rw [← hb] at F
  exact ⟨_, F⟩
end YLC
