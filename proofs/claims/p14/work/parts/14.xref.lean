/-! V's steps, then X: refineGap, matchLines -/
section XVS
variable {a b : Nat → Int32} {f al ah bl bh x : Nat} {W : pd_W}
theorem pd_V_pre (hx : x < pd_p a b al ah bl bh) : pd_V a b (f + 1) al ah bl bh (al + x) = some (bl + x) := by
  rw [pd_V_s]
  unfold pd_vs
  rw [if_pos (by omega), Nat.add_sub_cancel_left]
theorem pd_V_mid (hx : al + pd_p a b al ah bl bh ≤ x) : pd_V a b (f + 1) al ah bl bh x = pd_vt a b (pd_V a b f) (al + pd_p a b al ah bl bh) ah (bl + pd_p a b al ah bl bh) bh x := by
  rw [pd_V_s]
  unfold pd_vs
  rw [if_neg (by omega)]
theorem pd_vt_suf (hx : x < pd_s a b al ah bl bh) : pd_vt a b W al ah bl bh (ah - 1 - x) = some (bh - 1 - x) := by
  have hs := pd_s_le (a := a) (b := b) (al := al) (ah := ah) (bl := bl) (bh := bh)
  unfold pd_vt
  rw [if_pos (by omega)]
  exact congrArg some (by omega)
theorem pd_vt_mid (hx : x < ah - pd_s a b al ah bl bh) : pd_vt a b W al ah bl bh x = pd_vm a b W al (ah - pd_s a b al ah bl bh) bl (bh - pd_s a b al ah bl bh) x := by
  unfold pd_vt
  rw [if_neg (by omega)]
theorem pd_vm_cv {n m : Nat} {V0 : Nat → Option Nat} (hz : (pd_A a b al ah bl bh).1 ≠ 0) (he : ¬ (al = ah ∨ bl = bh)) (ha : al ≤ ah) (hb : bl ≤ bh) (hn : ah ≤ n) (hm : bh ≤ m) (hf : ah - al ≤ f) (hV : ∀ x, al ≤ x → x < ah → V0 x = pd_vm a b (pd_V a b f) al ah bl bh x) : pd_cv a b n m V0 al ah bl bh := by
  have hC := pd_CK_A hz ha
  have hF : ∀ x, al ≤ x → x < ah → V0 x = pd_vc (pd_V a b f) al ah bl bh (pd_K (pd_A a b al ah bl bh)) (pd_D (pd_A a b al ah bl bh)) (pd_E (pd_A a b al ah bl bh)) x := fun x x1 x2 => by
    rw [hV x x1 x2]
    unfold pd_vm
    rw [if_neg he, if_neg hz]
  refine ⟨fun d hd => ?_, fun t ht => ?_⟩
  · have := hC.2.2.1 d hd
    rw [hF _ this.1 this.2.1]
    exact pd_vc_at hC hd
  · have h := pd_CK_lh hC ha hb ht
    refine ⟨h.2.1, by have := h.2.2.1; dsimp only; omega, h.2.2.2.2.1, by have := h.2.2.2.2.2.1; dsimp only; omega, f, by have := h.2.2.2.2.2.2; dsimp only; omega, fun x hx => ?_⟩
    have x1 : pd_lo al (pd_D (pd_A a b al ah bl bh)) (pd_K (pd_A a b al ah bl bh)) t ≤ x := hx.1
    have x2 : x < pd_hi ah (pd_D (pd_A a b al ah bl bh)) t := hx.2
    rw [hF x (by omega) (by omega)]
    exact pd_vc_in hC ht x1 x2
end XVS
section XRE
variable {xcp xcx xoc xnc xbc xrc xhd xhr xpc xop xht xgc xac : Int32} {xol xnl xbl xrl xpa xok xoh xoi xhf xhs xho xhp xhn xhm xtp xap xg0 xg1 xg2 xg3 xao xan xar xlc : Nat → Int32}
variable {post : St2 → Prop} {n m : Nat} {V0 : Nat → Option Nat}
theorem xa_refine {g G : Nat} {gp : Nat → pd_g} (hg : g < 65) (hG : g < G) (hn : n ≤ 32) (hm : m ≤ 32) (hI : pd_I xol xnl n m V0 g G gp 0 0 xpa) (hR : pd_rp g G gp xg0 xg1 xg2 xg3) (hS : G + 2 * pd_sm gp G ≤ 65 + 2 * pd_sm gp g)
    (K : ∀ G' gp' M G0 G1 G2 G3 AO AN AR T ac, pd_I xol xnl n m V0 (g + 1) G' gp' 0 0 M → g < G' → G' + 2 * pd_sm gp' G' ≤ 65 + 2 * pd_sm gp' (g + 1) → pd_rp (g + 1) G' gp' G0 G1 G2 G3 → post (xcp, xcx, xoc, xnc, xbc, xrc, xhd, xhr, nI (pd_cm M n), xop, xht, nI G', ac, xol, xnl, xbl, xrl, M, xok, xoh, xoi, xhf, xhs, xho, xhp, xhn, xhm, xtp, xap, G0, G1, G2, G3, AO, AN, AR, T)) :
    wpX_refineGap post (xcp, xcx, xoc, xnc, xbc, xrc, xhd, xhr, nI (pd_cm xpa n), xop, xht, nI G, xac, xol, xnl, xbl, xrl, xpa, xok, xoh, xoi, xhf, xhs, xho, xhp, xhn, xhm, xtp, xap, xg0, xg1, xg2, xg3, xao, xan, xar, xlc) (nI g) := by
  obtain ⟨k1, k2, k3, k4, f, k5, k6⟩ := hI.1 g (Nat.le_refl g) hG
  obtain ⟨r0, r1, r2, r3⟩ := hR g (Nat.le_refl g) hG
  have hI1 := pd_I_pf hI (Nat.le_refl 0) hG
  have hs1 := pd_sm_s gp g
  obtain ⟨al, ah, bl, bh, eg⟩ : ∃ al ah bl bh, gp g = (al, ah, bl, bh) := ⟨_, _, _, _, rfl⟩
  rw [eg] at k1 k2 k3 k4 k5 k6 r0 r1 r2 r3 hI1 hs1
  dsimp only at k1 k2 k3 k4 k5 k6 r0 r1 r2 r3 hI1 hs1
  obtain ⟨f, rfl⟩ : ∃ f', f = f' + 1 := ⟨f - 1, by omega⟩
  have z : (nI g).toNatClampNeg = g := nI_clamp (by omega)
  have v : vp_in (nI g) 65 := vp_in_nI hg (by decide)
  have hp := pd_p_le (a := xol) (b := xnl) (al := al) (ah := ah) (bl := bl) (bh := bh)
  have hV1 : ∀ x, x < pd_p xol xnl al ah bl bh → V0 (al + x) = some (bl + x) := fun x hx => by
    rw [k6 (al + x) ⟨by dsimp only; omega, by dsimp only; omega⟩]
    exact pd_V_pre hx
  have hV2 : ∀ x, al + pd_p xol xnl al ah bl bh ≤ x → x < ah → V0 x = pd_vt xol xnl (pd_V xol xnl f) (al + pd_p xol xnl al ah bl bh) ah (bl + pd_p xol xnl al ah bl bh) bh x := fun x x1 x2 => by
    rw [k6 x ⟨by dsimp only; omega, x2⟩]
    exact pd_V_mid x1
  unfold wpX_refineGap
  dsimp only
  refine xa_prefix hg r0 r1 r2 r3 k1 k2 hn k3 (by omega) hV1 hI1 (fun M1 hM1 => ?_)
  dsimp only
  generalize eP : pd_p xol xnl al ah bl bh = P at *
  have hs := pd_s_le (a := xol) (b := xnl) (al := al + P) (ah := ah) (bl := bl + P) (bh := bh)
  refine xa_suffix (al := al + P) (ah := ah) (bl := bl + P) (bh := bh) hg (by rw [pk_us]) r1 (by rw [pk_us]) r3 (by omega) k2 hn (by omega) (by omega) (fun x hx => ?_) hM1 (fun M2 hM2 => ?_)
  · rw [hV2 _ (by omega) (by omega)]
    exact pd_vt_suf hx
  dsimp only
  generalize eS : pd_s xol xnl (al + P) ah (bl + P) bh = S at *
  have hV3 : ∀ x, al + P ≤ x → x < ah - S → V0 x = pd_vm xol xnl (pd_V xol xnl f) (al + P) (ah - S) (bl + P) (bh - S) x := fun x x1 x2 => by
    rw [hV2 x x1 (by omega), pd_vt_mid (by rw [eS]; exact x2), eS]
  generalize eAl : al + P = al' at *
  generalize eAh : ah - S = ah' at *
  generalize eBl : bl + P = bl' at *
  generalize eBh : bh - S = bh' at *
  have hR' : pd_rp (g + 1) G gp (upd xg0 g (nI al')) (upd xg1 g (nI ah')) (upd xg2 g (nI bl')) (upd xg3 g (nI bh')) := fun q q1 q2 => by
    rw [pk_un (by omega), pk_un (by omega), pk_un (by omega), pk_un (by omega)]
    exact hR q (by omega) q2
  have hmono := pd_sm_m (gp := gp) G (g + 1) (by omega)
  have hend : al' = ah' ∨ bl' = bh' → pd_I xol xnl n m V0 (g + 1) G gp 0 0 M2 := fun c => by
    refine pd_I_em (pd_I_sk (x0 := ah') hM2 (by omega) (fun x x1 x2 => ?_)) (Nat.le_refl _) (Nat.le_refl _)
    rw [hV3 x x1 x2]
    unfold pd_vm
    rw [if_pos c]
  have f0 : upd xg0 g (nI al') (nI g).toNatClampNeg = nI al' := by rw [z, pk_us]
  have f1 : upd xg1 g (nI ah') (nI g).toNatClampNeg = nI ah' := by rw [z, pk_us]
  have f2 : upd xg2 g (nI bl') (nI g).toNatClampNeg = nI bl' := by rw [z, pk_us]
  have f3 : upd xg3 g (nI bh') (nI g).toNatClampNeg = nI bh' := by rw [z, pk_us]
  refine And.intro v (And.intro v (pk_eq al' ah' (fun c => ?_) (fun c => And.intro v (And.intro v (pk_eq bl' bh' (fun c2 => ?_) (fun c2 => ?_) f2 f3))) f0 f1))
  · exact K G gp M2 _ _ _ _ _ _ _ _ _ (hend (Or.inl c)) hG (by omega) hR'
  · exact K G gp M2 _ _ _ _ _ _ _ _ _ (hend (Or.inr c2)) hG (by omega) hR'
  refine xa_find (al := al') (ah := ah') (bl := bl') (bh := bh') hg pk_us pk_us pk_us pk_us (by omega) (by omega) (by omega) (by omega) (fun AO AN hA => ?_)
  dsimp only
  have hAk := pd_an_k (a := xol) (b := xnl) (al := al') (ah := ah') (bl := bl') (bh := bh') (ah' - al')
  have hA2 : pd_an xol xnl al' ah' bl' bh' (ah' - al') = pd_A xol xnl al' ah' bl' bh' := rfl
  rw [hA2] at hAk
  refine pk_le (pd_A xol xnl al' ah' bl' bh').1 0 (fun c3 => ?_) (fun c3 => ?_)
  · have hz : (pd_A xol xnl al' ah' bl' bh').1 = 0 := by omega
    refine xa_fill (al := al') (ah := ah') (bl := bl') (bh := bh') hg pk_us pk_us pk_us pk_us (by omega) (by omega) (by omega) (by omega) (fun T hT => ?_)
    dsimp only
    refine xa_walk (al := al') (ah := ah') (bl := bl') (bh := bh') (lo := g + 1) (hi := G) (gp := gp) hg pk_us pk_us pk_us pk_us (by omega) (by omega) hn (by omega) (by omega) hT (fun x x1 x2 => ?_) hM2 (fun M hM => ?_)
    · rw [hV3 x x1 x2]
      unfold pd_vm
      rw [if_neg (by omega), if_pos hz]
    · exact K G gp M _ _ _ _ _ _ _ _ _ (pd_I_em hM (Nat.le_refl _) (Nat.le_refl _)) hG (by omega) hR'
  · have hz : (pd_A xol xnl al' ah' bl' bh').1 ≠ 0 := by omega
    have hcv : pd_cv xol xnl n m V0 al' ah' bl' bh' := pd_vm_cv hz (by omega) (by omega) (by omega) (by omega) (by omega) (by omega) hV3
    unfold wpX_matchChain
    dsimp only
    refine xa_rank (s := pd_A xol xnl al' ah' bl' bh') (by omega) (fun q hq => by have := (hAk.2.1 q hq).2.2.2.1; omega) hA (fun AR hAR => ?_)
    dsimp only
    refine And.intro v (nm_r f1 (And.intro v (nm_r f3 (nm_e ⟨_, xa_chain28 (n := n) (m := m) (V0 := V0) (B := 65) hg (by omega) (by omega) hn (by omega) (by omega) hz hcv hA hAR (Nat.le_refl _) (fun G' gp' M G0 G1 G2 G3 q1 q2 _ q3 q4 => ?_) (pd_A xol xnl al' ah' bl' bh').1 0 G gp M2 _ _ _ _ (pd_X_0 _) hM2 hG ?_ hR' pk_us pk_us⟩))))
    · exact K G' gp' M _ _ _ _ _ _ _ _ _ q1 q2 q3 q4
    · show G + 2 * pd_sm gp G + 2 * (ah' - al') + 0 ≤ 65 + 2 * pd_sm gp (g + 1)
      omega
end XRE
