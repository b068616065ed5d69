/-! Y: countA, countB, findB, the anchors -/
section YAN
variable {ycp ycx yn ym yz yrl ysl ysp yna yhd yhr : Int32} {ya yb ybs yrs ytm yat yta yma yki yha yin ys0 ys1 ys2 ys3 yai yaj yal yci ycj yt : Nat → Int32}
theorem ya_count6_ya {post : Int32 → Prop} {v : Int32} {l h : Nat} (hh : h ≤ 32) : ∀ (d k s : Nat), l + k + d = h → s = pd_ct ya v l k → post (nI (pd_ct ya v l (k + d))) → wY_countA_6 post (nI h) v ycp ycx yn ym yz yrl ysl ysp yna yhd yhr ya yb ybs yrs ytm yat yta yma yki yha yin ys0 ys1 ys2 ys3 yai yaj yal yci ycj yt (d + 1) (nI s) (nI (l + k)) := by
  intro d
  induction d with
  | zero =>
    intro k s hk hs K
    subst hs
    exact pk_le h (l + k) (fun _ => K) (fun c => absurd hk (by omega))
  | succ d ih =>
    intro k s hk hs K
    have zi : (nI (l + k)).toNatClampNeg = l + k := nI_clamp (by omega)
    rw [show k + (d + 1) = k + 1 + d by omega] at K
    refine pk_le h (l + k) (fun c => absurd hk (by omega)) (fun c => And.intro (vp_in_nI (by omega) (by decide)) (br_c (fun c1 => ?_) (fun c1 => ?_)))
    · rw [zi] at c1
      refine nm_r (nI_1 s) (nm_r (nI_1 (l + k)) ?_)
      exact ih (k + 1) (s + 1) (by omega) (by rw [pd_ct_y c1, hs]) K
    · rw [zi] at c1
      refine nm_r (nI_1 (l + k)) ?_
      exact ih (k + 1) s (by omega) (by rw [pd_ct_n c1, hs]) K
theorem ya_count_ya {post : Int32 → Prop} {v : Int32} {l h : Nat} (hl : l ≤ h) (hh : h ≤ 32) (K : post (nI (pd_ct ya v l (h - l)))) : wpY_countA post (ycp, ycx, yn, ym, yz, yrl, ysl, ysp, yna, yhd, yhr, ya, yb, ybs, yrs, ytm, yat, yta, yma, yki, yha, yin, ys0, ys1, ys2, ys3, yai, yaj, yal, yci, ycj, yt) (nI l) (nI h) v :=
  ⟨_, ya_count6_ya hh (h - l) 0 0 (by omega) rfl (by rw [Nat.zero_add]; exact K)⟩
theorem ya_count6_yb {post : Int32 → Prop} {v : Int32} {l h : Nat} (hh : h ≤ 32) : ∀ (d k s : Nat), l + k + d = h → s = pd_ct yb v l k → post (nI (pd_ct yb v l (k + d))) → wY_countB_6 post (nI h) v ycp ycx yn ym yz yrl ysl ysp yna yhd yhr ya yb ybs yrs ytm yat yta yma yki yha yin ys0 ys1 ys2 ys3 yai yaj yal yci ycj yt (d + 1) (nI s) (nI (l + k)) := by
  intro d
  induction d with
  | zero =>
    intro k s hk hs K
    subst hs
    exact pk_le h (l + k) (fun _ => K) (fun c => absurd hk (by omega))
  | succ d ih =>
    intro k s hk hs K
    have zi : (nI (l + k)).toNatClampNeg = l + k := nI_clamp (by omega)
    rw [show k + (d + 1) = k + 1 + d by omega] at K
    refine pk_le h (l + k) (fun c => absurd hk (by omega)) (fun c => And.intro (vp_in_nI (by omega) (by decide)) (br_c (fun c1 => ?_) (fun c1 => ?_)))
    · rw [zi] at c1
      refine nm_r (nI_1 s) (nm_r (nI_1 (l + k)) ?_)
      exact ih (k + 1) (s + 1) (by omega) (by rw [pd_ct_y c1, hs]) K
    · rw [zi] at c1
      refine nm_r (nI_1 (l + k)) ?_
      exact ih (k + 1) s (by omega) (by rw [pd_ct_n c1, hs]) K
theorem ya_count_yb {post : Int32 → Prop} {v : Int32} {l h : Nat} (hl : l ≤ h) (hh : h ≤ 32) (K : post (nI (pd_ct yb v l (h - l)))) : wpY_countB post (ycp, ycx, yn, ym, yz, yrl, ysl, ysp, yna, yhd, yhr, ya, yb, ybs, yrs, ytm, yat, yta, yma, yki, yha, yin, ys0, ys1, ys2, ys3, yai, yaj, yal, yci, ycj, yt) (nI l) (nI h) v :=
  ⟨_, ya_count6_yb hh (h - l) 0 0 (by omega) rfl (by rw [Nat.zero_add]; exact K)⟩
theorem ya_find3 {post : Int32 → Prop} {v : Int32} {l h : Nat} (hl : l ≤ h) (hh : h ≤ 32) (h1 : pd_ct yb v l (h - l) = 1) (K : post (nI (pd_lp yb v l (h - l)))) : ∀ (d k : Nat), l + k + d = h → (∀ x, x < k → ¬ yb (l + x) = v) → wY_findB_3 post (nI h) v ycp ycx yn ym yz yrl ysl ysp yna yhd yhr ya yb ybs yrs ytm yat yta yma yki yha yin ys0 ys1 ys2 ys3 yai yaj yal yci ycj yt (d + 1) (nI (l + k)) := by
  have hp := pd_lp_in (f := yb) (v := v) (lo := l) (h - l) (by omega)
  intro d
  induction d with
  | zero =>
    intro k hk hx
    have := hx (pd_lp yb v l (h - l) - l) (by omega)
    rw [show l + (pd_lp yb v l (h - l) - l) = pd_lp yb v l (h - l) by omega] at this
    exact absurd hp.2.2 this
  | succ d ih =>
    intro k hk hx
    have zi : (nI (l + k)).toNatClampNeg = l + k := nI_clamp (by omega)
    refine pk_le h (l + k) (fun c => absurd hk (by omega)) (fun c => And.intro (vp_in_nI (by omega) (by decide)) (br_c (fun c1 => ?_) (fun c1 => ?_)))
    · rw [zi] at c1
      have e := pd_ct_u h1 c1 (by omega) (y := pd_lp yb v l (h - l) - l) (by rw [show l + (pd_lp yb v l (h - l) - l) = pd_lp yb v l (h - l) by omega]; exact hp.2.2) (by omega)
      rw [show pd_lp yb v l (h - l) = l + k by omega] at K
      exact K
    · rw [zi] at c1
      refine nm_r (nI_1 (l + k)) (ih (k + 1) (by omega) (fun x hx2 => ?_))
      by_cases e : x = k
      · rw [e]; exact c1
      · exact hx x (by omega)
theorem ya_find {post : Int32 → Prop} {v : Int32} {l h : Nat} (hl : l ≤ h) (hh : h ≤ 32) (h1 : pd_ct yb v l (h - l) = 1) (K : post (nI (pd_lp yb v l (h - l)))) : wpY_findB post (ycp, ycx, yn, ym, yz, yrl, ysl, ysp, yna, yhd, yhr, ya, yb, ybs, yrs, ytm, yat, yta, yma, yki, yha, yin, ys0, ys1, ys2, ys3, yai, yaj, yal, yci, ycj, yt) (nI l) (nI h) v :=
  ⟨_, ya_find3 hl hh h1 K (h - l) 0 (by omega) (fun x hx => absurd hx (Nat.not_lt_zero _))⟩
theorem ya_anch140 {post : SY → Prop} {al ah bl bh : Nat} (h0 : al ≤ ah) (h1 : ah ≤ 32) (h2 : bl ≤ bh) (h3 : bh ≤ 32)
    (K : ∀ AO AN, pd_ar (pd_A ya yb al ah bl bh) AO AN → ((pd_A ya yb al ah bl bh).1 = 0 → wpY_lcs post (ycp, ycx, yn, ym, yz, yrl, ysl, ysp, nI (pd_A ya yb al ah bl bh).1, yhd, yhr, ya, yb, ybs, yrs, ytm, yat, yta, yma, yki, yha, yin, ys0, ys1, ys2, ys3, AO, AN, yal, yci, ycj, yt) (nI al) (nI ah) (nI bl) (nI bh)) ∧ ((pd_A ya yb al ah bl bh).1 ≠ 0 → wpY_chain post (ycp, ycx, yn, ym, yz, yrl, ysl, ysp, nI (pd_A ya yb al ah bl bh).1, yhd, yhr, ya, yb, ybs, yrs, ytm, yat, yta, yma, yki, yha, yin, ys0, ys1, ys2, ys3, AO, AN, yal, yci, ycj, yt) (nI al) (nI ah) (nI bl) (nI bh))) :
    ∀ (d k : Nat) (AO AN : Nat → Int32), al + k + d = ah → pd_ar (pd_an ya yb al ah bl bh k) AO AN →
    wY_refine_140 post (nI al) (nI ah) (nI bl) (nI bh) ycp ycx yn ym yz yrl ysl ysp yhd yhr (d + 1) (nI (al + k)) (nI (pd_an ya yb al ah bl bh k).1) ya yb ybs yrs ytm yat yta yma yki yha yin ys0 ys1 ys2 ys3 AO AN yal yci ycj yt := by
  intro d
  induction d with
  | zero =>
    intro k AO AN hk hr
    have ek : k = ah - al := by omega
    subst ek
    have hn := (pd_an_k (a := ya) (b := yb) (al := al) (ah := ah) (bl := bl) (bh := bh) (ah - al)).1
    exact pk_le ah (al + (ah - al)) (fun _ => pk_eq (pd_an ya yb al ah bl bh (ah - al)).1 0 (fun c => (K AO AN hr).1 c) (fun c => (K AO AN hr).2 c)) (fun c => absurd hk (by omega))
  | succ d ih =>
    intro k AO AN hk hr
    have zi : (nI (al + k)).toNatClampNeg = al + k := nI_clamp (by omega)
    have vi : vp_in (nI (al + k)) 32 := vp_in_nI (by omega) (by decide)
    have hn := (pd_an_k (a := ya) (b := yb) (al := al) (ah := ah) (bl := bl) (bh := bh) k).1
    have zn : (nI (pd_an ya yb al ah bl bh k).1).toNatClampNeg = (pd_an ya yb al ah bl bh k).1 := nI_clamp (by omega)
    have vn : vp_in (nI (pd_an ya yb al ah bl bh k).1) 32 := vp_in_nI (by omega) (by decide)
    have b1 := pd_ct_le (f := ya) (v := ya (al + k)) (lo := al) (ah - al)
    have b2 := pd_ct_le (f := yb) (v := ya (al + k)) (lo := bl) (bh - bl)
    refine pk_le ah (al + k) (fun c => absurd hk (by omega)) (fun c => And.intro vi (nm_r (e' := ya (al + k)) (by rw [zi]) (ya_count_ya h0 h1 (pk_eq (pd_ct ya (ya (al + k)) al (ah - al)) 1 (fun c1 => ya_count_yb h2 h3 (pk_eq (pd_ct yb (ya (al + k)) bl (bh - bl)) 1 (fun c2 => ?_) (fun c2 => nm_r (nI_1 (al + k)) ?_))) (fun c1 => nm_r (nI_1 (al + k)) ?_)))))
    · obtain ⟨q1, q2⟩ := pd_ar_y hr c1 c2
      refine And.intro vn (nm_r (e' := upd AO (pd_an ya yb al ah bl bh k).1 (nI (al + k))) (by rw [zn]) (ya_find h2 h3 c2 (And.intro vn (nm_r (e' := upd AN (pd_an ya yb al ah bl bh k).1 (nI (pd_lp yb (ya (al + k)) bl (bh - bl)))) (by rw [zn]) (nm_r (nI_1 _) (nm_r (nI_1 (al + k)) ?_))))))
      rw [← q1]
      exact ih (k + 1) _ _ (by omega) q2
    · have q := pd_an_n (a := ya) (b := yb) (al := al) (ah := ah) (bl := bl) (bh := bh) (k := k) (fun w => c2 w.2)
      rw [← q]
      exact ih (k + 1) _ _ (by omega) (by rw [q]; exact hr)
    · have q := pd_an_n (a := ya) (b := yb) (al := al) (ah := ah) (bl := bl) (bh := bh) (k := k) (fun w => c1 w.1)
      rw [← q]
      exact ih (k + 1) _ _ (by omega) (by rw [q]; exact hr)
end YAN
