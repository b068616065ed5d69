/-! X: onlyPlace, findAnchors, rankAnchors -/
section XAN
variable {xcp xcx xoc xnc xbc xrc xhd xhr xpc xop xht xgc xac : Int32} {xol xnl xbl xrl xpa xok xoh xoi xhf xhs xho xhp xhn xhm xtp xap xg0 xg1 xg2 xg3 xao xan xar xlc : Nat → Int32}
theorem xa_only9_xol {post : Int32 → Prop} {v : Int32} {l h : Nat} (hh : h ≤ 32) : ∀ (d k s : Nat) (p : Int32), l + k + d = h → p = pd_pl xol v l k → s = pd_ct xol v l k → post (pd_op xol v l (k + d)) → wX_onlyPlace_9 post (nI h) v xol (d + 1) p (nI s) (nI (l + k)) := by
  intro d
  induction d with
  | zero =>
    intro k s p hk hp hs K
    have hc := pd_ct_le (f := xol) (v := v) (lo := l) k
    refine pk_le h (l + k) (fun _ => pk_eq s 1 (fun c => ?_) (fun c => ?_)) (fun c => absurd hk (by omega))
    · subst hp hs
      have e : pd_op xol v l (k + 0) = pd_pl xol v l k := by
        unfold pd_op pd_pl
        rw [Nat.add_zero, if_pos c, if_neg (by omega)]
      rw [e] at K
      exact K
    · subst hs
      have e : pd_op xol v l (k + 0) = -1 := if_neg c
      rw [e] at K
      exact K
  | succ d ih =>
    intro k s p hk hp hs K
    have hc := pd_ct_le (f := xol) (v := v) (lo := l) k
    have zi : (nI (l + k)).toNatClampNeg = l + k := nI_clamp (by omega)
    rw [show k + (d + 1) = k + 1 + d by omega] at K
    refine pk_le h (l + k) (fun c => absurd hk (by omega)) (fun c => And.intro (vp_in_nI (by omega) (by decide)) (br_c (fun c1 => ?_) (fun c1 => ?_)))
    · rw [zi] at c1
      refine nm_r (nI_1 s) (nm_r (nI_1 (l + k)) ?_)
      exact ih (k + 1) (s + 1) _ (by omega) (pd_pl_y c1).symm (by rw [pd_ct_y c1, hs]) K
    · rw [zi] at c1
      refine nm_r (nI_1 (l + k)) ?_
      exact ih (k + 1) s p (by omega) (by rw [pd_pl_n c1, hp]) (by rw [pd_ct_n c1, hs]) K
theorem xa_only_xol {post : Int32 → Prop} {p1 p2 p3 v : Int32} {l h : Nat} (e1 : p1 = nI l) (e2 : p2 = nI h) (e3 : p3 = v) (hl : l ≤ h) (hh : h ≤ 32) (K : post (pd_op xol v l (h - l))) : wpX_onlyPlace post xol p1 p2 p3 := by
  subst e1 e2 e3
  exact ⟨_, xa_only9_xol hh (h - l) 0 0 (-1) (by omega) rfl rfl (by rw [Nat.zero_add]; exact K)⟩
theorem xa_only9_xnl {post : Int32 → Prop} {v : Int32} {l h : Nat} (hh : h ≤ 32) : ∀ (d k s : Nat) (p : Int32), l + k + d = h → p = pd_pl xnl v l k → s = pd_ct xnl v l k → post (pd_op xnl v l (k + d)) → wX_onlyPlace_9 post (nI h) v xnl (d + 1) p (nI s) (nI (l + k)) := by
  intro d
  induction d with
  | zero =>
    intro k s p hk hp hs K
    have hc := pd_ct_le (f := xnl) (v := v) (lo := l) k
    refine pk_le h (l + k) (fun _ => pk_eq s 1 (fun c => ?_) (fun c => ?_)) (fun c => absurd hk (by omega))
    · subst hp hs
      have e : pd_op xnl v l (k + 0) = pd_pl xnl v l k := by
        unfold pd_op pd_pl
        rw [Nat.add_zero, if_pos c, if_neg (by omega)]
      rw [e] at K
      exact K
    · subst hs
      have e : pd_op xnl v l (k + 0) = -1 := if_neg c
      rw [e] at K
      exact K
  | succ d ih =>
    intro k s p hk hp hs K
    have hc := pd_ct_le (f := xnl) (v := v) (lo := l) k
    have zi : (nI (l + k)).toNatClampNeg = l + k := nI_clamp (by omega)
    rw [show k + (d + 1) = k + 1 + d by omega] at K
    refine pk_le h (l + k) (fun c => absurd hk (by omega)) (fun c => And.intro (vp_in_nI (by omega) (by decide)) (br_c (fun c1 => ?_) (fun c1 => ?_)))
    · rw [zi] at c1
      refine nm_r (nI_1 s) (nm_r (nI_1 (l + k)) ?_)
      exact ih (k + 1) (s + 1) _ (by omega) (pd_pl_y c1).symm (by rw [pd_ct_y c1, hs]) K
    · rw [zi] at c1
      refine nm_r (nI_1 (l + k)) ?_
      exact ih (k + 1) s p (by omega) (by rw [pd_pl_n c1, hp]) (by rw [pd_ct_n c1, hs]) K
theorem xa_only_xnl {post : Int32 → Prop} {p1 p2 p3 v : Int32} {l h : Nat} (e1 : p1 = nI l) (e2 : p2 = nI h) (e3 : p3 = v) (hl : l ≤ h) (hh : h ≤ 32) (K : post (pd_op xnl v l (h - l))) : wpX_onlyPlace post xnl p1 p2 p3 := by
  subst e1 e2 e3
  exact ⟨_, xa_only9_xnl hh (h - l) 0 0 (-1) (by omega) rfl rfl (by rw [Nat.zero_add]; exact K)⟩
theorem xa_find12 {post : St2 → Prop} {g al ah bl bh : Nat} (hg : g < 65) (e0 : xg0 g = nI al) (e1 : xg1 g = nI ah) (e2 : xg2 g = nI bl) (e3 : xg3 g = nI bh) (h0 : al ≤ ah) (h1 : ah ≤ 32) (h2 : bl ≤ bh) (h3 : bh ≤ 32) : ∀ (d k : Nat) (AO AN : Nat → Int32), al + k + d = ah → pd_ar (pd_an xol xnl al ah bl bh k) AO AN →
    (∀ AO' AN', pd_ar (pd_A xol xnl al ah bl bh) AO' AN' → post (xcp, xcx, xoc, xnc, xbc, xrc, xhd, xhr, xpc, xop, xht, xgc, nI (pd_A xol xnl al ah bl bh).1, xol, xnl, xbl, xrl, xpa, xok, xoh, xoi, xhf, xhs, xho, xhp, xhn, xhm, xtp, xap, xg0, xg1, xg2, xg3, AO', AN', xar, xlc)) →
    wX_findAnchors_12 post (nI g) xcp xcx xoc xnc xbc xrc xhd xhr xpc xop xht xgc (d + 1) (nI (al + k)) (nI (pd_an xol xnl al ah bl bh k).1) xol xnl xbl xrl xpa xok xoh xoi xhf xhs xho xhp xhn xhm xtp xap xg0 xg1 xg2 xg3 AO AN xar xlc := by
  have z : (nI g).toNatClampNeg = g := nI_clamp (by omega)
  have v : vp_in (nI g) 65 := vp_in_nI hg (by decide)
  have f0 : xg0 (nI g).toNatClampNeg = nI al := by rw [z, e0]
  have f1 : xg1 (nI g).toNatClampNeg = nI ah := by rw [z, e1]
  have f2 : xg2 (nI g).toNatClampNeg = nI bl := by rw [z, e2]
  have f3 : xg3 (nI g).toNatClampNeg = nI bh := by rw [z, e3]
  intro d
  induction d with
  | zero =>
    intro k AO AN hk hr K
    have ek : k = ah - al := by omega
    subst ek
    exact And.intro v (pk_le ah (al + (ah - al)) (fun _ => K AO AN hr) (fun c => absurd hk (by omega)) f1)
  | succ d ih =>
    intro k AO AN hk hr K
    have zi : (nI (al + k)).toNatClampNeg = al + k := nI_clamp (by omega)
    have vi : vp_in (nI (al + k)) 32 := vp_in_nI (by omega) (by decide)
    have hn := (pd_an_k (a := xol) (b := xnl) (al := al) (ah := ah) (bl := bl) (bh := bh) k).1
    have zn : (nI (pd_an xol xnl al ah bl bh k).1).toNatClampNeg = (pd_an xol xnl al ah bl bh k).1 := nI_clamp (by omega)
    have vn : vp_in (nI (pd_an xol xnl al ah bl bh k).1) 32 := vp_in_nI (by omega) (by decide)
    refine And.intro v (pk_le ah (al + k) (fun c => absurd hk (by omega)) (fun c => And.intro v (And.intro v (And.intro vi (xa_only_xol (v := xol (al + k)) f0 f1 (by rw [zi]) h0 h1 (And.intro v (And.intro v (And.intro vi (xa_only_xnl (v := xol (al + k)) f2 f3 (by rw [zi]) h2 h3 ?_)))))))) f1)
    by_cases c1 : pd_ct xol (xol (al + k)) al (ah - al) = 1
    · have o1 : pd_op xol (xol (al + k)) al (ah - al) = nI (pd_lp xol (xol (al + k)) al (ah - al)) := if_pos c1
      have l1 := pd_lp_in (f := xol) (v := xol (al + k)) (lo := al) (ah - al) (by omega)
      by_cases c2 : pd_ct xnl (xol (al + k)) bl (bh - bl) = 1
      · have o2 : pd_op xnl (xol (al + k)) bl (bh - bl) = nI (pd_lp xnl (xol (al + k)) bl (bh - bl)) := if_pos c2
        have l2 := pd_lp_in (f := xnl) (v := xol (al + k)) (lo := bl) (bh - bl) (by omega)
        obtain ⟨q1, q2⟩ := pd_ar_y hr c1 c2
        refine br_f (by rw [o1]; exact pd_ne1 (by omega)) (br_f (by rw [o2]; exact pd_ne1 (by omega)) (And.intro vn (nm_r (e' := upd AO (pd_an xol xnl al ah bl bh k).1 (nI (al + k))) (by rw [zn]) (And.intro vn (nm_r (e' := upd AN (pd_an xol xnl al ah bl bh k).1 (nI (pd_lp xnl (xol (al + k)) bl (bh - bl)))) (by rw [zn, o2]) (nm_r (nI_1 _) (nm_r (nI_1 (al + k)) ?_)))))))
        rw [← q1]
        exact ih (k + 1) _ _ (by omega) q2 K
      · have o2 : pd_op xnl (xol (al + k)) bl (bh - bl) = -1 := if_neg c2
        have q := pd_an_n (a := xol) (b := xnl) (al := al) (ah := ah) (bl := bl) (bh := bh) (k := k) (fun w => c2 w.2)
        refine br_f (by rw [o1]; exact pd_ne1 (by omega)) (br_t o2 (nm_r (nI_1 (al + k)) ?_))
        rw [← q]
        exact ih (k + 1) _ _ (by omega) (by rw [q]; exact hr) K
    · have o1 : pd_op xol (xol (al + k)) al (ah - al) = -1 := if_neg c1
      have q := pd_an_n (a := xol) (b := xnl) (al := al) (ah := ah) (bl := bl) (bh := bh) (k := k) (fun w => c1 w.1)
      refine br_t o1 (nm_r (nI_1 (al + k)) ?_)
      rw [← q]
      exact ih (k + 1) _ _ (by omega) (by rw [q]; exact hr) K
theorem xa_find {post : St2 → Prop} {g al ah bl bh : Nat} (hg : g < 65) (e0 : xg0 g = nI al) (e1 : xg1 g = nI ah) (e2 : xg2 g = nI bl) (e3 : xg3 g = nI bh) (h0 : al ≤ ah) (h1 : ah ≤ 32) (h2 : bl ≤ bh) (h3 : bh ≤ 32)
    (K : ∀ AO' AN', pd_ar (pd_A xol xnl al ah bl bh) AO' AN' → post (xcp, xcx, xoc, xnc, xbc, xrc, xhd, xhr, xpc, xop, xht, xgc, nI (pd_A xol xnl al ah bl bh).1, xol, xnl, xbl, xrl, xpa, xok, xoh, xoi, xhf, xhs, xho, xhp, xhn, xhm, xtp, xap, xg0, xg1, xg2, xg3, AO', AN', xar, xlc)) : wpX_findAnchors post (xcp, xcx, xoc, xnc, xbc, xrc, xhd, xhr, xpc, xop, xht, xgc, xac, xol, xnl, xbl, xrl, xpa, xok, xoh, xoi, xhf, xhs, xho, xhp, xhn, xhm, xtp, xap, xg0, xg1, xg2, xg3, xao, xan, xar, xlc) (nI g) := by
  have z : (nI g).toNatClampNeg = g := nI_clamp (by omega)
  exact And.intro (vp_in_nI hg (by decide)) (nm_r (e' := nI al) (by rw [z, e0]) ⟨_, xa_find12 hg e0 e1 e2 e3 h0 h1 h2 h3 (ah - al) 0 xao xan (by omega) (fun p hp => absurd hp (Nat.not_lt_zero _)) K⟩)
theorem xa_rank17 {post : Int32 → St2 → Prop} {J4 : Int32 → Int32 → (Nat → Int32) → (Nat → Int32) → (Nat → Int32) → (Nat → Int32) → (Nat → Int32) → (Nat → Int32) → (Nat → Int32) → (Nat → Int32) → (Nat → Int32) → (Nat → Int32) → (Nat → Int32) → (Nat → Int32) → (Nat → Int32) → (Nat → Int32) → (Nat → Int32) → (Nat → Int32) → (Nat → Int32) → (Nat → Int32) → (Nat → Int32) → (Nat → Int32) → (Nat → Int32) → (Nat → Int32) → (Nat → Int32) → (Nat → Int32) → Prop} {s : Nat × (Nat → Nat) × (Nat → Nat)} {p : Nat} (hn : s.1 ≤ 32) (hp : p < s.1) (hb : ∀ q, q < s.1 → s.2.2 q < 32) (hr : pd_ar s xao xan) (hk : ∀ q, q < p → xar q = nI (pd_rk s.2.2 q))
    (K : J4 (nI (pd_gr (pd_rk s.2.2) (p + 1))) (nI (p + 1)) xol xnl xbl xrl xpa xok xoh xoi xhf xhs xho xhp xhn xhm xtp xap xg0 xg1 xg2 xg3 xao xan (upd xar p (nI (pd_rk s.2.2 p))) xlc) :
    ∀ d q, q + d = p → wX_rankAnchors_17 post J4 (nI (pd_gr (pd_rk s.2.2) p)) (nI p) xcp xcx xoc xnc xbc xrc xhd xhr xpc xop xht xgc xac xol xnl xbl xrl xpa xok xoh xoi xhf xhs xho xhp xhn xhm xtp xap xg0 xg1 xg2 xg3 xao xan xar xlc (d + 1) (nI (pd_bs s.2.2 (pd_rk s.2.2) p q)) (nI q) := by
  have zp : (nI p).toNatClampNeg = p := nI_clamp (by omega)
  have vp : vp_in (nI p) 32 := vp_in_nI (by omega) (by decide)
  have hg : pd_gr (pd_rk s.2.2) p ≤ p := pd_gr_le p (fun q hq => by have := pd_rk_l s.2.2 q; omega)
  have hl := pd_rk_l s.2.2 p
  intro d
  induction d with
  | zero =>
    intro q hq
    have eq : q = p := by omega
    subst eq
    have es : (upd xar q (nI (pd_rk s.2.2 q))) (nI q).toNatClampNeg = nI (pd_rk s.2.2 q) := by rw [zp, pk_us]
    refine br_t (nI_le (Nat.le_refl q) (by omega)) (And.intro vp (nm_r (e' := upd xar q (nI (pd_rk s.2.2 q))) (by rw [zp, nI_1, ← pd_rk_e]) (And.intro vp (pk_le (pd_rk s.2.2 q) (pd_gr (pd_rk s.2.2) q) (fun c => nm_r (nI_1 q) ?_) (fun c => And.intro vp (nm_r es (nm_r (nI_1 q) ?_))) es))))
    · rw [pd_gr_s, if_neg (by omega)] at K
      exact K
    · rw [pd_gr_s, if_pos c] at K
      exact K
  | succ d ih =>
    intro q hq
    have zq : (nI q).toNatClampNeg = q := nI_clamp (by omega)
    have vq : vp_in (nI q) 32 := vp_in_nI (by omega) (by decide)
    have b1 := hb p hp
    have b2 := hb q (by omega)
    have b3 := pd_rk_l s.2.2 q
    have b4 : pd_bs s.2.2 (pd_rk s.2.2) p q ≤ p := pd_bs_le q (fun x hx => by have := pd_rk_l s.2.2 x; omega)
    have f1 : xan (nI p).toNatClampNeg = nI (s.2.2 p) := by rw [zp, (hr p hp).2]
    have f2 : xan (nI q).toNatClampNeg = nI (s.2.2 q) := by rw [zq, (hr q (by omega)).2]
    have f3 : xar (nI q).toNatClampNeg = nI (pd_rk s.2.2 q) := by rw [zq, hk q (by omega)]
    have I := ih (q + 1) (by omega)
    rw [pd_bs_s] at I
    refine br_f (nI_ge (by omega) (by omega)) (And.intro vq (And.intro vp (pk_le (s.2.2 p) (s.2.2 q) (fun c => nm_r (nI_1 q) ?_) (fun c => And.intro vq (pk_le (pd_rk s.2.2 q) (pd_bs s.2.2 (pd_rk s.2.2) p q) (fun c2 => nm_r (nI_1 q) ?_) (fun c2 => And.intro vq (nm_r f3 (nm_r (nI_1 q) ?_))) f3)) f1 f2)))
    · rw [if_neg (by omega)] at I
      exact I
    · rw [if_neg (by omega)] at I
      exact I
    · rw [if_pos ⟨c, c2⟩] at I
      exact I
theorem xa_rank4 {post : Int32 → St2 → Prop} {s : Nat × (Nat → Nat) × (Nat → Nat)} (hn : s.1 ≤ 32) (hb : ∀ q, q < s.1 → s.2.2 q < 32) (hr : pd_ar s xao xan)
    (K : ∀ AR, (∀ q, q < s.1 → AR q = nI (pd_rk s.2.2 q)) → post (nI (pd_K s)) (xcp, xcx, xoc, xnc, xbc, xrc, xhd, xhr, xpc, xop, xht, xgc, nI s.1, xol, xnl, xbl, xrl, xpa, xok, xoh, xoi, xhf, xhs, xho, xhp, xhn, xhm, xtp, xap, xg0, xg1, xg2, xg3, xao, xan, AR, xlc)) :
    ∀ d p AR, p + d = s.1 → (∀ q, q < p → AR q = nI (pd_rk s.2.2 q)) → wX_rankAnchors_4 post xcp xcx xoc xnc xbc xrc xhd xhr xpc xop xht xgc (nI s.1) (d + 1) (nI (pd_gr (pd_rk s.2.2) p)) (nI p) xol xnl xbl xrl xpa xok xoh xoi xhf xhs xho xhp xhn xhm xtp xap xg0 xg1 xg2 xg3 xao xan AR xlc := by
  intro d
  induction d with
  | zero =>
    intro p AR hp hA
    have ep : p = s.1 := by omega
    subst ep
    exact br_t (nI_le (Nat.le_refl _) (by omega)) (K AR hA)
  | succ d ih =>
    intro p AR hp hA
    refine br_f (nI_ge (by omega) (by omega)) ⟨_, xa_rank17 hn (by omega) hb hr hA (ih (p + 1) _ (by omega) (fun q hq => ?_)) p 0 (by omega)⟩
    by_cases e : q = p
    · subst e; rw [pk_us]
    · rw [pk_un e]; exact hA q (by omega)
theorem xa_rank {post : Int32 → St2 → Prop} {s : Nat × (Nat → Nat) × (Nat → Nat)} (hn : s.1 ≤ 32) (hb : ∀ q, q < s.1 → s.2.2 q < 32) (hr : pd_ar s xao xan)
    (K : ∀ AR, (∀ q, q < s.1 → AR q = nI (pd_rk s.2.2 q)) → post (nI (pd_K s)) (xcp, xcx, xoc, xnc, xbc, xrc, xhd, xhr, xpc, xop, xht, xgc, nI s.1, xol, xnl, xbl, xrl, xpa, xok, xoh, xoi, xhf, xhs, xho, xhp, xhn, xhm, xtp, xap, xg0, xg1, xg2, xg3, xao, xan, AR, xlc)) : wpX_rankAnchors post (xcp, xcx, xoc, xnc, xbc, xrc, xhd, xhr, xpc, xop, xht, xgc, nI s.1, xol, xnl, xbl, xrl, xpa, xok, xoh, xoi, xhf, xhs, xho, xhp, xhn, xhm, xtp, xap, xg0, xg1, xg2, xg3, xao, xan, xar, xlc) :=
  ⟨_, xa_rank4 hn hb hr K s.1 0 xar (by omega) (fun q hq => absurd hq (Nat.not_lt_zero _))⟩
end XAN
