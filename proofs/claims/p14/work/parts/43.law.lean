/-! a step of the law, its loop, the law -/
section LST
variable {xcp xcx xoc xnc xbc xrc xhd xhr xpc xop xht xgc xac : Int32} {xol xnl xbl xrl xpa xok xoh xoi xhf xhs xho xhp xhn xhm xtp xap xg0 xg1 xg2 xg3 xao xan xar xlc : Nat → Int32}
variable {post : Int32 → Prop} {Lq : Nat} {xs : Nat → Int32} {J46 : Int32 → Int32 → Int32 → Int32 → Int32 → Int32 → Int32 → Int32 → Int32 → Int32 → Int32 → Int32 → Int32 → Int32 → Int32 → Int32 → (Nat → Int32) → (Nat → Int32) → (Nat → Int32) → (Nat → Int32) → (Nat → Int32) → (Nat → Int32) → (Nat → Int32) → (Nat → Int32) → (Nat → Int32) → (Nat → Int32) → (Nat → Int32) → (Nat → Int32) → (Nat → Int32) → (Nat → Int32) → (Nat → Int32) → (Nat → Int32) → (Nat → Int32) → (Nat → Int32) → (Nat → Int32) → (Nat → Int32) → (Nat → Int32) → (Nat → Int32) → (Nat → Int32) → (Nat → Int32) → Prop} {t kc ks : Nat} {x2 x4 x6 : Int32} {c C n m z L : Nat}
theorem la_204 {k x7 : Int32} (hB : pd_BX c C n m z) (hD : ¬ xhd = 0 → pd_DX n m L xop xht xpa xol xnl xok xoh xoi xhf xhs xho xhp xhn xhm) (hv : ¬ x2 = 0 → ¬ xhd = 0 ∧ k = nI (pd_cm xpa n)) (hJ : ∀ (v k : Int32), ∀ (xcp xcx xoc xnc xbc xrc xhd xhr xpc xop xht xgc xac : Int32) (xol xnl xbl xrl xpa xok xoh xoi xhf xhs xho xhp xhn xhm xtp xap xg0 xg1 xg2 xg3 xao xan xar xlc : Nat → Int32), pd_OK v k (xcp, xcx, xoc, xnc, xbc, xrc, xhd, xhr, xpc, xop, xht, xgc, xac, xol, xnl, xbl, xrl, xpa, xok, xoh, xoi, xhf, xhs, xho, xhp, xhn, xhm, xtp, xap, xg0, xg1, xg2, xg3, xao, xan, xar, xlc) → J46 v k (nI (t + 1)) xcp xcx xoc xnc xbc xrc xhd xhr xpc xop xht xgc xac xol xnl xbl xrl xpa xok xoh xoi xhf xhs xho xhp xhn xhm xtp xap xg0 xg1 xg2 xg3 xao xan xar xlc) :
    wL_law_204 post Lq xs J46 x2 k x4 (nI t) x6 x7 kc ks (nI c) (nI C) (nI n) (nI m) (nI z) xrc xhd xhr xpc xop xht xgc xac xol xnl xbl xrl xpa xok xoh xoi xhf xhs xho xhp xhn xhm xtp xap xg0 xg1 xg2 xg3 xao xan xar xlc := by
  refine br_c (fun _ => br_c (fun _ => la_221 hB hJ) (fun h => ?_)) (fun _ => la_221 hB hJ)
  obtain ⟨h1, h2⟩ := hv h
  subst h2
  exact la_231c (L := L) hB h1 (hD h1) hJ
theorem la_71 {k z0 : Int32} (hO : pd_OK x2 k (xcp, xcx, xoc, xnc, xbc, xrc, xhd, xhr, xpc, xop, xht, xgc, xac, xol, xnl, xbl, xrl, xpa, xok, xoh, xoi, xhf, xhs, xho, xhp, xhn, xhm, xtp, xap, xg0, xg1, xg2, xg3, xao, xan, xar, xlc)) (hJ : ∀ (v k : Int32), ∀ (xcp xcx xoc xnc xbc xrc xhd xhr xpc xop xht xgc xac : Int32) (xol xnl xbl xrl xpa xok xoh xoi xhf xhs xho xhp xhn xhm xtp xap xg0 xg1 xg2 xg3 xao xan xar xlc : Nat → Int32), pd_OK v k (xcp, xcx, xoc, xnc, xbc, xrc, xhd, xhr, xpc, xop, xht, xgc, xac, xol, xnl, xbl, xrl, xpa, xok, xoh, xoi, xhf, xhs, xho, xhp, xhn, xhm, xtp, xap, xg0, xg1, xg2, xg3, xao, xan, xar, xlc) → J46 v k (nI (t + 1)) xcp xcx xoc xnc xbc xrc xhd xhr xpc xop xht xgc xac xol xnl xbl xrl xpa xok xoh xoi xhf xhs xho xhp xhn xhm xtp xap xg0 xg1 xg2 xg3 xao xan xar xlc) : wL_law_71 post Lq xs J46 x2 k x4 (nI t) z0 kc ks xcp xcx xoc xnc xbc xrc xhd xhr xpc xop xht xgc xac xol xnl xbl xrl xpa xok xoh xoi xhf xhs xho xhp xhn xhm xtp xap xg0 xg1 xg2 xg3 xao xan xar xlc := by
  obtain ⟨c, C, n, m, z, L, rfl, rfl, rfl, rfl, rfl, hB, hD, hv⟩ := hO
  have hB' := hB
  obtain ⟨b1, b2, b3, b4, b5, b6⟩ := hB
  have le1 : ∀ q : Nat, q < 100 → ¬ nI (q + 1) ≤ 0 := fun q hq => nI_nle (by omega) (by omega)
  have n1 : (-1 : Int32) ≤ 0 := by decide
  have same : pd_OK x2 k (nI c, nI C, nI n, nI m, nI z, xrc, xhd, xhr, xpc, xop, xht, xgc, xac, xol, xnl, xbl, xrl, xpa, xok, xoh, xoi, xhf, xhs, xho, xhp, xhn, xhm, xtp, xap, xg0, xg1, xg2, xg3, xao, xan, xar, xlc) := pd_okm (L := L) hB' hD hv
  have W204 : ∀ x7, wL_law_204 post Lq xs J46 x2 k x4 (nI t) z0 x7 kc ks (nI c) (nI C) (nI n) (nI m) (nI z) xrc xhd xhr xpc xop xht xgc xac xol xnl xbl xrl xpa xok xoh xoi xhf xhs xho xhp xhn xhm xtp xap xg0 xg1 xg2 xg3 xao xan xar xlc := fun x7 => la_204 (L := L) hB' hD hv hJ
  refine nm_e (nm_e (br_c (fun _ => br_c (fun _ => br_c (fun _ => ?_) (fun _ => br_c (fun _ => ?_) (fun _ => br_c (fun _ => br_c (fun _ => ?_) (fun _ => W204 _)) (fun _ => W204 _)))) (fun _ => ?_)) (fun _ => ?_)))
  · refine la_add0 b2 b4 (fun hlt => ?_) ?_
    · dsimp only
      exact br_f (le1 n (by omega)) (la_231n (pd_okm (c := c) (C := C) (n := n + 1) (m := m) (z := z) (L := 0) ⟨b1, b2, b3, hlt, b5, b6⟩ (fun w => absurd rfl w) (fun w => absurd rfl w)) hJ)
    · dsimp only
      exact br_t n1 (la_231n same hJ)
  · refine la_add2 b2 b6 (fun hlt => ?_) ?_
    · dsimp only
      exact la_231n (pd_okm (c := c) (C := C) (n := n) (m := m) (z := z + 1) (L := L) ⟨b1, b2, b3, b4, b5, hlt⟩ hD hv) hJ
    · dsimp only
      exact la_231n same hJ
  · unfold wpX_clear
    dsimp only
    exact la_231n (pd_okm (c := c) (C := C) (n := 0) (m := 0) (z := 0) (L := 0) ⟨b1, b2, b3, Nat.zero_le _, Nat.zero_le _, Nat.zero_le _⟩ (fun w => absurd rfl w) (fun w => absurd rfl w)) hJ
  · refine la_add1 b2 b5 (fun hlt => ?_) ?_
    · dsimp only
      exact br_f (le1 m (by omega)) (la_231n (pd_okm (c := c) (C := C) (n := n) (m := m + 1) (z := z) (L := 0) ⟨b1, b2, b3, b4, hlt, b6⟩ (fun w => absurd rfl w) (fun w => absurd rfl w)) hJ)
    · dsimp only
      exact br_t n1 (la_231n same hJ)
  · refine la_add0 b2 b4 (fun hlt => ?_) ?_
    · dsimp only
      refine br_f (le1 n (by omega)) ?_
      unfold wL_law_110
      refine la_add2 b2 b6 (fun hlt2 => ?_) ?_
      · dsimp only
        exact la_231n (pd_okm (c := c) (C := C) (n := n + 1) (m := m) (z := z + 1) (L := 0) ⟨b1, b2, b3, hlt, b5, hlt2⟩ (fun w => absurd rfl w) (fun w => absurd rfl w)) hJ
      · dsimp only
        exact la_231n (pd_okm (c := c) (C := C) (n := n + 1) (m := m) (z := z) (L := 0) ⟨b1, b2, b3, hlt, b5, b6⟩ (fun w => absurd rfl w) (fun w => absurd rfl w)) hJ
    · dsimp only
      refine br_t n1 ?_
      unfold wL_law_110
      refine la_add2 b2 b6 (fun hlt2 => ?_) ?_
      · dsimp only
        exact la_231n (pd_okm (c := c) (C := C) (n := n) (m := m) (z := z + 1) (L := L) ⟨b1, b2, b3, b4, b5, hlt2⟩ hD hv) hJ
      · dsimp only
        exact la_231n same hJ
end LST
theorem la_46 {post : Int32 → Prop} {Lq e kc ks : Nat} {xs : Nat → Int32} (hL : Lq ≤ 260) (he : e ≤ 260) (K : post 1) : ∀ (d t : Nat) (x2 x3 : Int32) (xcp xcx xoc xnc xbc xrc xhd xhr xpc xop xht xgc xac : Int32) (xol xnl xbl xrl xpa xok xoh xoi xhf xhs xho xhp xhn xhm xtp xap xg0 xg1 xg2 xg3 xao xan xar xlc : Nat → Int32), t + d = e + 1 → pd_OK x2 x3 (xcp, xcx, xoc, xnc, xbc, xrc, xhd, xhr, xpc, xop, xht, xgc, xac, xol, xnl, xbl, xrl, xpa, xok, xoh, xoi, xhf, xhs, xho, xhp, xhn, xhm, xtp, xap, xg0, xg1, xg2, xg3, xao, xan, xar, xlc) → wL_law_46 post Lq xs (nI e) kc ks (d + 1) x2 x3 (nI t) xcp xcx xoc xnc xbc xrc xhd xhr xpc xop xht xgc xac xol xnl xbl xrl xpa xok xoh xoi xhf xhs xho xhp xhn xhm xtp xap xg0 xg1 xg2 xg3 xao xan xar xlc := by
  intro d
  induction d with
  | zero =>
    intro t x2 x3 xcp xcx xoc xnc xbc xrc xhd xhr xpc xop xht xgc xac xol xnl xbl xrl xpa xok xoh xoi xhf xhs xho xhp xhn xhm xtp xap xg0 xg1 xg2 xg3 xao xan xar xlc ht hO
    exact br_t (nI_lt (by omega) (by omega)) K
  | succ d ih =>
    intro t x2 x3 xcp xcx xoc xnc xbc xrc xhd xhr xpc xop xht xgc xac xol xnl xbl xrl xpa xok xoh xoi xhf xhs xho xhp xhn xhm xtp xap xg0 xg1 xg2 xg3 xao xan xar xlc ht hO
    refine br_f (nI_nlt (by omega) (by omega)) (pk_le e t (fun _ => ?_) (fun h => ?_))
    · exact la_71 hO (fun v k xcp xcx xoc xnc xbc xrc xhd xhr xpc xop xht xgc xac xol xnl xbl xrl xpa xok xoh xoi xhf xhs xho xhp xhn xhm xtp xap xg0 xg1 xg2 xg3 xao xan xar xlc hO' => ih (t + 1) v k xcp xcx xoc xnc xbc xrc xhd xhr xpc xop xht xgc xac xol xnl xbl xrl xpa xok xoh xoi xhf xhs xho xhp xhn xhm xtp xap xg0 xg1 xg2 xg3 xao xan xar xlc (by omega) hO')
    · refine pk_le Lq t (fun _ => ?_) (fun h2 => And.intro (vp_in_nI h2 (by omega)) ?_)
      · exact la_71 hO (fun v k xcp xcx xoc xnc xbc xrc xhd xhr xpc xop xht xgc xac xol xnl xbl xrl xpa xok xoh xoi xhf xhs xho xhp xhn xhm xtp xap xg0 xg1 xg2 xg3 xao xan xar xlc hO' => ih (t + 1) v k xcp xcx xoc xnc xbc xrc xhd xhr xpc xop xht xgc xac xol xnl xbl xrl xpa xok xoh xoi xhf xhs xho xhp xhn xhm xtp xap xg0 xg1 xg2 xg3 xao xan xar xlc (by omega) hO')
      · exact la_71 hO (fun v k xcp xcx xoc xnc xbc xrc xhd xhr xpc xop xht xgc xac xol xnl xbl xrl xpa xok xoh xoi xhf xhs xho xhp xhn xhm xtp xap xg0 xg1 xg2 xg3 xao xan xar xlc hO' => ih (t + 1) v k xcp xcx xoc xnc xbc xrc xhd xhr xpc xop xht xgc xac xol xnl xbl xrl xpa xok xoh xoi xhf xhs xho xhp xhn xhm xtp xap xg0 xg1 xg2 xg3 xao xan xar xlc (by omega) hO')
theorem la_cell {post : Int32 → Prop} {Lq t : Nat} {xs : Nat → Int32} (hL : Lq ≤ 260) (ht : t ≤ 260) (K : ∀ r, post r) : wpL_cell post Lq xs () (nI t) :=
  pk_le Lq t (fun _ => K _) (fun h2 => And.intro (vp_in_nI h2 (by omega)) (K _))
theorem i_vc (xs : Nat → Int32) (L : Nat) (hL : L ≤ 260) : wpL_law (fun r => r = 1) L xs := by
  refine la_cell (t := 0) hL (by decide) (fun r2 => la_cell (t := 1) hL (by decide) (fun r3 => ⟨24, 2341, by decide, by decide, ?_⟩))
  obtain ⟨c, c1, c2, cX⟩ := la_clamp (4 + (r2 &&& 31)) 1 32 1 32 rfl rfl (by decide) (by decide)
  obtain ⟨C, d1, d2, dX⟩ := la_clamp (r3 &&& 3) 0 3 0 3 rfl rfl (by decide) (by decide)
  refine And.intro (by decide) (And.intro (by decide) (And.intro (by decide) (And.intro (by decide) (And.intro (by decide) (And.intro (by decide) (And.intro (by decide) (And.intro (by decide) (And.intro (by decide) (And.intro (by decide) (And.intro (by decide) (And.intro (by decide) (And.intro (by decide) (And.intro (by decide) (And.intro (by decide) (And.intro (by decide) (And.intro (by decide) (And.intro (by decide) (And.intro (by decide) (And.intro (by decide) (And.intro (by decide) (And.intro (by decide) (And.intro (by decide) (And.intro (by decide) (And.intro (by decide) (And.intro (by decide) (And.intro (by decide) (And.intro (by decide) (And.intro (by decide) (And.intro (by decide) (And.intro (by decide) (And.intro (by decide) (And.intro (by decide) (And.intro (by decide) (And.intro (by decide) (And.intro (by decide) (And.intro (by decide) (And.intro (by decide) (And.intro (by decide) (And.intro (by decide) (And.intro (by decide) (And.intro (by decide) (And.intro (by decide) (And.intro (by decide) (And.intro (by decide) (And.intro (by decide) (And.intro (by decide) (And.intro (by decide) (cX _ (dX _ ?_)))))))))))))))))))))))))))))))))))))))))))))))))
  dsimp only
  have hO : pd_OK 0 0 (nI c, nI C, 0, 0, 0, 0, 0, 0, 0, 0, 0, 0, 0, (fun _ => 0), (fun _ => 0), (fun _ => 0), (fun _ => 0), (fun _ => 0), (fun _ => 0), (fun _ => 0), (fun _ => 0), (fun _ => 0), (fun _ => 0), (fun _ => 0), (fun _ => 0), (fun _ => 0), (fun _ => 0), (fun _ => 0), (fun _ => 0), (fun _ => 0), (fun _ => 0), (fun _ => 0), (fun _ => 0), (fun _ => 0), (fun _ => 0), (fun _ => 0), (fun _ => 0)) := pd_okm (c := c) (C := C) (n := 0) (m := 0) (z := 0) (L := 0) ⟨c1, c2, d2, Nat.zero_le _, Nat.zero_le _, Nat.zero_le _⟩ (fun w => absurd rfl w) (fun w => absurd rfl w)
  refine pk_le 2 L (fun h => nm_e ⟨_, la_46 (post := fun r => r = 1) hL hL rfl (L - 1) 2 0 0 _ _ _ _ _ _ _ _ _ _ _ _ _ _ _ _ _ _ _ _ _ _ _ _ _ _ _ _ _ _ _ _ _ _ _ _ _ (by omega) hO⟩) (fun h => ⟨_, la_46 (post := fun r => r = 1) (e := 2) hL (by decide) rfl 1 2 0 0 _ _ _ _ _ _ _ _ _ _ _ _ _ _ _ _ _ _ _ _ _ _ _ _ _ _ _ _ _ _ _ _ _ _ _ _ _ (by omega) hO⟩)
