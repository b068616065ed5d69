/-! hunkLineKind, hunkLineHash -/
section HLN
variable {xcp xcx xoc xnc xbc xrc xhd xhr xpc xop xht xgc xac : Int32} {xol xnl xbl xrl xpa xok xoh xoi xhf xhs xho xhp xhn xhm xtp xap xg0 xg1 xg2 xg3 xao xan xar xlc : Nat → Int32}
variable {ycp ycx yn ym yz yrl ysl ysp yna yhd yhr : Int32} {ya yb ybs yrs ytm yat yta yma yki yha yin ys0 ys1 ys2 ys3 yai yaj yal yci ycj yt : Nat → Int32}
variable {n m L : Nat}
theorem pd_opc (hn : n ≤ 32) (hm : m ≤ 32) (hD : ¬ xhd = 0 → pd_DF n m L xop ysl xht xpa yma xol xnl xok xoh xoi xhf xhs xho xhp xhn xhm) (v1 v2 : Int32) :
    ((∀ post : Int32 → Prop, post (-1) → wpX_opOfHunkLine post (xcp, xcx, xoc, xnc, xbc, xrc, xhd, xhr, xpc, xop, xht, xgc, xac, xol, xnl, xbl, xrl, xpa, xok, xoh, xoi, xhf, xhs, xho, xhp, xhn, xhm, xtp, xap, xg0, xg1, xg2, xg3, xao, xan, xar, xlc) v1 v2) ∧ (∀ post : Int32 → Prop, post (-1) → wpY_hunkLineKind post (ycp, ycx, yn, ym, yz, yrl, ysl, ysp, yna, xhd, yhr, xol, xnl, ybs, yrs, ytm, yat, yta, yma, xok, xoh, xoi, ys0, ys1, ys2, ys3, yai, yaj, yal, yci, ycj, yt) v1 v2)) ∨
    (∃ q s : Nat, q < 64 ∧ (xok q = 0 ∨ xok q = 1 ∨ xok q = 2) ∧ nI s + v2 = nI q ∧ (∀ post : Int32 → Prop, post (nI q) → wpX_opOfHunkLine post (xcp, xcx, xoc, xnc, xbc, xrc, xhd, xhr, xpc, xop, xht, xgc, xac, xol, xnl, xbl, xrl, xpa, xok, xoh, xoi, xhf, xhs, xho, xhp, xhn, xhm, xtp, xap, xg0, xg1, xg2, xg3, xao, xan, xar, xlc) v1 v2) ∧ (∀ post : Int32 → Prop, post (xok q) → wpY_hunkLineKind post (ycp, ycx, yn, ym, yz, yrl, ysl, ysp, yna, xhd, yhr, xol, xnl, ybs, yrs, ytm, yat, yta, yma, xok, xoh, xoi, ys0, ys1, ys2, ys3, yai, yaj, yal, yci, ycj, yt) v1 v2) ∧ (∀ post : Int32 → Prop, post (nI s) → wpY_hunkStart post (ycp, ycx, yn, ym, yz, yrl, ysl, ysp, yna, xhd, yhr, xol, xnl, ybs, yrs, ytm, yat, yta, yma, xok, xoh, xoi, ys0, ys1, ys2, ys3, yai, yaj, yal, yci, ycj, yt) v1)) := by
  by_cases h : xhd = 0
  · refine Or.inl ⟨fun post K => ?_, fun post K => br_t h K⟩
    unfold wpX_opOfHunkLine
    dsimp only
    exact br_t h (br_t rfl K)
  · obtain ⟨e1, e2, e3, e4, e5, e6⟩ := hD h
    subst e1 e2 e5
    have hL := e4.2.2.1
    have hL64 : L ≤ 64 := by omega
    have hcl := pd_hc_le (N := xoi) L
    by_cases h1 : v1 < 0
    · refine Or.inl ⟨fun post K => ?_, fun post K => br_f h (ya_hunkStart_no hL64 (Or.inl h1) (br_f (by decide) K))⟩
      unfold wpX_opOfHunkLine
      dsimp only
      exact br_f h (br_t h1 (br_t rfl K))
    · by_cases h2 : nI (pd_hc xoi L) ≤ v1
      · refine Or.inl ⟨fun post K => ?_, fun post K => br_f h (ya_hunkStart_no hL64 (Or.inr h2) (br_f (by decide) K))⟩
        unfold wpX_opOfHunkLine
        dsimp only
        exact br_f h (br_f h1 (br_t h2 (br_t rfl K)))
      · obtain ⟨x, hx, rfl⟩ := nI_of h1
        have hxh : x < pd_hc xoi L := by
          have : ¬ pd_hc xoi L ≤ x := fun w => h2 (nI_le w hx)
          omega
        have vx : vp_in (nI x) 64 := vp_in_nI (by omega) (by decide)
        have zx : (nI x).toNatClampNeg = x := nI_clamp hx
        obtain ⟨s, e, hK, g1, g2, g3, g4, g5, g6⟩ := e6.1 x hxh
        have hse := hK.1
        have heL := hK.2.1
        by_cases h3 : v2 < 0
        · refine Or.inl ⟨fun post K => ?_, fun post K => br_f h (ya_hunkStart hL64 hK (br_t (nI_pos' (by omega)) (ya_hunkSize hL64 hK (br_t h3 K))))⟩
          unfold wpX_opOfHunkLine
          dsimp only
          exact br_f h (br_f h1 (br_f h2 (br_f (by decide) (br_t h3 K))))
        · obtain ⟨y, hy, rfl⟩ := nI_of h3
          have fx : xhs (nI x).toNatClampNeg = nI (e - s) := by rw [zx, g2]
          by_cases h4 : y < e - s
          · refine Or.inr ⟨s + y, s, by omega, (e4.2.2.2 (s + y) (by omega)).1, nI_add s y, fun post K => ?_, fun post K => br_f h (ya_hunkStart hL64 hK (br_t (nI_pos' (by omega)) (ya_hunkSize hL64 hK (br_f h3 (br_t (nI_lt h4 (by omega)) (And.intro (by rw [nI_add]; exact vp_in_nI (by omega) (by decide)) (by rw [nI_add, nI_clamp (by omega)]; exact K))))))), fun post K => ya_hunkStart hL64 hK K⟩
            unfold wpX_opOfHunkLine
            dsimp only
            exact br_f h (br_f h1 (br_f h2 (br_f (by decide) (br_f h3 (And.intro vx (br_t (by rw [fx]; exact nI_lt h4 (by omega)) (And.intro vx (by rw [zx, g1, nI_add]; exact K))))))))
          · refine Or.inl ⟨fun post K => ?_, fun post K => br_f h (ya_hunkStart hL64 hK (br_t (nI_pos' (by omega)) (ya_hunkSize hL64 hK (br_f h3 (br_f (nI_nlt (by omega) hy) K)))))⟩
            unfold wpX_opOfHunkLine
            dsimp only
            exact br_f h (br_f h1 (br_f h2 (br_f (by decide) (br_f h3 (And.intro vx (br_f (by rw [fx]; exact nI_nlt (by omega) hy) K))))))
end HLN
theorem i_vc_hunkLineKind {k : Nat} {u : SX} {v : SY} (I : i_Rel k u v) (hk : k + 3 ≤ 1538) (v1 : Int32) (v2 : Int32) : wpX_hunkLineKind (fun r => wpY_hunkLineKind (fun r' => r' = r ∧ i_Rel (k + 3) u v) v v1 v2) u v1 v2 := by
  have J : i_Rel (k + 3) u v := I
  refine pd_cases (P := fun u' v' => wpX_hunkLineKind (fun r => wpY_hunkLineKind (fun r' => r' = r ∧ i_Rel (k + 3) u v) v' v1 v2) u' v1 v2) I ?_
  intro xrc xhd xhr xpc xop xht xgc xac xol xnl xbl xrl xpa xok xoh xoi xhf xhs xho xhp xhn xhm xtp xap xg0 xg1 xg2 xg3 xao xan xar xlc yrl ysl ysp yna yrs ytm yat yta yma ys0 ys1 ys2 ys3 yai yaj yal yci ycj yt c C n m z L hB hD hR
  obtain ⟨b1, b2, b3, b4, b5, b6, b7, b8⟩ := hB
  unfold wpX_hunkLineKind
  dsimp only
  rcases pd_opc (n := n) (m := m) (L := L) (xcp := nI c) (xcx := nI C) (xoc := nI n) (xnc := nI m) (xbc := nI z) (xrc := xrc) (xhd := xhd) (xhr := xhr) (xpc := xpc) (xop := xop) (xht := xht) (xgc := xgc) (xac := xac) (xol := xol) (xnl := xnl) (xbl := xbl) (xrl := xrl) (xpa := xpa) (xok := xok) (xoh := xoh) (xoi := xoi) (xhf := xhf) (xhs := xhs) (xho := xho) (xhp := xhp) (xhn := xhn) (xhm := xhm) (xtp := xtp) (xap := xap) (xg0 := xg0) (xg1 := xg1) (xg2 := xg2) (xg3 := xg3) (xao := xao) (xan := xan) (xar := xar) (xlc := xlc) (ycp := nI c) (ycx := nI C) (yn := nI n) (ym := nI m) (yz := nI z) (yrl := yrl) (ysl := ysl) (ysp := ysp) (yna := yna) (yhr := xhr) (ybs := xbl) (yrs := yrs) (ytm := ytm) (yat := yat) (yta := yta) (yma := yma) (ys0 := ys0) (ys1 := ys1) (ys2 := ys2) (ys3 := ys3) (yai := yai) (yaj := yaj) (yal := yal) (yci := yci) (ycj := ycj) (yt := yt) (by omega) (by omega) hD v1 v2 with ⟨h1, h2⟩ | ⟨q, s, hq, hkk, _, h1, h2, _⟩
  · exact h1 _ (br_t rfl (h2 _ ⟨rfl, J⟩))
  · refine h1 _ (br_f (pd_ne1 (by omega)) (And.intro (vp_in_nI hq (by decide)) ?_))
    rw [nI_clamp (by omega)]
    exact h2 _ ⟨rfl, J⟩
theorem i_vc_hunkLineHash {k : Nat} {u : SX} {v : SY} (I : i_Rel k u v) (hk : k + 3 ≤ 1538) (v1 : Int32) (v2 : Int32) : wpX_hunkLineHash (fun r => wpY_hunkLineHash (fun r' => r' = r ∧ i_Rel (k + 3) u v) v v1 v2) u v1 v2 := by
  have J : i_Rel (k + 3) u v := I
  refine pd_cases (P := fun u' v' => wpX_hunkLineHash (fun r => wpY_hunkLineHash (fun r' => r' = r ∧ i_Rel (k + 3) u v) v' v1 v2) u' v1 v2) I ?_
  intro xrc xhd xhr xpc xop xht xgc xac xol xnl xbl xrl xpa xok xoh xoi xhf xhs xho xhp xhn xhm xtp xap xg0 xg1 xg2 xg3 xao xan xar xlc yrl ysl ysp yna yrs ytm yat yta yma ys0 ys1 ys2 ys3 yai yaj yal yci ycj yt c C n m z L hB hD hR
  obtain ⟨b1, b2, b3, b4, b5, b6, b7, b8⟩ := hB
  unfold wpX_hunkLineHash
  dsimp only
  rcases pd_opc (n := n) (m := m) (L := L) (xcp := nI c) (xcx := nI C) (xoc := nI n) (xnc := nI m) (xbc := nI z) (xrc := xrc) (xhd := xhd) (xhr := xhr) (xpc := xpc) (xop := xop) (xht := xht) (xgc := xgc) (xac := xac) (xol := xol) (xnl := xnl) (xbl := xbl) (xrl := xrl) (xpa := xpa) (xok := xok) (xoh := xoh) (xoi := xoi) (xhf := xhf) (xhs := xhs) (xho := xho) (xhp := xhp) (xhn := xhn) (xhm := xhm) (xtp := xtp) (xap := xap) (xg0 := xg0) (xg1 := xg1) (xg2 := xg2) (xg3 := xg3) (xao := xao) (xan := xan) (xar := xar) (xlc := xlc) (ycp := nI c) (ycx := nI C) (yn := nI n) (ym := nI m) (yz := nI z) (yrl := yrl) (ysl := ysl) (ysp := ysp) (yna := yna) (yhr := xhr) (ybs := xbl) (yrs := yrs) (ytm := ytm) (yat := yat) (yta := yta) (yma := yma) (ys0 := ys0) (ys1 := ys1) (ys2 := ys2) (ys3 := ys3) (yai := yai) (yaj := yaj) (yal := yal) (yci := yci) (ycj := ycj) (yt := yt) (by omega) (by omega) hD v1 v2 with ⟨h1, h2⟩ | ⟨q, s, hq, hkk, hs, h1, h2, h3⟩
  · refine h1 _ (br_t rfl ?_)
    unfold wpY_hunkLineHash
    dsimp only
    exact h2 _ (br_f (by decide) ⟨rfl, J⟩)
  · refine h1 _ (br_f (pd_ne1 (by omega)) (And.intro (vp_in_nI hq (by decide)) ?_))
    rw [nI_clamp (by omega)]
    unfold wpY_hunkLineHash
    dsimp only
    refine h2 _ (br_t ?_ (h3 _ (And.intro ?_ ⟨?_, J⟩)))
    · rcases hkk with w | w | w <;> rw [w] <;> decide
    · rw [hs]; exact vp_in_nI hq (by decide)
    · rw [hs, nI_clamp (by omega)]
