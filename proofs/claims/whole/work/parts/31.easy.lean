/-! the constructors, clear, addLine, length, line, matchOf, scriptLength, scriptKind, diff -/
theorem pd_clamp (x l h : Int32) (lo hi : Nat) (hl : l = nI lo) (hh : h = nI hi) (h1 : lo ≤ hi) (h2 : hi < 2 ^ 31) : ∃ c, lo ≤ c ∧ c ≤ hi ∧ (∀ post : Int32 → Prop, post (nI c) → wpX_clamp post x l h) ∧ (∀ A : Int32 → Prop, A (nI c) → ((l ≤ x → ((x ≤ h → A x) ∧ (¬ x ≤ h → A h))) ∧ (¬ l ≤ x → A l))) := by
  subst hl hh
  by_cases c1 : nI lo ≤ x
  · have c0 : ¬ x < 0 := by
      have := nI_pos' (n := lo) (by omega)
      exact Int32.not_lt.mpr (Int32.le_trans this c1)
    obtain ⟨j, hj, rfl⟩ := nI_of c0
    rw [nI_leI (by omega) hj] at c1
    by_cases c2 : nI j ≤ nI hi
    · have c3 := (nI_leI hj (by omega)).mp c2
      exact ⟨j, c1, c3, fun post k => br_t (nI_le c1 hj) (br_t c2 k), fun A k => br_t (nI_le c1 hj) (br_t c2 k)⟩
    · exact ⟨hi, h1, Nat.le_refl _, fun post k => br_t (nI_le c1 hj) (br_f c2 k), fun A k => br_t (nI_le c1 hj) (br_f c2 k)⟩
  · exact ⟨lo, Nat.le_refl _, h1, fun post k => br_f c1 k, fun A k => br_f c1 k⟩
theorem i_vc0 (k0 : Int32) (k1 : Int32) : wpX_init (fun u => wpY_init (fun v => i_Rel 2 u v) k0 k1) k0 k1 := by
  obtain ⟨c, c1, c2, cX, cY⟩ := pd_clamp k0 1 32 1 32 rfl rfl (by decide) (by decide)
  obtain ⟨C, d1, d2, dX, dY⟩ := pd_clamp k1 0 3 0 3 rfl rfl (by decide) (by decide)
  unfold wpX_init
  refine cX _ (dX _ ?_)
  unfold wpY_init
  refine cY (fun w => wY_init_195 _ k1 w _ _ _ _ _ _ _ _ _ _ _ _ _ _ _ _ _ _ _ _ _ _ _ _ _ _ _ _ _ _ _ _) ?_
  unfold wY_init_195
  exact dY (fun w => i_Rel 2 _ (nI c, w, _)) (pd_mk (c := c) (C := C) (n := 0) (m := 0) (z := 0) (L := 0) ⟨c1, c2, d2, Nat.zero_le _, Nat.zero_le _, Nat.zero_le _, Or.inl rfl, Or.inl rfl⟩ (fun h => absurd rfl h) (fun h => absurd rfl h))
theorem i_vc_clear {k : Nat} {u : SX} {v : SY} (I : i_Rel k u v) (hk : k + 3 ≤ 1538) : wpX_clear (fun u' => wpY_clear (fun v' => i_Rel (k + 3) u' v') v) u := by
  refine pd_cases (P := fun u v => wpX_clear (fun u' => wpY_clear (fun v' => i_Rel (k + 3) u' v') v) u) I ?_
  intro xrc xhd xhr xpc xop xht xgc xac xol xnl xbl xrl xpa xok xoh xoi xhf xhs xho xhp xhn xhm xtp xap xg0 xg1 xg2 xg3 xao xan xar xlc yrl ysl ysp yna yrs ytm yat yta yma ys0 ys1 ys2 ys3 yai yaj yal yci ycj yt c C n m z L hB hD hR
  unfold wpX_clear
  dsimp only
  unfold wpY_clear
  dsimp only
  exact pd_mk (c := c) (C := C) (n := 0) (m := 0) (z := 0) (L := 0) ⟨hB.1, hB.2.1, hB.2.2.1, Nat.zero_le _, Nat.zero_le _, Nat.zero_le _, Or.inl rfl, Or.inl rfl⟩ (fun h => absurd rfl h) (fun h => absurd rfl h)
theorem i_vc_length {k : Nat} {u : SX} {v : SY} (I : i_Rel k u v) (hk : k + 3 ≤ 1538) (v1 : Int32) : wpX_length (fun r => wpY_length (fun r' => r' = r ∧ i_Rel (k + 3) u v) v v1) u v1 := by
  have J : i_Rel (k + 3) u v := I
  refine pd_cases (P := fun u' v' => wpX_length (fun r => wpY_length (fun r' => r' = r ∧ i_Rel (k + 3) u v) v' v1) u' v1) I ?_
  intro xrc xhd xhr xpc xop xht xgc xac xol xnl xbl xrl xpa xok xoh xoi xhf xhs xho xhp xhn xhm xtp xap xg0 xg1 xg2 xg3 xao xan xar xlc yrl ysl ysp yna yrs ytm yat yta yma ys0 ys1 ys2 ys3 yai yaj yal yci ycj yt c C n m z L hB hD hR
  refine br_c (fun h => br_t h ⟨rfl, J⟩) (fun h => br_c (fun h1 => br_f h (br_t h1 ⟨rfl, J⟩)) (fun h1 => br_c (fun h2 => br_f h (br_f h1 (br_t h2 ⟨rfl, J⟩))) (fun h2 => br_c (fun h3 => br_c (fun h4 => br_f h (br_f h1 (br_f h2 (br_t h3 (br_t h4 ⟨rfl, J⟩))))) (fun h4 => ?_)) (fun h3 => br_f h (br_f h1 (br_f h2 (br_f h3 ⟨rfl, J⟩)))))))
  obtain ⟨_, r, r1, r2, r3, r4, r5⟩ := hR h4
  exact br_f h (br_f h1 (br_f h2 (br_t h3 (br_f h4 ⟨by rw [r2, r3], J⟩))))
theorem i_vc_line {k : Nat} {u : SX} {v : SY} (I : i_Rel k u v) (hk : k + 3 ≤ 1538) (v1 : Int32) (v2 : Int32) : wpX_line (fun r => wpY_line (fun r' => r' = r ∧ i_Rel (k + 3) u v) v v1 v2) u v1 v2 := by
  have J : i_Rel (k + 3) u v := I
  refine pd_cases (P := fun u' v' => wpX_line (fun r => wpY_line (fun r' => r' = r ∧ i_Rel (k + 3) u v) v' v1 v2) u' v1 v2) I ?_
  intro xrc xhd xhr xpc xop xht xgc xac xol xnl xbl xrl xpa xok xoh xoi xhf xhs xho xhp xhn xhm xtp xap xg0 xg1 xg2 xg3 xao xan xar xlc yrl ysl ysp yna yrs ytm yat yta yma ys0 ys1 ys2 ys3 yai yaj yal yci ycj yt c C n m z L hB hD hR
  obtain ⟨b1, b2, b3, b4, b5, b6, b7, b8⟩ := hB
  have n0 : ∀ x : Int32, x < 0 → ¬ 0 ≤ x := fun x hx => Int32.not_le.mpr hx
  unfold wpX_line
  dsimp only
  by_cases hv : v2 < 0
  · have Yv : wpY_line (fun r' => r' = (0 : Int32) ∧ i_Rel (k + 3) u v) (nI c, nI C, nI n, nI m, nI z, yrl, ysl, ysp, yna, xhd, xhr, xol, xnl, xbl, yrs, ytm, yat, yta, yma, xok, xoh, xoi, ys0, ys1, ys2, ys3, yai, yaj, yal, yci, ycj, yt) v1 v2 := br_f (n0 _ hv) ⟨rfl, J⟩
    exact br_c (fun h => br_t hv Yv) (fun h => br_c (fun h1 => br_t hv Yv) (fun h1 => br_c (fun h2 => br_t hv Yv) (fun h2 => br_c (fun h3 => br_c (fun h4 => br_t hv Yv) (fun h4 => br_t hv Yv)) (fun h3 => br_t hv Yv))))
  · obtain ⟨i, hi, rfl⟩ := nI_of hv
    have h0 : (0 : Int32) ≤ nI i := nI_pos' hi
    have d10 : ¬ (1 : Int32) = 0 := by decide
    have d20 : ¬ (2 : Int32) = 0 := by decide
    have d21 : ¬ (2 : Int32) = 1 := by decide
    have d30 : ¬ (3 : Int32) = 0 := by decide
    have d31 : ¬ (3 : Int32) = 1 := by decide
    have d32 : ¬ (3 : Int32) = 2 := by decide
    have d01 : ¬ (0 : Int32) = 1 := by decide
    have d02 : ¬ (0 : Int32) = 2 := by decide
    have d03 : ¬ (0 : Int32) = 3 := by decide
    have d12 : ¬ (1 : Int32) = 2 := by decide
    have d13 : ¬ (1 : Int32) = 3 := by decide
    have d23 : ¬ (2 : Int32) = 3 := by decide
    refine br_c (fun h => br_f hv (pk_lt i n (fun c1 => br_t h (And.intro (vp_in_nI (by omega) (by decide)) ?_)) (fun c1 => ?_))) (fun h => br_c (fun h1 => br_f hv (pk_lt i m (fun c1 => br_f h (br_t h1 (And.intro (vp_in_nI (by omega) (by decide)) ?_))) (fun c1 => ?_))) (fun h1 => br_c (fun h2 => br_f hv (pk_lt i z (fun c1 => br_f h (br_f h1 (br_t h2 (And.intro (vp_in_nI (by omega) (by decide)) ?_)))) (fun c1 => ?_))) (fun h2 => br_c (fun h3 => br_c (fun h4 => br_f hv (br_f ?_ ?_)) (fun h4 => br_f hv ?_)) (fun h3 => br_f hv (br_f ?_ ?_)))))
    · subst h
      exact br_t h0 (br_t rfl (br_f (nI_ge c1 (by omega)) (And.intro (vp_in_nI (by omega) (by decide)) ⟨rfl, J⟩)))
    · subst h
      exact br_t h0 (br_t rfl (br_t (nI_le c1 hi) (br_f d01 (br_f d02 (br_f d03 ⟨rfl, J⟩)))))
    · subst h1
      exact br_t h0 (br_f d10 (br_t rfl (br_f (nI_ge c1 (by omega)) (And.intro (vp_in_nI (by omega) (by decide)) ⟨rfl, J⟩))))
    · subst h1
      exact br_t h0 (br_f d10 (br_t rfl (br_t (nI_le c1 hi) (br_f d12 (br_f d13 ⟨rfl, J⟩)))))
    · subst h2
      exact br_t h0 (br_f d20 (br_f d21 (br_t rfl (br_f (nI_ge c1 (by omega)) (And.intro (vp_in_nI (by omega) (by decide)) ⟨rfl, J⟩)))))
    · subst h2
      exact br_t h0 (br_f d20 (br_f d21 (br_t rfl (br_t (nI_le c1 hi) (br_f d23 ⟨rfl, J⟩)))))
    · exact fun w => hv (Int32.lt_trans w pd_m1lt)
    · exact br_t h0 (br_f h (br_f h1 (br_f h2 (br_t h3 (br_t h4 ⟨rfl, J⟩)))))
    · obtain ⟨_, r, r1, r2, r3, r4, r5⟩ := hR h4
      subst r2 r3
      refine pk_lt i r (fun c1 => br_f h (br_f h1 (br_f h2 (And.intro (vp_in_nI (by omega) (by decide)) ?_)))) (fun c1 => ?_)
      · exact br_t h0 (br_f h (br_f h1 (br_f h2 (br_t h3 (br_f h4 (br_f (nI_ge c1 (by omega)) (And.intro (vp_in_nI (by omega) (by decide)) ⟨by rw [nI_clamp hi, r4 i c1], J⟩)))))))
      · exact br_t h0 (br_f h (br_f h1 (br_f h2 (br_t h3 (br_f h4 (br_t (nI_le c1 hi) ⟨rfl, J⟩))))))
    · exact fun w => hv (Int32.lt_trans w pd_m1lt)
    · exact br_t h0 (br_f h (br_f h1 (br_f h2 (br_f h3 ⟨rfl, J⟩))))
theorem i_vc_matchOf {k : Nat} {u : SX} {v : SY} (I : i_Rel k u v) (hk : k + 3 ≤ 1538) (v1 : Int32) : wpX_matchOf (fun r => wpY_matchOf (fun r' => r' = r ∧ i_Rel (k + 3) u v) v v1) u v1 := by
  have J : i_Rel (k + 3) u v := I
  refine pd_cases (P := fun u' v' => wpX_matchOf (fun r => wpY_matchOf (fun r' => r' = r ∧ i_Rel (k + 3) u v) v' v1) u' v1) I ?_
  intro xrc xhd xhr xpc xop xht xgc xac xol xnl xbl xrl xpa xok xoh xoi xhf xhs xho xhp xhn xhm xtp xap xg0 xg1 xg2 xg3 xao xan xar xlc yrl ysl ysp yna yrs ytm yat yta yma ys0 ys1 ys2 ys3 yai yaj yal yci ycj yt c C n m z L hB hD hR
  obtain ⟨b1, b2, b3, b4, b5, b6, b7, b8⟩ := hB
  refine br_c (fun h => br_t h ⟨rfl, J⟩) (fun h => br_c (fun h1 => br_f h (br_t h1 ⟨rfl, J⟩)) (fun h1 => ?_))
  obtain ⟨i, hi, rfl⟩ := nI_of h1
  obtain ⟨e1, e2, e3, _⟩ := hD h
  exact pk_lt i n (fun c1 => And.intro (vp_in_nI (by omega) (by decide)) (br_f h (br_f h1 (br_t (nI_lt c1 (by omega)) (And.intro (vp_in_nI (by omega) (by decide)) ⟨by rw [nI_clamp hi, e3 i c1], J⟩))))) (fun c1 => br_f h (br_f h1 (br_f (nI_nlt c1 hi) ⟨rfl, J⟩)))
theorem i_vc_scriptLength {k : Nat} {u : SX} {v : SY} (I : i_Rel k u v) (hk : k + 3 ≤ 1538) : wpX_scriptLength (fun r => wpY_scriptLength (fun r' => r' = r ∧ i_Rel (k + 3) u v) v) u := by
  have J : i_Rel (k + 3) u v := I
  refine pd_cases (P := fun u' v' => wpX_scriptLength (fun r => wpY_scriptLength (fun r' => r' = r ∧ i_Rel (k + 3) u v) v') u') I ?_
  intro xrc xhd xhr xpc xop xht xgc xac xol xnl xbl xrl xpa xok xoh xoi xhf xhs xho xhp xhn xhm xtp xap xg0 xg1 xg2 xg3 xao xan xar xlc yrl ysl ysp yna yrs ytm yat yta yma ys0 ys1 ys2 ys3 yai yaj yal yci ycj yt c C n m z L hB hD hR
  exact br_c (fun h => br_t h ⟨rfl, J⟩) (fun h => br_f h ⟨by rw [(hD h).1, (hD h).2.1], J⟩)
theorem i_vc_scriptKind {k : Nat} {u : SX} {v : SY} (I : i_Rel k u v) (hk : k + 3 ≤ 1538) (v1 : Int32) : wpX_scriptKind (fun r => wpY_scriptKind (fun r' => r' = r ∧ i_Rel (k + 3) u v) v v1) u v1 := by
  have J : i_Rel (k + 3) u v := I
  refine pd_cases (P := fun u' v' => wpX_scriptKind (fun r => wpY_scriptKind (fun r' => r' = r ∧ i_Rel (k + 3) u v) v' v1) u' v1) I ?_
  intro xrc xhd xhr xpc xop xht xgc xac xol xnl xbl xrl xpa xok xoh xoi xhf xhs xho xhp xhn xhm xtp xap xg0 xg1 xg2 xg3 xao xan xar xlc yrl ysl ysp yna yrs ytm yat yta yma ys0 ys1 ys2 ys3 yai yaj yal yci ycj yt c C n m z L hB hD hR
  obtain ⟨b1, b2, b3, b4, b5, b6, b7, b8⟩ := hB
  refine br_c (fun h => br_t h ⟨rfl, J⟩) (fun h => br_c (fun h1 => br_f h (br_t h1 ⟨rfl, J⟩)) (fun h1 => ?_))
  obtain ⟨i, hi, rfl⟩ := nI_of h1
  obtain ⟨e1, e2, e3, e4, _⟩ := hD h
  subst e1 e2
  have hL := e4.2.2.1
  exact pk_lt i L (fun c1 => And.intro (vp_in_nI (by omega) (by decide)) (br_f h (br_f h1 (br_t (nI_lt c1 (by omega)) (And.intro (vp_in_nI (by omega) (by decide)) ⟨rfl, J⟩))))) (fun c1 => br_f h (br_f h1 (br_f (nI_nlt c1 hi) ⟨rfl, J⟩)))
theorem i_vc_diff {k : Nat} {u : SX} {v : SY} (I : i_Rel k u v) (hk : k + 3 ≤ 1538) : wpX_diff (fun r u' => wpY_diff (fun r' v' => r' = r ∧ i_Rel (k + 3) u' v') v) u := by
  refine pd_cases (P := fun u v => wpX_diff (fun r u' => wpY_diff (fun r' v' => r' = r ∧ i_Rel (k + 3) u' v') v) u) I ?_
  intro xrc xhd xhr xpc xop xht xgc xac xol xnl xbl xrl xpa xok xoh xoi xhf xhs xho xhp xhn xhm xtp xap xg0 xg1 xg2 xg3 xao xan xar xlc yrl ysl ysp yna yrs ytm yat yta yma ys0 ys1 ys2 ys3 yai yaj yal yci ycj yt c C n m z L hB hD hR
  obtain ⟨b1, b2, b3, b4, b5, b6, b7, b8⟩ := hB
  refine xa_diff (n := n) (m := m) (C := C) (by omega) (by omega) b3 (fun M I F S O P B Q G0 G1 G2 G3 AO AN AR T ac gc q1 q2 q3 q4 => ?_)
  refine ya_diff (n := n) (m := m) (C := C) (by omega) (by omega) b3 (fun M' I' G0' G1' G2' G3' na' AO' AN' AR' CI' CJ' T' sp' p1 p2 p3 => ?_)
  have eM : ∀ x, x < n → M x = M' x := fun x hx => by rw [q1 x hx, p1 x hx]
  have eI : I = I' := by
    funext q
    by_cases cq : q < (pd_S xol xnl n m xok xoh).1
    · exact pd_tf_u (q2 q cq) (p2 q cq)
    · rw [q3 q (by omega), p3 q (by omega)]
  subst eI
  refine ⟨by rw [pd_cm_c n eM], pd_mk (c := c) (C := C) (n := n) (m := m) (z := z) (L := (pd_S xol xnl n m xok xoh).1) ⟨b1, b2, b3, b4, b5, b6, Or.inr rfl, Or.inl rfl⟩ (fun _ => ⟨rfl, rfl, eM, pd_S_ok, rfl, q4⟩) (fun h => absurd rfl h)⟩
theorem i_vc_addLine {k : Nat} {u : SX} {v : SY} (I : i_Rel k u v) (hk : k + 3 ≤ 1538) (v1 : Int32) (v2 : Int32) : wpX_addLine (fun r u' => wpY_addLine (fun r' v' => r' = r ∧ i_Rel (k + 3) u' v') v v1 v2) u v1 v2 := by
  refine pd_cases (P := fun u v => wpX_addLine (fun r u' => wpY_addLine (fun r' v' => r' = r ∧ i_Rel (k + 3) u' v') v v1 v2) u v1 v2) I ?_
  intro xrc xhd xhr xpc xop xht xgc xac xol xnl xbl xrl xpa xok xoh xoi xhf xhs xho xhp xhn xhm xtp xap xg0 xg1 xg2 xg3 xao xan xar xlc yrl ysl ysp yna yrs ytm yat yta yma ys0 ys1 ys2 ys3 yai yaj yal yci ycj yt c C n m z L hB hD hR
  have hB' := hB
  obtain ⟨b1, b2, b3, b4, b5, b6, b7, b8⟩ := hB
  have J := pd_mk (k := k + 3) (xrc := xrc) (xpc := xpc) (xgc := xgc) (xac := xac) (xtp := xtp) (xg0 := xg0) (xg1 := xg1) (xg2 := xg2) (xg3 := xg3) (xao := xao) (xan := xan) (xar := xar) (xlc := xlc) (xbl := xbl) (ysp := ysp) (yna := yna) (ytm := ytm) (yta := yta) (ys0 := ys0) (ys1 := ys1) (ys2 := ys2) (ys3 := ys3) (yai := yai) (yaj := yaj) (yal := yal) (yci := yci) (ycj := ycj) (yt := yt) hB' hD hR
  have d10 : ¬ (1 : Int32) = 0 := by decide
  have d20 : ¬ (2 : Int32) = 0 := by decide
  have d21 : ¬ (2 : Int32) = 1 := by decide
  have d01 : ¬ (0 : Int32) = 1 := by decide
  have d02 : ¬ (0 : Int32) = 2 := by decide
  have d12 : ¬ (1 : Int32) = 2 := by decide
  refine br_c (fun h => br_t h ⟨rfl, J⟩) (fun h => br_c (fun h1 => ?_) (fun h1 => br_f h (br_f h1 ⟨rfl, J⟩)))
  have l0 : (0 : Int32) ≤ 2 := by decide
  have l1 : (1 : Int32) ≤ 2 := by decide
  have l2 : (2 : Int32) ≤ 2 := by decide
  refine br_c (fun h0 => pk_lt n c (fun c1 => br_t h0 (And.intro (vp_in_nI (by omega) (by decide)) (nm_r (e' := upd xol n v2) (by rw [nI_clamp (by omega)]) (nm_r (nI_1 n) ?_)))) (fun c1 => ?_)) (fun h0 => br_c (fun h2 => pk_lt m c (fun c1 => br_f h0 (br_t h2 (And.intro (vp_in_nI (by omega) (by decide)) (nm_r (e' := upd xnl m v2) (by rw [nI_clamp (by omega)]) (nm_r (nI_1 m) ?_))))) (fun c1 => ?_)) (fun h2 => br_c (fun h3 => pk_lt z c (fun c1 => br_f h0 (br_f h2 (And.intro (vp_in_nI (by omega) (by decide)) (nm_r (e' := upd xbl z v2) (by rw [nI_clamp (by omega)]) (nm_r (nI_1 z) ?_))))) (fun c1 => ?_)) (fun h3 => ?_)))
  · subst h0
    refine br_f h (br_t l0 (br_t rfl (br_t (nI_lt c1 (by omega)) (br_t rfl (And.intro (vp_in_nI (by omega) (by decide)) (nm_r (e' := upd xol n v2) (by rw [nI_clamp (by omega)]) (nm_r (nI_1 n) (br_f d01 (br_f d02 ⟨rfl, ?_⟩)))))))))
    exact pd_mk (c := c) (C := C) (n := n + 1) (m := m) (z := z) (L := 0) ⟨b1, b2, b3, by omega, b5, b6, Or.inl rfl, Or.inl rfl⟩ (fun w => absurd rfl w) (fun w => absurd rfl w)
  · subst h0
    exact br_f h (br_t l0 (br_t rfl (br_f (nI_nlt c1 (by omega)) ⟨rfl, J⟩)))
  · subst h2
    refine br_f h (br_t l1 (br_f d10 (br_t rfl (br_t (nI_lt c1 (by omega)) (br_f d10 (br_t rfl (And.intro (vp_in_nI (by omega) (by decide)) (nm_r (e' := upd xnl m v2) (by rw [nI_clamp (by omega)]) (nm_r (nI_1 m) (br_f d12 ⟨rfl, ?_⟩))))))))))
    exact pd_mk (c := c) (C := C) (n := n) (m := m + 1) (z := z) (L := 0) ⟨b1, b2, b3, b4, by omega, b6, Or.inl rfl, Or.inl rfl⟩ (fun w => absurd rfl w) (fun w => absurd rfl w)
  · subst h2
    exact br_f h (br_t l1 (br_f d10 (br_t rfl (br_f (nI_nlt c1 (by omega)) ⟨rfl, J⟩))))
  · subst h3
    refine br_f h (br_t l2 (br_f d20 (br_f d21 (br_t (nI_lt c1 (by omega)) (br_f d20 (br_f d21 (br_t rfl (And.intro (vp_in_nI (by omega) (by decide)) (nm_r (e' := upd xbl z v2) (by rw [nI_clamp (by omega)]) (nm_r (nI_1 z) ⟨rfl, ?_⟩)))))))))) 
    exact pd_mk (c := c) (C := C) (n := n) (m := m) (z := z + 1) (L := L) ⟨b1, b2, b3, b4, b5, by omega, b7, Or.inl rfl⟩ hD (fun w => absurd rfl w)
  · subst h3
    exact br_f h (br_t l2 (br_f d20 (br_f d21 (br_f (nI_nlt c1 (by omega)) ⟨rfl, J⟩))))
  · exfalso
    obtain ⟨j, hj, e⟩ := nI_of2 (M := 2) (n := 2) (by decide) h h1
    subst e
    rcases (by omega : j = 0 ∨ j = 1 ∨ j = 2) with e | e | e
    · subst e; exact h0 rfl
    · subst e; exact h2 rfl
    · subst e; exact h3 rfl
