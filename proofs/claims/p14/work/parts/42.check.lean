/-! the law's checks -/
section LAW
variable {xcp xcx xoc xnc xbc xrc xhd xhr xpc xop xht xgc xac : Int32} {xol xnl xbl xrl xpa xok xoh xoi xhf xhs xho xhp xhn xhm xtp xap xg0 xg1 xg2 xg3 xao xan xar xlc : Nat → Int32}
variable {post : Int32 → Prop} {Lq : Nat} {xs : Nat → Int32} {J46 : Int32 → Int32 → Int32 → Int32 → Int32 → Int32 → Int32 → Int32 → Int32 → Int32 → Int32 → Int32 → Int32 → Int32 → Int32 → Int32 → (Nat → Int32) → (Nat → Int32) → (Nat → Int32) → (Nat → Int32) → (Nat → Int32) → (Nat → Int32) → (Nat → Int32) → (Nat → Int32) → (Nat → Int32) → (Nat → Int32) → (Nat → Int32) → (Nat → Int32) → (Nat → Int32) → (Nat → Int32) → (Nat → Int32) → (Nat → Int32) → (Nat → Int32) → (Nat → Int32) → (Nat → Int32) → (Nat → Int32) → (Nat → Int32) → (Nat → Int32) → (Nat → Int32) → (Nat → Int32) → Prop} {t kc ks : Nat} {x2 x4 x6 : Int32} {c C n m z L : Nat}
/-- the result's lines against B's -/
theorem la_443 {k : Int32} (hm : m ≤ 32) (hr : ¬ xhr = 0) (hR : ∀ q, q < m → xrl q = xnl q) (K : J46 x2 k (nI (t + 1)) xcp xcx xoc (nI m) xbc (nI m) xhd xhr xpc xop xht xgc xac xol xnl xbl xrl xpa xok xoh xoi xhf xhs xho xhp xhn xhm xtp xap xg0 xg1 xg2 xg3 xao xan xar xlc) :
    ∀ d j, j + d = m → wL_law_443 post Lq xs J46 x2 k x4 (nI t) (nI m) kc ks xcp xcx xoc (nI m) xbc (nI m) xhd xhr xpc xop xht xgc xac xol xnl xbl xrl xpa xok xoh xoi xhf xhs xho xhp xhn xhm xtp xap xg0 xg1 xg2 xg3 xao xan xar xlc (d + 1) (nI j) := by
  intro d
  induction d with
  | zero =>
    intro j hj
    have ej : j = m := by omega
    subst ej
    exact br_t (nI_le (Nat.le_refl _) (by omega)) (nm_r (nI_1 t) K)
  | succ d ih =>
    intro j hj
    exact br_f (nI_ge (by omega) (by omega)) (la_line3 hr (by omega) (by omega) (la_line1 (by omega) hm (br_t (hR j (by omega)) (nm_r (nI_1 j) (ih (j + 1) (by omega))))))
theorem la_402n {k : Int32} (K : J46 x2 k (nI (t + 1)) xcp xcx xoc xnc xbc xrc xhd xhr xpc xop xht xgc xac xol xnl xbl xrl xpa xok xoh xoi xhf xhs xho xhp xhn xhm xtp xap xg0 xg1 xg2 xg3 xao xan xar xlc) {x11 : Int32} : wL_law_402 post Lq xs J46 x2 k x4 (nI t) x6 x11 0 kc ks xcp xcx xoc xnc xbc xrc xhd xhr xpc xop xht xgc xac xol xnl xbl xrl xpa xok xoh xoi xhf xhs xho xhp xhn xhm xtp xap xg0 xg1 xg2 xg3 xao xan xar xlc := br_t rfl (nm_r (nI_1 t) K)
/-- base is A: apply gives B -/
theorem la_402y {k : Int32} (hB : pd_BX c C n m n) (hd : ¬ xhd = 0) (hD : pd_DX n m L xop xht xpa xol xnl xok xoh xoi xhf xhs xho xhp xhn xhm) (hv : ¬ x2 = 0 → ¬ xhd = 0 ∧ k = nI (pd_cm xpa n)) (hb : ∀ x, x < n → xbl x = xol x) (hJ : ∀ (v k : Int32), ∀ (xcp xcx xoc xnc xbc xrc xhd xhr xpc xop xht xgc xac : Int32) (xol xnl xbl xrl xpa xok xoh xoi xhf xhs xho xhp xhn xhm xtp xap xg0 xg1 xg2 xg3 xao xan xar xlc : Nat → Int32), pd_OK v k (xcp, xcx, xoc, xnc, xbc, xrc, xhd, xhr, xpc, xop, xht, xgc, xac, xol, xnl, xbl, xrl, xpa, xok, xoh, xoi, xhf, xhs, xho, xhp, xhn, xhm, xtp, xap, xg0, xg1, xg2, xg3, xao, xan, xar, xlc) → J46 v k (nI (t + 1)) xcp xcx xoc xnc xbc xrc xhd xhr xpc xop xht xgc xac xol xnl xbl xrl xpa xok xoh xoi xhf xhs xho xhp xhn xhm xtp xap xg0 xg1 xg2 xg3 xao xan xar xlc) :
    wL_law_402 post Lq xs J46 x2 k x4 (nI t) x6 (nI m) 1 kc ks (nI c) (nI C) (nI n) (nI m) (nI n) xrc xhd xhr xpc xop xht xgc xac xol xnl xbl xrl xpa xok xoh xoi xhf xhs xho xhp xhn xhm xtp xap xg0 xg1 xg2 xg3 xao xan xar xlc := by
  obtain ⟨b1, b2, b3, b4, b5, b6⟩ := hB
  have hD' := hD
  obtain ⟨e1, e2, e3, e4, e5, e6, e7⟩ := hD
  subst e1 e4
  obtain ⟨r, _, hr, cX⟩ := la_clamp (x6 >>> ((4 : Int32) &&& 31)) 0 8 0 8 rfl rfl (by decide) (by decide)
  have hL := e3.2.2.1
  have hHL := pd_hc_le (N := xoi) L
  have hx : ∀ x, ∃ p : Nat × Nat, x < pd_hc xoi L → (pd_HK xoi L x p.1 p.2 ∧ xho x = nI (pd_cs 2 xok p.1) ∧ xhp x = nI (pd_cs 2 xok p.2 - pd_cs 2 xok p.1) ∧ xhn x = nI (pd_cs 1 xok p.1) ∧ xhm x = nI (pd_cs 1 xok p.2 - pd_cs 1 xok p.1)) := fun x => by
    by_cases cx : x < pd_hc xoi L
    · obtain ⟨s, e, hK, g1, g2, g3, g4, g5, g6⟩ := e5.1 x cx
      exact ⟨(s, e), fun _ => ⟨hK, g3, g4, g5, g6⟩⟩
    · exact ⟨(0, 0), fun w => absurd w cx⟩
  obtain ⟨f, hf⟩ := Classical.skolem.mp hx
  have hA : pd_hx xok xoi L (pd_hc xoi L) (fun x => pd_cs 2 xok (f x).1) (fun x => pd_cs 2 xok (f x).2 - pd_cs 2 xok (f x).1) (fun x => pd_cs 1 xok (f x).1) (fun x => pd_cs 1 xok (f x).2 - pd_cs 1 xok (f x).1) (fun x => (f x).1) (fun x => (f x).2) := fun x hx => ⟨(hf x hx).1, rfl, rfl, rfl, rfl⟩
  have hG : pd_geo (pd_hc xoi L) n m (fun x => pd_cs 2 xok (f x).1) (fun x => pd_cs 2 xok (f x).2 - pd_cs 2 xok (f x).1) (fun x => pd_cs 1 xok (f x).1) (fun x => pd_cs 1 xok (f x).2 - pd_cs 1 xok (f x).1) := by
    refine ⟨fun x hx => ?_, fun x hx => ?_⟩
    · obtain ⟨hK, _⟩ := hf x hx
      have m1 := pd_cs_m (s := 2) (K := xok) (f x).2 (f x).1 (by have := hK.1; omega)
      have m2 := pd_cs_m (s := 1) (K := xok) (f x).2 (f x).1 (by have := hK.1; omega)
      have m3 := pd_cs_m (s := 2) (K := xok) L (f x).2 hK.2.1
      have m4 := pd_cs_m (s := 1) (K := xok) L (f x).2 hK.2.1
      have m5 := e3.1
      have m6 := e3.2.1
      dsimp only
      omega
    · obtain ⟨hK, _⟩ := hf x (by omega)
      have ho : (f x).2 ≤ (f (x + 1)).1 := (pd_eP_le rfl hA (h := x + 1) hx).1
      have m1 := pd_cs_m (s := 2) (K := xok) (f x).2 (f x).1 (by have := hK.1; omega)
      have m2 := pd_cs_m (s := 1) (K := xok) (f x).2 (f x).1 (by have := hK.1; omega)
      have m3 := pd_cs_m (s := 2) (K := xok) (f (x + 1)).1 (f x).2 ho
      have m4 := pd_cs_m (s := 1) (K := xok) (f (x + 1)).1 (f x).2 ho
      dsimp only
      omega
  generalize eaS : (fun x => pd_cs 2 xok (f x).1) = aS at *
  generalize eaL : (fun x => pd_cs 2 xok (f x).2 - pd_cs 2 xok (f x).1) = aL at *
  generalize ebS : (fun x => pd_cs 1 xok (f x).1) = bS at *
  generalize ebL : (fun x => pd_cs 1 xok (f x).2 - pd_cs 1 xok (f x).1) = bL at *
  have h1 : ∀ x, x < pd_hc xoi L → xho x = nI (aS x) := fun x hx => by rw [(hf x hx).2.1, ← eaS]
  have h2 : ∀ x, x < pd_hc xoi L → xhp x = nI (aL x) := fun x hx => by rw [(hf x hx).2.2.1, ← eaL]
  have h3 : ∀ x, x < pd_hc xoi L → xhn x = nI (bS x) := fun x hx => by rw [(hf x hx).2.2.2.1, ← ebS]
  have h4 : ∀ x, x < pd_hc xoi L → xhm x = nI (bL x) := fun x hx => by rw [(hf x hx).2.2.2.2, ← ebL]
  refine br_f (by decide) (xa_apply (n := n) (m := m) (z := n) (r := r) (H := pd_hc xoi L) (aS := aS) (aL := aL) (bS := bS) (bL := bL) (by omega) (by omega) (by omega) (by omega) hr hd cX hG h2 h1 h3 h4 (fun x T q1 q2 q3 => ?_) (fun A T q1 q2 => ?_))
  · obtain ⟨p, e, _⟩ := pd_psA (r := r) rfl hA e3 hb (x + 1) q1
    rw [q3] at e
    exact nomatch e
  · dsimp only
    obtain ⟨r1, r2⟩ := pd_resA (r := r) (R := xrl) rfl hA e3 hb e6
    rw [r1]
    refine la_hcnt hd (br_t rfl (la_len3 (by decide) (br_t rfl ⟨_, la_443 (by omega) (by decide) r2 ?_ m 0 (by omega)⟩)))
    exact hJ _ _ _ _ _ _ _ _ _ _ _ _ _ _ _ _ _ _ _ _ _ _ _ _ _ _ _ _ _ _ _ _ _ _ _ _ _ _ _ (pd_okm (L := L) ⟨b1, b2, b3, b4, b5, b6⟩ (fun _ => hD') hv)
/-- is base A? -/
theorem la_364 {k : Int32} (hB : pd_BX c C n m z) (hd : ¬ xhd = 0) (hD : pd_DX n m L xop xht xpa xol xnl xok xoh xoi xhf xhs xho xhp xhn xhm) (hv : ¬ x2 = 0 → ¬ xhd = 0 ∧ k = nI (pd_cm xpa n)) (hJ : ∀ (v k : Int32), ∀ (xcp xcx xoc xnc xbc xrc xhd xhr xpc xop xht xgc xac : Int32) (xol xnl xbl xrl xpa xok xoh xoi xhf xhs xho xhp xhn xhm xtp xap xg0 xg1 xg2 xg3 xao xan xar xlc : Nat → Int32), pd_OK v k (xcp, xcx, xoc, xnc, xbc, xrc, xhd, xhr, xpc, xop, xht, xgc, xac, xol, xnl, xbl, xrl, xpa, xok, xoh, xoi, xhf, xhs, xho, xhp, xhn, xhm, xtp, xap, xg0, xg1, xg2, xg3, xao, xan, xar, xlc) → J46 v k (nI (t + 1)) xcp xcx xoc xnc xbc xrc xhd xhr xpc xop xht xgc xac xol xnl xbl xrl xpa xok xoh xoi xhf xhs xho xhp xhn xhm xtp xap xg0 xg1 xg2 xg3 xao xan xar xlc) :
    (∀ d i, wL_law_364 post Lq xs J46 x2 k x4 (nI t) x6 (nI n) (nI m) kc ks (nI c) (nI C) (nI n) (nI m) (nI z) xrc xhd xhr xpc xop xht xgc xac xol xnl xbl xrl xpa xok xoh xoi xhf xhs xho xhp xhn xhm xtp xap xg0 xg1 xg2 xg3 xao xan xar xlc (d + 1) 0 (nI i)) ∧
    (z = n → ∀ d i, i + d = n → (∀ x, x < i → xbl x = xol x) → wL_law_364 post Lq xs J46 x2 k x4 (nI t) x6 (nI n) (nI m) kc ks (nI c) (nI C) (nI n) (nI m) (nI z) xrc xhd xhr xpc xop xht xgc xac xol xnl xbl xrl xpa xok xoh xoi xhf xhs xho xhp xhn xhm xtp xap xg0 xg1 xg2 xg3 xao xan xar xlc (d + 1) 1 (nI i)) := by
  have J0 := hJ x2 k (nI c) (nI C) (nI n) (nI m) (nI z) xrc xhd xhr xpc xop xht xgc xac xol xnl xbl xrl xpa xok xoh xoi xhf xhs xho xhp xhn xhm xtp xap xg0 xg1 xg2 xg3 xao xan xar xlc (pd_okm (L := L) hB (fun _ => hD) hv)
  have N0 : ∀ d i, wL_law_364 post Lq xs J46 x2 k x4 (nI t) x6 (nI n) (nI m) kc ks (nI c) (nI C) (nI n) (nI m) (nI z) xrc xhd xhr xpc xop xht xgc xac xol xnl xbl xrl xpa xok xoh xoi xhf xhs xho xhp xhn xhm xtp xap xg0 xg1 xg2 xg3 xao xan xar xlc (d + 1) 0 (nI i) := fun d i => br_c (fun _ => la_402n J0) (fun _ => br_t rfl (la_402n J0))
  refine ⟨N0, fun ez d => ?_⟩
  subst ez
  have hB' := hB
  obtain ⟨b1, b2, b3, b4, b5, b6⟩ := hB
  induction d with
  | zero =>
    intro i hi hx
    have ei : i = z := by omega
    subst ei
    exact br_t (nI_le (Nat.le_refl _) (by omega)) (la_402y (c := c) (C := C) (n := i) (m := m) (L := L) hB' hd hD hv hx hJ)
  | succ d ih =>
    intro i hi hx
    refine br_f (nI_ge (by omega) (by omega)) (br_f (by decide) (la_line2 (by omega) (by omega) (la_line0 (by omega) (by omega) (br_c (fun e => nm_r (nI_1 i) (ih (i + 1) (by omega) (fun x hx2 => ?_))) (fun e => nm_r (nI_1 i) (N0 d (i + 1)))))))
    by_cases ex : x = i
    · rw [ex]; exact e
    · exact hx x (by omega)
/-- the pairs -/
theorem la_259 (hB : pd_BX c C n m z) (hd : ¬ xhd = 0) (hD : pd_DX n m L xop xht xpa xol xnl xok xoh xoi xhf xhs xho xhp xhn xhm) (hJ : ∀ (v k : Int32), ∀ (xcp xcx xoc xnc xbc xrc xhd xhr xpc xop xht xgc xac : Int32) (xol xnl xbl xrl xpa xok xoh xoi xhf xhs xho xhp xhn xhm xtp xap xg0 xg1 xg2 xg3 xao xan xar xlc : Nat → Int32), pd_OK v k (xcp, xcx, xoc, xnc, xbc, xrc, xhd, xhr, xpc, xop, xht, xgc, xac, xol, xnl, xbl, xrl, xpa, xok, xoh, xoi, xhf, xhs, xho, xhp, xhn, xhm, xtp, xap, xg0, xg1, xg2, xg3, xao, xan, xar, xlc) → J46 v k (nI (t + 1)) xcp xcx xoc xnc xbc xrc xhd xhr xpc xop xht xgc xac xol xnl xbl xrl xpa xok xoh xoi xhf xhs xho xhp xhn xhm xtp xap xg0 xg1 xg2 xg3 xao xan xar xlc) :
    ∀ d i x13, i + d = n → (x13 = -1 ∨ ∃ i' j', i' < i ∧ pd_V0 xol xnl n m i' = some j' ∧ x13 = nI j') → wL_law_259 post Lq xs J46 x2 (nI (pd_cm xpa n)) x4 (nI t) x6 (nI n) (nI m) kc ks (nI c) (nI C) (nI n) (nI m) (nI z) xrc xhd xhr xpc xop xht xgc xac xol xnl xbl xrl xpa xok xoh xoi xhf xhs xho xhp xhn xhm xtp xap xg0 xg1 xg2 xg3 xao xan xar xlc (d + 1) (nI (pd_cm xpa i)) x13 (nI i) := by
  have hB' := hB
  have hD' := hD
  obtain ⟨b1, b2, b3, b4, b5, b6⟩ := hB
  obtain ⟨e1, e2, e3, e4, e5, e6, e7⟩ := hD
  have hV := pd_V0_ok (a := xol) (b := xnl) (n := n) (m := m)
  intro d
  induction d with
  | zero =>
    intro i x13 hi hx
    have ei : i = n := by omega
    subst ei
    obtain ⟨N0, Y0⟩ := la_364 (post := post) (Lq := Lq) (xs := xs) (J46 := J46) (t := t) (kc := kc) (ks := ks) (x2 := x2) (x4 := x4) (x6 := x6) (c := c) (C := C) (n := i) (m := m) (z := z) (L := L) (k := nI (pd_cm xpa i)) (xrc := xrc) (xhd := xhd) (xhr := xhr) (xpc := xpc) (xop := xop) (xht := xht) (xgc := xgc) (xac := xac) (xol := xol) (xnl := xnl) (xbl := xbl) (xrl := xrl) (xpa := xpa) (xok := xok) (xoh := xoh) (xoi := xoi) (xhf := xhf) (xhs := xhs) (xho := xho) (xhp := xhp) (xhn := xhn) (xhm := xhm) (xtp := xtp) (xap := xap) (xg0 := xg0) (xg1 := xg1) (xg2 := xg2) (xg3 := xg3) (xao := xao) (xan := xan) (xar := xar) (xlc := xlc) hB' hd hD' (fun _ => ⟨hd, rfl⟩) hJ
    refine br_t (nI_le (Nat.le_refl _) (by omega)) (br_t rfl (la_slen hd (br_t ?_ (la_len2 (pk_eq z i (fun ez => ⟨_, Y0 ez i 0 (by omega) (fun x hx => absurd hx (Nat.not_lt_zero _))⟩) (fun _ => ⟨_, N0 0 0⟩))))))
    rw [e1, nI_add, pk_sub (by omega)]
    exact congrArg nI (by omega)
  | succ d ih =>
    intro i x13 hi hx
    have ecm := pd_cm_s xpa i
    have eM := e2 i (by omega)
    refine br_f (nI_ge (by omega) (by omega)) (la_match hd (by omega) (by omega) ?_)
    rw [eM]
    cases hv : pd_V0 xol xnl n m i with
    | none =>
      rw [eM, hv, if_pos (show pd_e none = -1 from rfl)] at ecm
      have ecm2 : pd_cm xpa (i + 1) = pd_cm xpa i := by omega
      refine br_t (by decide) (nm_r (nI_1 i) ?_)
      rw [← ecm2]
      refine ih (i + 1) x13 (by omega) ?_
      rcases hx with w | ⟨i', j', w1, w2, w3⟩
      · exact Or.inl w
      · exact Or.inr ⟨i', j', by omega, w2, w3⟩
    | some j =>
      have hj := hV.1 i j (by omega) (by omega) hv
      rw [eM, hv, if_neg (show ¬ pd_e (some j) = -1 from pd_ne1 (by omega))] at ecm
      refine br_f (nI_pos (by omega)) (la_line0 (by omega) (by omega) (la_line1 hj.2.1 (by omega) (br_t hj.2.2 (br_t ?_ (nm_r (nI_1 _) (nm_r (nI_1 i) ?_))))))
      · rcases hx with w | ⟨i', j', w1, w2, w3⟩
        · rw [w]
          exact Int32.lt_of_lt_of_le pd_m1lt (nI_pos' (by omega))
        · rw [w3]
          exact nI_lt (hV.2 i' i j' j (by omega) w1 (by omega) w2 hv) (by omega)
      · rw [← ecm]
        exact ih (i + 1) _ (by omega) (Or.inr ⟨i, j, by omega, hv, rfl⟩)
theorem la_231c (hB : pd_BX c C n m z) (hd : ¬ xhd = 0) (hD : pd_DX n m L xop xht xpa xol xnl xok xoh xoi xhf xhs xho xhp xhn xhm) (hJ : ∀ (v k : Int32), ∀ (xcp xcx xoc xnc xbc xrc xhd xhr xpc xop xht xgc xac : Int32) (xol xnl xbl xrl xpa xok xoh xoi xhf xhs xho xhp xhn xhm xtp xap xg0 xg1 xg2 xg3 xao xan xar xlc : Nat → Int32), pd_OK v k (xcp, xcx, xoc, xnc, xbc, xrc, xhd, xhr, xpc, xop, xht, xgc, xac, xol, xnl, xbl, xrl, xpa, xok, xoh, xoi, xhf, xhs, xho, xhp, xhn, xhm, xtp, xap, xg0, xg1, xg2, xg3, xao, xan, xar, xlc) → J46 v k (nI (t + 1)) xcp xcx xoc xnc xbc xrc xhd xhr xpc xop xht xgc xac xol xnl xbl xrl xpa xok xoh xoi xhf xhs xho xhp xhn xhm xtp xap xg0 xg1 xg2 xg3 xao xan xar xlc) :
    wL_law_231 post Lq xs J46 x2 (nI (pd_cm xpa n)) x4 (nI t) x6 1 kc ks (nI c) (nI C) (nI n) (nI m) (nI z) xrc xhd xhr xpc xop xht xgc xac xol xnl xbl xrl xpa xok xoh xoi xhf xhs xho xhp xhn xhm xtp xap xg0 xg1 xg2 xg3 xao xan xar xlc :=
  br_f (by decide) (la_len0 (la_len1 ⟨_, la_259 hB hd hD hJ n 0 (-1) (by omega) (Or.inl rfl)⟩))
theorem la_231n {k : Int32} {v : Int32} (hO : pd_OK v k (xcp, xcx, xoc, xnc, xbc, xrc, xhd, xhr, xpc, xop, xht, xgc, xac, xol, xnl, xbl, xrl, xpa, xok, xoh, xoi, xhf, xhs, xho, xhp, xhn, xhm, xtp, xap, xg0, xg1, xg2, xg3, xao, xan, xar, xlc)) (hJ : ∀ (v k : Int32), ∀ (xcp xcx xoc xnc xbc xrc xhd xhr xpc xop xht xgc xac : Int32) (xol xnl xbl xrl xpa xok xoh xoi xhf xhs xho xhp xhn xhm xtp xap xg0 xg1 xg2 xg3 xao xan xar xlc : Nat → Int32), pd_OK v k (xcp, xcx, xoc, xnc, xbc, xrc, xhd, xhr, xpc, xop, xht, xgc, xac, xol, xnl, xbl, xrl, xpa, xok, xoh, xoi, xhf, xhs, xho, xhp, xhn, xhm, xtp, xap, xg0, xg1, xg2, xg3, xao, xan, xar, xlc) → J46 v k (nI (t + 1)) xcp xcx xoc xnc xbc xrc xhd xhr xpc xop xht xgc xac xol xnl xbl xrl xpa xok xoh xoi xhf xhs xho xhp xhn xhm xtp xap xg0 xg1 xg2 xg3 xao xan xar xlc) : wL_law_231 post Lq xs J46 v k x4 (nI t) x6 0 kc ks xcp xcx xoc xnc xbc xrc xhd xhr xpc xop xht xgc xac xol xnl xbl xrl xpa xok xoh xoi xhf xhs xho xhp xhn xhm xtp xap xg0 xg1 xg2 xg3 xao xan xar xlc :=
  br_t rfl (nm_r (nI_1 t) (hJ v k xcp xcx xoc xnc xbc xrc xhd xhr xpc xop xht xgc xac xol xnl xbl xrl xpa xok xoh xoi xhf xhs xho xhp xhn xhm xtp xap xg0 xg1 xg2 xg3 xao xan xar xlc hO))
theorem la_221 (hB : pd_BX c C n m z) (hJ : ∀ (v k : Int32), ∀ (xcp xcx xoc xnc xbc xrc xhd xhr xpc xop xht xgc xac : Int32) (xol xnl xbl xrl xpa xok xoh xoi xhf xhs xho xhp xhn xhm xtp xap xg0 xg1 xg2 xg3 xao xan xar xlc : Nat → Int32), pd_OK v k (xcp, xcx, xoc, xnc, xbc, xrc, xhd, xhr, xpc, xop, xht, xgc, xac, xol, xnl, xbl, xrl, xpa, xok, xoh, xoi, xhf, xhs, xho, xhp, xhn, xhm, xtp, xap, xg0, xg1, xg2, xg3, xao, xan, xar, xlc) → J46 v k (nI (t + 1)) xcp xcx xoc xnc xbc xrc xhd xhr xpc xop xht xgc xac xol xnl xbl xrl xpa xok xoh xoi xhf xhs xho xhp xhn xhm xtp xap xg0 xg1 xg2 xg3 xao xan xar xlc) : wL_law_221 post Lq xs J46 x4 (nI t) x6 kc ks (nI c) (nI C) (nI n) (nI m) (nI z) xrc xhd xhr xpc xop xht xgc xac xol xnl xbl xrl xpa xok xoh xoi xhf xhs xho xhp xhn xhm xtp xap xg0 xg1 xg2 xg3 xao xan xar xlc := by
  have hB' := hB
  obtain ⟨b1, b2, b3, b4, b5, b6⟩ := hB
  unfold wL_law_221
  refine xa_diff (n := n) (m := m) (C := C) (by omega) (by omega) b3 (fun M I F S O P B Q G0 G1 G2 G3 AO AN AR T ac gc q1 q2 q3 q4 => ?_)
  dsimp only
  have hlen := pd_S_len (a := xol) (b := xnl) (K := xok) (H := xoh) (n := n) (m := m)
  have hV := pd_V0_ok (a := xol) (b := xnl) (n := n) (m := m)
  rw [← pd_nv_cm n q1 (fun x y hx hy => by have := (hV.1 x y (Nat.zero_le _) hx hy).2.1; omega)] at hlen
  refine la_231c (L := (pd_S xol xnl n m xok xoh).1) hB' (by decide) ⟨rfl, q1, pd_S_ok, rfl, q4, fun q hq hI => ?_, hlen⟩ hJ
  by_cases c0 : (pd_S xol xnl n m xok xoh).2.1 q = 0
  · exact c0
  · have := (q2 q hq).1 (Or.inl c0)
    rw [hI] at this
    exact absurd this (by decide)
end LAW
