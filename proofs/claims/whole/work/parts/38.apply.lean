/-! apply -/
section YA3
variable {ycp ycx yn ym yz yrl ysl ysp yna yhd yhr : Int32} {ya yb ybs yrs ytm yat yta yma yki yha yin ys0 ys1 ys2 ys3 yai yaj yal yci ycj yt : Nat → Int32}
variable {z r H n m L : Nat} {aS aL bS bL sH eH : Nat → Nat}
theorem ya_apply {post : Int32 → SY → Prop} {p0 : Int32} (hcl : ∀ A : Int32 → Prop, A (nI r) → ((0 ≤ p0 → ((p0 ≤ 8 → A p0) ∧ (¬ p0 ≤ 8 → A 8))) ∧ (¬ 0 ≤ p0 → A 0))) (hd : ¬ yhd = 0) (hH : H = pd_hc yin L) (hL : L ≤ 64) (hz : z ≤ 32) (hn : n ≤ 32) (hm : m ≤ 32) (hr : r ≤ 8) (hG : pd_geo H n m aS aL bS bL)
    (hA : ∀ h, h < H → pd_HK yin L h (sH h) (eH h) ∧ aS h = pd_cs 2 yki (sH h) ∧ aL h = pd_cs 2 yki (eH h) - pd_cs 2 yki (sH h) ∧ bS h = pd_cs 1 yki (sH h) ∧ bL h = pd_cs 1 yki (eH h) - pd_cs 1 yki (sH h))
    (hh : ∀ q, q < L → (¬ yki q = 2 → yha q = ya (pd_cs 2 yki q)) ∧ (¬ yki q = 1 → yha q = yb (pd_cs 1 yki q)))
    (K1 : ∀ h T TA, h < H → (∃ s, pd_ps ybs ya z r aS aL h = some s) → pd_ps ybs ya z r aS aL (h + 1) = none → post ((-2) - nI h) (ycp, ycx, yn, ym, nI z, yrl, nI L, ysp, yna, yhd, yhr, ya, yb, ybs, yrs, T, yat, TA, yma, yki, yha, yin, ys0, ys1, ys2, ys3, yai, yaj, yal, yci, ycj, yt))
    (K2 : ∀ TA T R A, (∃ s, pd_ps ybs ya z r aS aL H = some s) → (∀ q, q < H → TA q = nI (pd_pk (pd_ps ybs ya z r aS aL) q)) → (∀ q, q < 64 → R q = pd_cp (pd_ou ybs yb (pd_ps ybs ya z r aS aL) bS bL ytm H).2 (pd_ou ybs yb (pd_ps ybs ya z r aS aL) bS bL ytm H).1 ybs (pd_cu (pd_ps ybs ya z r aS aL) H) (z - pd_cu (pd_ps ybs ya z r aS aL) H) q) → (∀ q, q < 64 → A q = TA q) →
      post (nI H) (ycp, ycx, yn, ym, nI z, nI ((pd_ou ybs yb (pd_ps ybs ya z r aS aL) bS bL ytm H).1 + (z - pd_cu (pd_ps ybs ya z r aS aL) H)), nI L, ysp, yna, yhd, 1, ya, yb, ybs, R, T, A, TA, yma, yki, yha, yin, ys0, ys1, ys2, ys3, yai, yaj, yal, yci, ycj, yt)) :
    wpY_apply post (ycp, ycx, yn, ym, nI z, yrl, nI L, ysp, yna, yhd, yhr, ya, yb, ybs, yrs, ytm, yat, yta, yma, yki, yha, yin, ys0, ys1, ys2, ys3, yai, yaj, yal, yci, ycj, yt) p0 := by
  refine hcl (fun w => wY_apply_20 post w ycp ycx yn ym (nI z) yrl (nI L) ysp yna yhd yhr ya yb ybs yrs ytm yat yta yma yki yha yin ys0 ys1 ys2 ys3 yai yaj yal yci ycj yt) ?_
  refine br_f hd (ya_countHunks hL ?_)
  have s0 : nI 0 - nI 0 = 0 := Int32.sub_self _
  have W := ya_47 (post := post) (R0 := ytm) (z := z) (r := r) (H := H) (n := n) (m := m) (L := L) (aS := aS) (aL := aL) (bS := bS) (bL := bL) (sH := sH) (eH := eH) (ycp := ycp) (ycx := ycx) (yn := yn) (ym := ym) (yrl := yrl) (ysp := ysp) (yna := yna) (yhd := yhd) (yhr := yhr) (ya := ya) (yb := yb) (ybs := ybs) (yrs := yrs) (yat := yat) (yma := yma) (yki := yki) (yha := yha) (yin := yin) (ys0 := ys0) (ys1 := ys1) (ys2 := ys2) (ys3 := ys3) (yai := yai) (yaj := yaj) (yal := yal) (yci := yci) (ycj := ycj) (yt := yt) hH hL hz hn hm hr hG hA hh K1 (fun TA R A q1 q2 q3 q4 => K2 TA _ R A q1 q2 q3 q4) H 0 (0, 0, 0) yta (by omega) rfl (fun q hq => absurd hq (Nat.not_lt_zero _))
  dsimp only at W
  rw [s0] at W
  subst hH
  exact ⟨_, W⟩
end YA3
theorem pd_HK_o {N : Nat → Int32} {L h s e s' e' : Nat} (H : pd_HK N L h s e) (H' : pd_HK N L (h + 1) s' e') : e ≤ s' := by
  obtain ⟨h1, h2, h3, h4, h5, h6⟩ := H
  obtain ⟨k1, k2, k3, k4, k5, k6⟩ := H'
  by_cases c : e ≤ s'
  · exact c
  · by_cases c2 : s' ≤ s
    · have := pd_hc_m (N := N) s s' c2
      omega
    · rcases k3.2 with w | w
      · omega
      · exact absurd w (h5 (s' - 1) (by omega) (by omega))
theorem i_vc_apply {k : Nat} {u : SX} {v : SY} (I : i_Rel k u v) (hk : k + 3 ≤ 1538) (v1 : Int32) : wpX_apply (fun r u' => wpY_apply (fun r' v' => r' = r ∧ i_Rel (k + 3) u' v') v v1) u v1 := by
  refine pd_cases (P := fun u v => wpX_apply (fun r u' => wpY_apply (fun r' v' => r' = r ∧ i_Rel (k + 3) u' v') v v1) u v1) I ?_
  intro xrc xhd xhr xpc xop xht xgc xac xol xnl xbl xrl xpa xok xoh xoi xhf xhs xho xhp xhn xhm xtp xap xg0 xg1 xg2 xg3 xao xan xar xlc yrl ysl ysp yna yrs ytm yat yta yma ys0 ys1 ys2 ys3 yai yaj yal yci ycj yt c C n m z L hB hD hR
  have hB' := hB
  obtain ⟨b1, b2, b3, b4, b5, b6, b7, b8⟩ := hB
  obtain ⟨r, _, hr, cX, cY⟩ := pd_clamp v1 0 8 0 8 rfl rfl (by decide) (by decide)
  by_cases h : xhd = 0
  · refine br_t h ?_
    refine cY (fun w => wY_apply_20 _ w _ _ _ _ _ _ _ _ _ _ _ _ _ _ _ _ _ _ _ _ _ _ _ _ _ _ _ _ _ _ _ _) ?_
    exact br_t h ⟨rfl, pd_mk (k := k + 3) (L := L) hB' hD hR⟩
  · obtain ⟨e1, e2, e3, e4, e5, e6⟩ := hD h
    subst e1 e2 e5
    have hL := e4.2.2.1
    have hL64 : L ≤ 64 := by omega
    have hHL := pd_hc_le (N := xoi) L
    have hx : ∀ x, ∃ p : Nat × Nat, x < pd_hc xoi L → (pd_HK xoi L x p.1 p.2 ∧ xho x = nI (pd_cs 2 xok p.1) ∧ xhp x = nI (pd_cs 2 xok p.2 - pd_cs 2 xok p.1) ∧ xhn x = nI (pd_cs 1 xok p.1) ∧ xhm x = nI (pd_cs 1 xok p.2 - pd_cs 1 xok p.1)) := fun x => by
      by_cases cx : x < pd_hc xoi L
      · obtain ⟨s, e, hK, g1, g2, g3, g4, g5, g6⟩ := e6.1 x cx
        exact ⟨(s, e), fun _ => ⟨hK, g3, g4, g5, g6⟩⟩
      · exact ⟨(0, 0), fun w => absurd w cx⟩
    obtain ⟨f, hf⟩ := Classical.skolem.mp hx
    have hG : pd_geo (pd_hc xoi L) n m (fun x => pd_cs 2 xok (f x).1) (fun x => pd_cs 2 xok (f x).2 - pd_cs 2 xok (f x).1) (fun x => pd_cs 1 xok (f x).1) (fun x => pd_cs 1 xok (f x).2 - pd_cs 1 xok (f x).1) := by
      refine ⟨fun x hx => ?_, fun x hx => ?_⟩
      · obtain ⟨hK, _⟩ := hf x hx
        have m1 := pd_cs_m (s := 2) (K := xok) (f x).2 (f x).1 (by have := hK.1; omega)
        have m2 := pd_cs_m (s := 1) (K := xok) (f x).2 (f x).1 (by have := hK.1; omega)
        have m3 := pd_cs_m (s := 2) (K := xok) L (f x).2 hK.2.1
        have m4 := pd_cs_m (s := 1) (K := xok) L (f x).2 hK.2.1
        have m5 := e4.1
        have m6 := e4.2.1
        dsimp only
        omega
      · obtain ⟨hK, _⟩ := hf x (by omega)
        obtain ⟨hK', _⟩ := hf (x + 1) hx
        have ho := pd_HK_o hK hK'
        have m1 := pd_cs_m (s := 2) (K := xok) (f x).2 (f x).1 (by have := hK.1; omega)
        have m2 := pd_cs_m (s := 1) (K := xok) (f x).2 (f x).1 (by have := hK.1; omega)
        have m3 := pd_cs_m (s := 2) (K := xok) (f (x + 1)).1 (f x).2 ho
        have m4 := pd_cs_m (s := 1) (K := xok) (f (x + 1)).1 (f x).2 ho
        dsimp only
        omega
    have hA : ∀ x, x < pd_hc xoi L → pd_HK xoi L x ((fun x => (f x).1) x) ((fun x => (f x).2) x) ∧ (fun x => pd_cs 2 xok (f x).1) x = pd_cs 2 xok ((fun x => (f x).1) x) ∧ (fun x => pd_cs 2 xok (f x).2 - pd_cs 2 xok (f x).1) x = pd_cs 2 xok ((fun x => (f x).2) x) - pd_cs 2 xok ((fun x => (f x).1) x) ∧ (fun x => pd_cs 1 xok (f x).1) x = pd_cs 1 xok ((fun x => (f x).1) x) ∧ (fun x => pd_cs 1 xok (f x).2 - pd_cs 1 xok (f x).1) x = pd_cs 1 xok ((fun x => (f x).2) x) - pd_cs 1 xok ((fun x => (f x).1) x) := fun x hx => ⟨(hf x hx).1, rfl, rfl, rfl, rfl⟩
    generalize eaS : (fun x => pd_cs 2 xok (f x).1) = aS at *
    generalize eaL : (fun x => pd_cs 2 xok (f x).2 - pd_cs 2 xok (f x).1) = aL at *
    generalize ebS : (fun x => pd_cs 1 xok (f x).1) = bS at *
    generalize ebL : (fun x => pd_cs 1 xok (f x).2 - pd_cs 1 xok (f x).1) = bL at *
    have h1 : ∀ x, x < pd_hc xoi L → xho x = nI (aS x) := fun x hx => by rw [(hf x hx).2.1, ← eaS]
    have h2 : ∀ x, x < pd_hc xoi L → xhp x = nI (aL x) := fun x hx => by rw [(hf x hx).2.2.1, ← eaL]
    have h3 : ∀ x, x < pd_hc xoi L → xhn x = nI (bS x) := fun x hx => by rw [(hf x hx).2.2.2.1, ← ebS]
    have h4 : ∀ x, x < pd_hc xoi L → xhm x = nI (bL x) := fun x hx => by rw [(hf x hx).2.2.2.2, ← ebL]
    have hh : ∀ q, q < L → (¬ xok q = 2 → xoh q = xol (pd_cs 2 xok q)) ∧ (¬ xok q = 1 → xoh q = xnl (pd_cs 1 xok q)) := fun q hq => (e4.2.2.2 q hq).2
    have never : ∀ x y, pd_ps xbl xol z r aS aL (x + 1) = none → (∃ s, pd_ps xbl xol z r aS aL y = some s) → ¬ x < y := fun x y q1 q2 q3 => by
      obtain ⟨s, q2⟩ := q2
      have := pd_ps_none q1 (y - (x + 1))
      rw [show x + 1 + (y - (x + 1)) = y by omega, q2] at this
      exact nomatch this
    refine xa_apply (n := n) (m := m) (z := z) (r := r) (H := pd_hc xoi L) (aS := aS) (aL := aL) (bS := bS) (bL := bL) (by omega) (by omega) (by omega) (by omega) hr h cX hG h2 h1 h3 h4 (fun x T q1 q2 q3 => ?_) (fun A T q1 q2 => ?_)
    · refine ya_apply (n := n) (m := m) (z := z) (r := r) (L := L) (H := pd_hc xoi L) (aS := aS) (aL := aL) (bS := bS) (bL := bL) (sH := fun x => (f x).1) (eH := fun x => (f x).2) cY h rfl hL64 (by omega) (by omega) (by omega) hr hG hA hh (fun y T' TA' p1 p2 p3 => ?_) (fun TA' T' R' A' p1 p2 p3 p4 => ?_)
      · have n1 := never x y q3 p2
        have n2 := never y x p3 q2
        have exy : y = x := by omega
        subst exy
        exact ⟨rfl, pd_mk (k := k + 3) (c := c) (C := C) (n := n) (m := m) (z := z) (L := L) hB' (fun _ => ⟨rfl, rfl, e3, e4, rfl, e6⟩) hR⟩
      · exact absurd q1 (never x _ q3 p1)
    · refine ya_apply (n := n) (m := m) (z := z) (r := r) (L := L) (H := pd_hc xoi L) (aS := aS) (aL := aL) (bS := bS) (bL := bL) (sH := fun x => (f x).1) (eH := fun x => (f x).2) cY h rfl hL64 (by omega) (by omega) (by omega) hr hG hA hh (fun y T' TA' p1 p2 p3 => ?_) (fun TA' T' R' A' p1 p2 p3 p4 => ?_)
      · exact absurd p1 (never y _ p3 q1)
      · obtain ⟨s, hs⟩ := q1
        have hi := pd_ps_i hG (pd_hc xoi L) s (Nat.le_refl _) hs
        have hb := pd_ou_b (b := xnl) (R := xrl) hG (pd_hc xoi L) s (Nat.le_refl _) hs
        have ec := pd_cu_e hs
        have oe := pd_ou_e (base := xbl) (b := xnl) (ps := pd_ps xbl xol z r aS aL) (bS := bS) (bL := bL) (R := xrl) (T := ytm) (pd_hc xoi L)
        have hle : (pd_ou xbl xnl (pd_ps xbl xol z r aS aL) bS bL xrl (pd_hc xoi L)).1 + (z - pd_cu (pd_ps xbl xol z r aS aL) (pd_hc xoi L)) ≤ 64 := by
          rw [ec]
          omega
        refine ⟨rfl, pd_mk (k := k + 3) (c := c) (C := C) (n := n) (m := m) (z := z) (L := L) ⟨b1, b2, b3, b4, b5, b6, b7, Or.inr rfl⟩ (fun _ => ⟨rfl, rfl, e3, e4, rfl, e6⟩) (fun _ => ⟨h, _, hle, rfl, by rw [oe.1], fun q hq => ?_, fun x hx => ?_⟩)⟩
        · rw [p3 q (by omega), ← oe.1]
          exact pd_cp_e oe.2 _ _ _ q hq
        · rw [q2 x hx, p4 x (by omega), p2 x hx]
