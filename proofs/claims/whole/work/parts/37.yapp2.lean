/-! Y: apply's outer loop, its end; then apply itself -/
section YA2
variable {ycp ycx yn ym yz yrl ysl ysp yna yhd yhr : Int32} {ya yb ybs yrs ytm yat yta yma yki yha yin ys0 ys1 ys2 ys3 yai yaj yal yci ycj yt : Nat → Int32}
variable {z r H n m L : Nat} {aS aL bS bL sH eH : Nat → Nat}
theorem ya_404 {post : Int32 → SY → Prop} {x3 x6 : Int32} (K : ∀ R A, (∀ q, q < 64 → R q = ytm q) → (∀ q, q < 64 → A q = yta q) → post x3 (ycp, ycx, yn, ym, yz, x6, ysl, ysp, yna, yhd, 1, ya, yb, ybs, R, ytm, A, yta, yma, yki, yha, yin, ys0, ys1, ys2, ys3, yai, yaj, yal, yci, ycj, yt)) :
    ∀ d q R A, q + d = 64 → (∀ x, x < q → R x = ytm x) → (∀ x, x < q → A x = yta x) → wY_apply_404 post x3 x6 ycp ycx yn ym yz yrl ysl ysp yna yhd yhr (d + 1) (nI q) ya yb ybs R ytm A yta yma yki yha yin ys0 ys1 ys2 ys3 yai yaj yal yci ycj yt := by
  intro d
  induction d with
  | zero =>
    intro q R A hq h1 h2
    have eq : q = 64 := by omega
    subst eq
    exact br_t (nI_le (b := 64) (Nat.le_refl _) (by decide)) (K R A h1 h2)
  | succ d ih =>
    intro q R A hq h1 h2
    have zq : (nI q).toNatClampNeg = q := nI_clamp (by omega)
    have vq : vp_in (nI q) 64 := vp_in_nI (by omega) (by decide)
    refine br_f (nI_ge (b := 64) (by omega) (by decide)) (And.intro vq (And.intro vq (nm_r (e' := upd R q (ytm q)) (by rw [zq]) (And.intro vq (And.intro vq (nm_r (e' := upd A q (yta q)) (by rw [zq]) (nm_r (nI_1 q) (ih (q + 1) _ _ (by omega) (fun x hx => ?_) (fun x hx => ?_)))))))))
    · by_cases e : x = q
      · subst e; rw [pk_us]
      · rw [pk_un e]; exact h1 x (by omega)
    · by_cases e : x = q
      · subst e; rw [pk_us]
      · rw [pk_un e]; exact h2 x (by omega)
theorem ya_357 {post : Int32 → SY → Prop} {x3 : Int32} {cur o : Nat} {T : Nat → Int32} (hz : z ≤ 32) (hc : cur ≤ z) (ho : o + (z - cur) ≤ 64)
    (K : ∀ R A, (∀ q, q < 64 → R q = pd_cp T o ybs cur (z - cur) q) → (∀ q, q < 64 → A q = yta q) → post x3 (ycp, ycx, yn, ym, nI z, nI (o + (z - cur)), ysl, ysp, yna, yhd, 1, ya, yb, ybs, R, pd_cp T o ybs cur (z - cur), A, yta, yma, yki, yha, yin, ys0, ys1, ys2, ys3, yai, yaj, yal, yci, ycj, yt)) :
    ∀ d q, q + d = z - cur → wY_apply_357 post x3 ycp ycx yn ym (nI z) yrl ysl ysp yna yhd yhr (d + 1) (nI (o + q)) (nI (cur + q)) ya yb ybs yrs (pd_cp T o ybs cur q) yat yta yma yki yha yin ys0 ys1 ys2 ys3 yai yaj yal yci ycj yt := by
  intro d
  induction d with
  | zero =>
    intro q hq
    have eq : q = z - cur := by omega
    subst eq
    exact br_t (nI_le (by omega) (by omega)) ⟨_, ya_404 K 64 0 yrs yat (by omega) (fun x hx => absurd hx (Nat.not_lt_zero _)) (fun x hx => absurd hx (Nat.not_lt_zero _))⟩
  | succ d ih =>
    intro q hq
    have z1 : (nI (cur + q)).toNatClampNeg = cur + q := nI_clamp (by omega)
    have z2 : (nI (o + q)).toNatClampNeg = o + q := nI_clamp (by omega)
    exact br_f (nI_ge (by omega) (by omega)) (br_f (nI_pos (by omega)) (br_f (nI_ge (b := 64) (by omega) (by decide)) (And.intro (vp_in_nI (by omega) (by decide)) (And.intro (vp_in_nI (by omega) (by decide)) (nm_r (e' := pd_cp T o ybs cur (q + 1)) (by rw [z1, z2, pd_cp_s]) (nm_r (nI_1 (o + q)) (nm_r (nI_1 (cur + q)) (ih (q + 1) (by omega)))))))))
theorem ya_47 {post : Int32 → SY → Prop} {R0 : Nat → Int32} (hH : H = pd_hc yin L) (hL : L ≤ 64) (hz : z ≤ 32) (hn : n ≤ 32) (hm : m ≤ 32) (hr : r ≤ 8) (hG : pd_geo H n m aS aL bS bL)
    (hA : ∀ h, h < H → pd_HK yin L h (sH h) (eH h) ∧ aS h = pd_cs 2 yki (sH h) ∧ aL h = pd_cs 2 yki (eH h) - pd_cs 2 yki (sH h) ∧ bS h = pd_cs 1 yki (sH h) ∧ bL h = pd_cs 1 yki (eH h) - pd_cs 1 yki (sH h))
    (hh : ∀ q, q < L → (¬ yki q = 2 → yha q = ya (pd_cs 2 yki q)) ∧ (¬ yki q = 1 → yha q = yb (pd_cs 1 yki q)))
    (K1 : ∀ h T TA, h < H → (∃ s, pd_ps ybs ya z r aS aL h = some s) → pd_ps ybs ya z r aS aL (h + 1) = none → post ((-2) - nI h) (ycp, ycx, yn, ym, nI z, yrl, nI L, ysp, yna, yhd, yhr, ya, yb, ybs, yrs, T, yat, TA, yma, yki, yha, yin, ys0, ys1, ys2, ys3, yai, yaj, yal, yci, ycj, yt))
    (K2 : ∀ TA R A, (∃ s, pd_ps ybs ya z r aS aL H = some s) → (∀ q, q < H → TA q = nI (pd_pk (pd_ps ybs ya z r aS aL) q)) → (∀ q, q < 64 → R q = pd_cp (pd_ou ybs yb (pd_ps ybs ya z r aS aL) bS bL R0 H).2 (pd_ou ybs yb (pd_ps ybs ya z r aS aL) bS bL R0 H).1 ybs (pd_cu (pd_ps ybs ya z r aS aL) H) (z - pd_cu (pd_ps ybs ya z r aS aL) H) q) → (∀ q, q < 64 → A q = TA q) →
      post (nI H) (ycp, ycx, yn, ym, nI z, nI ((pd_ou ybs yb (pd_ps ybs ya z r aS aL) bS bL R0 H).1 + (z - pd_cu (pd_ps ybs ya z r aS aL) H)), nI L, ysp, yna, yhd, 1, ya, yb, ybs, R, pd_cp (pd_ou ybs yb (pd_ps ybs ya z r aS aL) bS bL R0 H).2 (pd_ou ybs yb (pd_ps ybs ya z r aS aL) bS bL R0 H).1 ybs (pd_cu (pd_ps ybs ya z r aS aL) H) (z - pd_cu (pd_ps ybs ya z r aS aL) H), A, TA, yma, yki, yha, yin, ys0, ys1, ys2, ys3, yai, yaj, yal, yci, ycj, yt)) :
    ∀ d h s TA, h + d = H → pd_ps ybs ya z r aS aL h = some s → (∀ q, q < h → TA q = nI (pd_pk (pd_ps ybs ya z r aS aL) q)) →
    wY_apply_47 post (nI r) (nI H) ycp ycx yn ym (nI z) yrl (nI L) ysp yna yhd yhr (d + 1) (nI s.1) (nI s.2.1 - nI s.2.2) (nI (pd_ou ybs yb (pd_ps ybs ya z r aS aL) bS bL R0 h).1) (nI h) ya yb ybs yrs ((pd_ou ybs yb (pd_ps ybs ya z r aS aL) bS bL R0 h).2) yat TA yma yki yha yin ys0 ys1 ys2 ys3 yai yaj yal yci ycj yt := by
  have hHL := pd_hc_le (N := yin) L
  intro d
  induction d with
  | zero =>
    intro h s TA hd hs hT
    have eh : h = H := by omega
    subst eh
    have hi := pd_ps_i hG h s (Nat.le_refl _) hs
    have hb := pd_ou_b (b := yb) (R := R0) hG h s (Nat.le_refl _) hs
    have ec := pd_cu_e hs
    rw [ec] at K2
    refine br_t (nI_le (Nat.le_refl _) (by omega)) ?_
    have W := ya_357 (post := post) (x3 := nI h) (cur := s.1) (o := (pd_ou ybs yb (pd_ps ybs ya z r aS aL) bS bL R0 h).1) (T := (pd_ou ybs yb (pd_ps ybs ya z r aS aL) bS bL R0 h).2) (ycp := ycp) (ycx := ycx) (yn := yn) (ym := ym) (yrl := yrl) (ysl := nI L) (ysp := ysp) (yna := yna) (yhd := yhd) (yhr := yhr) (ya := ya) (yb := yb) (ybs := ybs) (yrs := yrs) (yat := yat) (yta := TA) (yma := yma) (yki := yki) (yha := yha) (yin := yin) (ys0 := ys0) (ys1 := ys1) (ys2 := ys2) (ys3 := ys3) (yai := yai) (yaj := yaj) (yal := yal) (yci := yci) (ycj := ycj) (yt := yt) hz hi.1 (by omega) (fun R A q1 q2 => K2 TA R A ⟨s, hs⟩ hT q1 q2) (z - s.1) 0 (by omega)
    rw [pd_cp_0] at W
    exact ⟨_, W⟩
  | succ d ih =>
    intro h s TA hd hs hT
    have zh : (nI h).toNatClampNeg = h := nI_clamp (by omega)
    have vh : vp_in (nI h) 64 := vp_in_nI (by omega) (by decide)
    have hi := pd_ps_i hG h s (by omega) hs
    have hb := pd_ou_b (b := yb) (R := R0) hG h s (by omega) hs
    have ec := pd_cu_e hs
    have hg := hG.1 h (by omega)
    have hsl := hi.2.2.1 (by omega)
    obtain ⟨hK, a1, a2, a3, a4⟩ := hA h (by omega)
    have hse := hK.1
    have heL := hK.2.1
    have es : nI (sH h) + nI (eH h - sH h) = nI (eH h) := by rw [nI_add]; exact congrArg nI (by omega)
    refine br_f (nI_ge (by omega) (by omega)) (br_f (nI_ge (b := 64) (by omega) (by decide)) (ya_hunkStart hL hK (ya_hunkSize hL hK (ya_countOps0 (by omega) ?_))))
    rw [es]
    refine ya_countOps (by omega) (by omega) (nm_r (e' := nI (aS h - s.2.2 + s.2.1)) (by rw [← a1]; exact pd_shift hsl.1) ⟨_, ya_116s hr (by omega) (by omega) hz (by omega) (by omega) (fun q hq => (hh q (by omega)).1) (fun P hf => ?_) (fun hf => ?_)⟩)
    · rw [← a2, ← a1] at hf
      have hs' := pd_ps_y ybs ya z r aS aL hs hf
      have hQ := pd_ft_k (pd_fp_k _ _ hf)
      have ep : pd_pk (pd_ps ybs ya z r aS aL) h = P := by rw [pd_pk_e hs']
      refine br_f (by decide) ?_
      have W := ya_218 (post := post) (J47 := wY_apply_47 post (nI r) (nI H) ycp ycx yn ym (nI z) yrl (nI L) ysp yna yhd yhr (d + 1)) (x2 := nI r) (x3 := nI H) (x7 := nI h) (x8 := nI (sH h)) (x9 := nI (eH h - sH h)) (x10 := nI (pd_cs 2 yki (sH h))) (x11 := nI (pd_cs 2 yki (eH h) - pd_cs 2 yki (sH h))) (P := P) (cur := s.1) (o := (pd_ou ybs yb (pd_ps ybs ya z r aS aL) bS bL R0 h).1) (T := (pd_ou ybs yb (pd_ps ybs ya z r aS aL) bS bL R0 h).2) (ycp := ycp) (ycx := ycx) (yn := yn) (ym := ym) (yz := nI z) (yrl := yrl) (ysl := nI L) (ysp := ysp) (yna := yna) (yhd := yhd) (yhr := yhr) (ya := ya) (yb := yb) (ybs := ybs) (yrs := yrs) (yat := yat) (yta := TA) (yma := yma) (yki := yki) (yha := yha) (yin := yin) (ys0 := ys0) (ys1 := ys1) (ys2 := ys2) (ys3 := ys3) (yai := yai) (yaj := yaj) (yal := yal) (yci := yci) (ycj := ycj) (yt := yt) (by omega) hQ.1 (by omega) ?_ (P - s.1) 0 (by omega)
      · rw [pd_cp_0] at W
        exact ⟨_, W⟩
      · have V := ya_266 (post := post) (J47 := wY_apply_47 post (nI r) (nI H) ycp ycx yn ym (nI z) yrl (nI L) ysp yna yhd yhr (d + 1)) (x2 := nI r) (x3 := nI H) (x7 := nI h) (x10 := nI (pd_cs 2 yki (sH h))) (x11 := nI (pd_cs 2 yki (eH h) - pd_cs 2 yki (sH h))) (x13 := nI P) (s := sH h) (e := eH h) (o := (pd_ou ybs yb (pd_ps ybs ya z r aS aL) bS bL R0 h).1 + (P - s.1)) (T := pd_cp (pd_ou ybs yb (pd_ps ybs ya z r aS aL) bS bL R0 h).2 (pd_ou ybs yb (pd_ps ybs ya z r aS aL) bS bL R0 h).1 ybs s.1 (P - s.1)) (ycp := ycp) (ycx := ycx) (yn := yn) (ym := ym) (yz := nI z) (yrl := yrl) (ysl := nI L) (ysp := ysp) (yna := yna) (yhd := yhd) (yhr := yhr) (ya := ya) (yb := yb) (ybs := ybs) (yrs := yrs) (yat := yat) (yta := TA) (yma := yma) (yki := yki) (yha := yha) (yin := yin) (ys0 := ys0) (ys1 := ys1) (ys2 := ys2) (ys3 := ys3) (yai := yai) (yaj := yaj) (yal := yal) (yci := yci) (ycj := ycj) (yt := yt) (by omega) (by rw [← a4]; omega) (fun q hq => (hh q (by omega)).2) ?_ (eH h - sH h) (sH h) (by omega) (Nat.le_refl _)
        · rw [Nat.sub_self, pd_cp_0] at V
          exact ⟨_, V⟩
        · have I := ih (h + 1) (P + aL h, P, aS h) (upd TA h (nI P)) (by omega) hs' (fun q hq => by
            by_cases e : q = h
            · subst e; rw [pk_us, ep]
            · rw [pk_un e]; exact hT q (by omega))
          rw [pd_ou_s, ep, ec] at I
          dsimp only at I
          rw [← a4, ← a3, ← a2, ← a1]
          exact And.intro vh (nm_r (e' := upd TA h (nI P)) (by rw [zh]) (nm_r (nI_add P (aL h)) (nm_e (nm_r (nI_1 h) I))))
    · rw [← a2, ← a1] at hf
      exact br_t rfl (K1 h _ TA (by omega) ⟨s, hs⟩ (pd_ps_n _ _ _ _ _ _ hs hf))
end YA2
