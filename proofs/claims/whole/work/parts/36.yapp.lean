/-! Y: apply -/
section YAP
variable {ycp ycx yn ym yz yrl ysl ysp yna yhd yhr : Int32} {ya yb ybs yrs ytm yat yta yma yki yha yin ys0 ys1 ys2 ys3 yai yaj yal yci ycj yt : Nat → Int32}
variable {z r H n m L : Nat} {aS aL bS bL : Nat → Nat}
theorem ya_fits6 {post : Int32 → Prop} {P s e : Nat} (he : e ≤ 64) (hz : z ≤ 32) (hP : P + (pd_cs 2 yki e - pd_cs 2 yki s) ≤ z) (hh : ∀ q, q < e → ¬ yki q = 2 → yha q = ya (pd_cs 2 yki q))
    (K1 : (∀ t, t < pd_cs 2 yki e - pd_cs 2 yki s → ybs (P + t) = ya (pd_cs 2 yki s + t)) → post 1) (K0 : ¬ (∀ t, t < pd_cs 2 yki e - pd_cs 2 yki s → ybs (P + t) = ya (pd_cs 2 yki s + t)) → post 0) :
    ∀ d q, q + d = e → s ≤ q → (∀ t, t < pd_cs 2 yki q - pd_cs 2 yki s → ybs (P + t) = ya (pd_cs 2 yki s + t)) → wY_fits_6 post (nI s) (nI (e - s)) (nI P) ycp ycx yn ym (nI z) yrl ysl ysp yna yhd yhr ya yb ybs yrs ytm yat yta yma yki yha yin ys0 ys1 ys2 ys3 yai yaj yal yci ycj yt (d + 1) (nI (pd_cs 2 yki q - pd_cs 2 yki s)) (nI q) := by
  intro d
  induction d with
  | zero =>
    intro q hq hs ht
    have eq : q = e := by omega
    subst eq
    refine br_t ?_ (K1 ht)
    rw [nI_add]
    exact nI_le (by omega) (by omega)
  | succ d ih =>
    intro q hq hs ht
    have zq : (nI q).toNatClampNeg = q := nI_clamp (by omega)
    have vq : vp_in (nI q) 64 := vp_in_nI (by omega) (by decide)
    have I := ih (q + 1) (by omega) (by omega)
    have m1 := pd_cs_m (s := 2) (K := yki) q s hs
    have m2 := pd_cs_m (s := 2) (K := yki) e (q + 1) (by omega)
    have s1 := pd_cs_s 2 yki q
    refine br_f (by rw [nI_add]; exact nI_ge (by omega) (by omega)) (br_f (nI_ge (b := 64) (by omega) (by decide)) (And.intro vq (br_c (fun c => ?_) (fun c => ?_))))
    · rw [zq] at c
      rw [if_pos c] at s1
      rw [show pd_cs 2 yki (q + 1) - pd_cs 2 yki s = pd_cs 2 yki q - pd_cs 2 yki s by omega] at I
      exact nm_r (nI_1 q) (I ht)
    · rw [zq] at c
      rw [if_neg c] at s1
      have hq2 := hh q (by omega) c
      refine br_f (by rw [nI_add]; exact nI_pos (by omega)) (br_f (by rw [nI_add]; exact nI_ge (by omega) (by omega)) (And.intro (by rw [nI_add]; exact vp_in_nI (by omega) (by decide)) (And.intro vq (br_c (fun c1 => ?_) (fun c1 => ?_)))))
      · rw [nI_add, nI_clamp (by omega), zq, hq2] at c1
        refine nm_r (e' := nI (pd_cs 2 yki (q + 1) - pd_cs 2 yki s)) (by rw [nI_1]; exact congrArg nI (by omega)) (nm_r (nI_1 q) (I (fun t ht2 => ?_)))
        by_cases e1 : t = pd_cs 2 yki q - pd_cs 2 yki s
        · subst e1
          rw [c1]
          exact congrArg ya (by omega)
        · exact ht t (by omega)
      · rw [nI_add, nI_clamp (by omega), zq, hq2] at c1
        refine K0 (fun w => c1 ?_)
        rw [w (pd_cs 2 yki q - pd_cs 2 yki s) (by omega)]
        exact congrArg ya (by omega)
theorem ya_fits {post : Int32 → Prop} {P s e cur : Nat} (hse : s ≤ e) (he : e ≤ 64) (hz : z ≤ 32) (hc : cur ≤ P) (hP : P + (pd_cs 2 yki e - pd_cs 2 yki s) ≤ z) (hh : ∀ q, q < e → ¬ yki q = 2 → yha q = ya (pd_cs 2 yki q))
    (K1 : pd_ft ybs ya z (pd_cs 2 yki s) (pd_cs 2 yki e - pd_cs 2 yki s) cur P = true → post 1) (K0 : ¬ pd_ft ybs ya z (pd_cs 2 yki s) (pd_cs 2 yki e - pd_cs 2 yki s) cur P = true → post 0) : wpY_fits post (ycp, ycx, yn, ym, nI z, yrl, ysl, ysp, yna, yhd, yhr, ya, yb, ybs, yrs, ytm, yat, yta, yma, yki, yha, yin, ys0, ys1, ys2, ys3, yai, yaj, yal, yci, ycj, yt) (nI s) (nI (e - s)) (nI P) := by
  have := ya_fits6 (post := post) (P := P) (s := s) (e := e) (ycp := ycp) (ycx := ycx) (yn := yn) (ym := ym) (yrl := yrl) (ysl := ysl) (ysp := ysp) (yna := yna) (yhd := yhd) (yhr := yhr) (ya := ya) (yb := yb) (ybs := ybs) (yrs := yrs) (ytm := ytm) (yat := yat) (yta := yta) (yma := yma) (yki := yki) (yha := yha) (yin := yin) (ys0 := ys0) (ys1 := ys1) (ys2 := ys2) (ys3 := ys3) (yai := yai) (yaj := yaj) (yal := yal) (yci := yci) (ycj := ycj) (yt := yt) he hz hP hh (fun w => K1 (decide_eq_true ⟨hc, hP, w⟩)) (fun w => K0 (fun w2 => w (pd_ft_k w2).2.2)) (e - s) s (by omega) (Nat.le_refl _) (fun t ht => by rw [Nat.sub_self] at ht; exact absurd ht (Nat.not_lt_zero _))
  rw [Nat.sub_self] at this
  exact ⟨_, this⟩
/-- one candidate of the search -/
theorem ya_146 {post : Int32 → SY → Prop} {J47 : Int32 → Int32 → Int32 → Int32 → (Nat → Int32) → (Nat → Int32) → (Nat → Int32) → (Nat → Int32) → (Nat → Int32) → (Nat → Int32) → (Nat → Int32) → (Nat → Int32) → (Nat → Int32) → (Nat → Int32) → (Nat → Int32) → (Nat → Int32) → (Nat → Int32) → (Nat → Int32) → (Nat → Int32) → (Nat → Int32) → (Nat → Int32) → (Nat → Int32) → (Nat → Int32) → (Nat → Int32) → (Nat → Int32) → Prop} {J116 : Int32 → Prop} {x2 x3 x6 x7 x10 x12 x13 x14 z0 : Int32} {P s e cur i : Nat} (hx : x12 + z0 = nI P) (hse : s ≤ e) (he : e ≤ 64) (hz : z ≤ 32) (hc : cur ≤ 32) (hP : P < 1000) (hh : ∀ q, q < e → ¬ yki q = 2 → yha q = ya (pd_cs 2 yki q))
    (K1 : pd_ft ybs ya z (pd_cs 2 yki s) (pd_cs 2 yki e - pd_cs 2 yki s) cur P = true → wY_apply_203 post J47 x2 x3 (nI cur) x6 x7 (nI s) (nI (e - s)) x10 (nI (pd_cs 2 yki e - pd_cs 2 yki s)) (nI P) 1 ycp ycx yn ym (nI z) yrl ysl ysp yna yhd yhr ya yb ybs yrs ytm yat yta yma yki yha yin ys0 ys1 ys2 ys3 yai yaj yal yci ycj yt) (K0 : ¬ pd_ft ybs ya z (pd_cs 2 yki s) (pd_cs 2 yki e - pd_cs 2 yki s) cur P = true → J116 (nI (i + 1))) :
    wY_apply_146 post J47 J116 x2 x3 (nI cur) x6 x7 (nI s) (nI (e - s)) x10 (nI (pd_cs 2 yki e - pd_cs 2 yki s)) x12 x13 x14 (nI i) z0 ycp ycx yn ym (nI z) yrl ysl ysp yna yhd yhr ya yb ybs yrs ytm yat yta yma yki yha yin ys0 ys1 ys2 ys3 yai yaj yal yci ycj yt := by
  have hl := pd_cs_le (s := 2) (K := yki) e
  refine nm_r hx (pk_lt P cur (fun c => nm_r (nI_1 i) (K0 (fun w => ?_))) (fun c => pk_lt z (P + (pd_cs 2 yki e - pd_cs 2 yki s)) (fun c2 => nm_r (nI_1 i) (K0 (fun w => ?_))) (fun c2 => ya_fits (cur := cur) hse he hz c c2 hh (fun w => br_f (by decide) (K1 w)) (fun w => br_t rfl (nm_r (nI_1 i) (K0 w)))) rfl (nI_add _ _)))
  · have := (pd_ft_k w).1
    omega
  · have := (pd_ft_k w).2.1
    omega
theorem ya_116 {post : Int32 → SY → Prop} {J47 : Int32 → Int32 → Int32 → Int32 → (Nat → Int32) → (Nat → Int32) → (Nat → Int32) → (Nat → Int32) → (Nat → Int32) → (Nat → Int32) → (Nat → Int32) → (Nat → Int32) → (Nat → Int32) → (Nat → Int32) → (Nat → Int32) → (Nat → Int32) → (Nat → Int32) → (Nat → Int32) → (Nat → Int32) → (Nat → Int32) → (Nat → Int32) → (Nat → Int32) → (Nat → Int32) → (Nat → Int32) → (Nat → Int32) → Prop} {x3 x6 x7 x10 : Int32} {E s e cur : Nat} (hr : r ≤ 8) (hse : s ≤ e) (he : e ≤ 64) (hz : z ≤ 32) (hc : cur ≤ 32) (hE : E ≤ 200) (hh : ∀ q, q < e → ¬ yki q = 2 → yha q = ya (pd_cs 2 yki q)) :
    ∀ k o, o + k = r + 1 → 1 ≤ o →
    (∀ P, pd_fp (pd_ft ybs ya z (pd_cs 2 yki s) (pd_cs 2 yki e - pd_cs 2 yki s) cur) E k o = some P → wY_apply_203 post J47 (nI r) x3 (nI cur) x6 x7 (nI s) (nI (e - s)) x10 (nI (pd_cs 2 yki e - pd_cs 2 yki s)) (nI P) 1 ycp ycx yn ym (nI z) yrl ysl ysp yna yhd yhr ya yb ybs yrs ytm yat yta yma yki yha yin ys0 ys1 ys2 ys3 yai yaj yal yci ycj yt) →
    (pd_fp (pd_ft ybs ya z (pd_cs 2 yki s) (pd_cs 2 yki e - pd_cs 2 yki s) cur) E k o = none → wY_apply_203 post J47 (nI r) x3 (nI cur) x6 x7 (nI s) (nI (e - s)) x10 (nI (pd_cs 2 yki e - pd_cs 2 yki s)) (-1) 0 ycp ycx yn ym (nI z) yrl ysl ysp yna yhd yhr ya yb ybs yrs ytm yat yta yma yki yha yin ys0 ys1 ys2 ys3 yai yaj yal yci ycj yt) →
    wY_apply_116 post J47 (nI r) x3 (nI cur) x6 x7 (nI s) (nI (e - s)) x10 (nI (pd_cs 2 yki e - pd_cs 2 yki s)) (nI E) (-1) 0 ycp ycx yn ym (nI z) yrl ysl ysp yna yhd yhr ya yb ybs yrs ytm yat yta yma yki yha yin ys0 ys1 ys2 ys3 yai yaj yal yci ycj yt (2 * k + 1) (nI (2 * o - 1)) := by
  have e2 : (2 : Int32) * nI r = nI (2 * r) := pk_mul 2 r
  have d2 : ¬ (2 : Int32) = 0 := by decide
  intro k
  induction k with
  | zero =>
    intro o ho h1 Ks Kn
    exact br_t (by rw [e2]; exact nI_lt (by omega) (by omega)) (Kn rfl)
  | succ k ih =>
    intro o ho h1 Ks Kn
    rw [pd_fp_s] at Ks Kn
    show wY_apply_116 post J47 (nI r) x3 (nI cur) x6 x7 (nI s) (nI (e - s)) x10 (nI (pd_cs 2 yki e - pd_cs 2 yki s)) (nI E) (-1) 0 ycp ycx yn ym (nI z) yrl ysl ysp yna yhd yhr ya yb ybs yrs ytm yat yta yma yki yha yin ys0 ys1 ys2 ys3 yai yaj yal yci ycj yt (2 * k + 1 + 1 + 1) (nI (2 * o - 1))
    have r1 : nI (2 * o - 1) - nI (2 * o - 1) / 2 * 2 = nI ((2 * o - 1) % 2) := pk_rem (d := 2) (by omega) (by decide) (by decide)
    have r2 : nI (2 * o) - nI (2 * o) / 2 * 2 = nI ((2 * o) % 2) := pk_rem (d := 2) (by omega) (by decide) (by decide)
    have q1 : (nI (2 * o - 1) + 1) / 2 = nI o := by
      rw [nI_1]
      have : nI (2 * o - 1 + 1) / 2 = nI ((2 * o - 1 + 1) / 2) := pk_div (d := 2) (by omega) (by decide) (by decide)
      rw [this]
      exact congrArg nI (by omega)
    have q2 : nI (2 * o) / 2 = nI o := by
      have : nI (2 * o) / 2 = nI ((2 * o) / 2) := pk_div (d := 2) (by omega) (by decide) (by decide)
      rw [this]
      exact congrArg nI (by omega)
    have second : ¬ (o ≤ E ∧ pd_ft ybs ya z (pd_cs 2 yki s) (pd_cs 2 yki e - pd_cs 2 yki s) cur (E - o) = true) → wY_apply_116 post J47 (nI r) x3 (nI cur) x6 x7 (nI s) (nI (e - s)) x10 (nI (pd_cs 2 yki e - pd_cs 2 yki s)) (nI E) (-1) 0 ycp ycx yn ym (nI z) yrl ysl ysp yna yhd yhr ya yb ybs yrs ytm yat yta yma yki yha yin ys0 ys1 ys2 ys3 yai yaj yal yci ycj yt (2 * k + 1 + 1) (nI (2 * o)) := fun w => by
      rw [if_neg w] at Ks Kn
      refine br_f (by rw [e2]; exact nI_nlt (by omega) (by omega)) (And.intro d2 (br_f ?_ (And.intro d2 (ya_146 (P := E + o) ?_ hse he hz hc (by omega) hh (fun w2 => ?_) (fun w2 => ?_)))))
      · rw [r2, show (2 * o) % 2 = 0 by omega]
        decide
      · rw [q2, nI_add]
      · rw [if_pos w2] at Ks
        exact Ks _ rfl
      · rw [if_neg w2] at Ks Kn
        have I := ih (o + 1) (by omega) (by omega) Ks Kn
        rw [show 2 * (o + 1) - 1 = 2 * o + 1 by omega] at I
        exact I
    refine br_f (by rw [e2]; exact nI_nlt (by omega) (by omega)) (And.intro d2 (br_t ?_ (And.intro d2 ?_)))
    · rw [r1, show (2 * o - 1) % 2 = 1 by omega]
      rfl
    · rw [q1]
      by_cases c : o ≤ E
      · refine ya_146 (P := E - o) ?_ hse he hz hc (by omega) hh (fun w2 => ?_) (fun w2 => ?_)
        · rw [← Int32.sub_eq_add_neg, pk_sub c]
        · rw [if_pos ⟨c, w2⟩] at Ks
          exact Ks _ rfl
        · have S := second (fun w => w2 w.2)
          rw [show 2 * o = 2 * o - 1 + 1 by omega] at S
          exact S
      · refine nm_e (br_t ?_ (nm_r (e' := nI (2 * o)) (by rw [nI_1]; exact congrArg nI (by omega)) (second (fun w => c w.1))))
        rw [← Int32.sub_eq_add_neg]
        exact pd_neg (by omega) (by omega) hc
theorem ya_116s {post : Int32 → SY → Prop} {J47 : Int32 → Int32 → Int32 → Int32 → (Nat → Int32) → (Nat → Int32) → (Nat → Int32) → (Nat → Int32) → (Nat → Int32) → (Nat → Int32) → (Nat → Int32) → (Nat → Int32) → (Nat → Int32) → (Nat → Int32) → (Nat → Int32) → (Nat → Int32) → (Nat → Int32) → (Nat → Int32) → (Nat → Int32) → (Nat → Int32) → (Nat → Int32) → (Nat → Int32) → (Nat → Int32) → (Nat → Int32) → (Nat → Int32) → Prop} {x3 x6 x7 x10 : Int32} {E s e cur : Nat} (hr : r ≤ 8) (hse : s ≤ e) (he : e ≤ 64) (hz : z ≤ 32) (hc : cur ≤ 32) (hE : E ≤ 200) (hh : ∀ q, q < e → ¬ yki q = 2 → yha q = ya (pd_cs 2 yki q))
    (Ks : ∀ P, pd_fp (pd_ft ybs ya z (pd_cs 2 yki s) (pd_cs 2 yki e - pd_cs 2 yki s) cur) E (r + 1) 0 = some P → wY_apply_203 post J47 (nI r) x3 (nI cur) x6 x7 (nI s) (nI (e - s)) x10 (nI (pd_cs 2 yki e - pd_cs 2 yki s)) (nI P) 1 ycp ycx yn ym (nI z) yrl ysl ysp yna yhd yhr ya yb ybs yrs ytm yat yta yma yki yha yin ys0 ys1 ys2 ys3 yai yaj yal yci ycj yt)
    (Kn : pd_fp (pd_ft ybs ya z (pd_cs 2 yki s) (pd_cs 2 yki e - pd_cs 2 yki s) cur) E (r + 1) 0 = none → wY_apply_203 post J47 (nI r) x3 (nI cur) x6 x7 (nI s) (nI (e - s)) x10 (nI (pd_cs 2 yki e - pd_cs 2 yki s)) (-1) 0 ycp ycx yn ym (nI z) yrl ysl ysp yna yhd yhr ya yb ybs yrs ytm yat yta yma yki yha yin ys0 ys1 ys2 ys3 yai yaj yal yci ycj yt) :
    wY_apply_116 post J47 (nI r) x3 (nI cur) x6 x7 (nI s) (nI (e - s)) x10 (nI (pd_cs 2 yki e - pd_cs 2 yki s)) (nI E) (-1) 0 ycp ycx yn ym (nI z) yrl ysl ysp yna yhd yhr ya yb ybs yrs ytm yat yta yma yki yha yin ys0 ys1 ys2 ys3 yai yaj yal yci ycj yt (2 * r + 1 + 1) 0 := by
  have e2 : (2 : Int32) * nI r = nI (2 * r) := pk_mul 2 r
  have d2 : ¬ (2 : Int32) = 0 := by decide
  rw [pd_fp_s] at Ks Kn
  refine br_f (by rw [e2]; exact nI_pos (by omega)) (And.intro d2 (br_f (by decide) (And.intro d2 (ya_146 (i := 0) (P := E) ?_ hse he hz hc (by omega) hh (fun w => ?_) (fun w => ?_)))))
  · show nI E + nI 0 = nI E
    rw [nI_add, Nat.add_zero]
  · rw [if_pos ⟨Nat.zero_le _, w⟩] at Ks
    exact Ks _ rfl
  · rw [if_neg (fun w2 => w w2.2), Nat.add_zero, if_neg w] at Ks Kn
    exact ya_116 hr hse he hz hc hE hh r 1 (by omega) (Nat.le_refl _) Ks Kn
theorem ya_218 {post : Int32 → SY → Prop} {J47 : Int32 → Int32 → Int32 → Int32 → (Nat → Int32) → (Nat → Int32) → (Nat → Int32) → (Nat → Int32) → (Nat → Int32) → (Nat → Int32) → (Nat → Int32) → (Nat → Int32) → (Nat → Int32) → (Nat → Int32) → (Nat → Int32) → (Nat → Int32) → (Nat → Int32) → (Nat → Int32) → (Nat → Int32) → (Nat → Int32) → (Nat → Int32) → (Nat → Int32) → (Nat → Int32) → (Nat → Int32) → (Nat → Int32) → Prop} {x2 x3 x7 x8 x9 x10 x11 : Int32} {P cur o : Nat} {T : Nat → Int32} (hP : P ≤ 32) (hc : cur ≤ P) (ho : o + (P - cur) ≤ 64)
    (K : ∃ n266, wY_apply_266 post J47 x2 x3 x7 x8 x9 x10 x11 (nI P) ycp ycx yn ym yz yrl ysl ysp yna yhd yhr n266 (nI (o + (P - cur))) x8 ya yb ybs yrs (pd_cp T o ybs cur (P - cur)) yat yta yma yki yha yin ys0 ys1 ys2 ys3 yai yaj yal yci ycj yt) :
    ∀ d q, q + d = P - cur → wY_apply_218 post J47 x2 x3 x7 x8 x9 x10 x11 (nI P) ycp ycx yn ym yz yrl ysl ysp yna yhd yhr (d + 1) (nI (o + q)) (nI (cur + q)) ya yb ybs yrs (pd_cp T o ybs cur q) yat yta yma yki yha yin ys0 ys1 ys2 ys3 yai yaj yal yci ycj yt := by
  intro d
  induction d with
  | zero =>
    intro q hq
    have eq : q = P - cur := by omega
    subst eq
    exact br_t (nI_le (by omega) (by omega)) K
  | succ d ih =>
    intro q hq
    have z1 : (nI (cur + q)).toNatClampNeg = cur + q := nI_clamp (by omega)
    have z2 : (nI (o + q)).toNatClampNeg = o + q := nI_clamp (by omega)
    exact br_f (nI_ge (by omega) (by omega)) (br_f (nI_ge (b := 32) (by omega) (by decide)) (br_f (nI_ge (b := 64) (by omega) (by decide)) (And.intro (vp_in_nI (by omega) (by decide)) (And.intro (vp_in_nI (by omega) (by decide)) (nm_r (e' := pd_cp T o ybs cur (q + 1)) (by rw [z1, z2, pd_cp_s]) (nm_r (nI_1 (o + q)) (nm_r (nI_1 (cur + q)) (ih (q + 1) (by omega)))))))))
theorem ya_266 {post : Int32 → SY → Prop} {J47 : Int32 → Int32 → Int32 → Int32 → (Nat → Int32) → (Nat → Int32) → (Nat → Int32) → (Nat → Int32) → (Nat → Int32) → (Nat → Int32) → (Nat → Int32) → (Nat → Int32) → (Nat → Int32) → (Nat → Int32) → (Nat → Int32) → (Nat → Int32) → (Nat → Int32) → (Nat → Int32) → (Nat → Int32) → (Nat → Int32) → (Nat → Int32) → (Nat → Int32) → (Nat → Int32) → (Nat → Int32) → (Nat → Int32) → Prop} {x2 x3 x7 x10 x11 x13 : Int32} {s e o : Nat} {T : Nat → Int32} (he : e ≤ 64) (ho : o + (pd_cs 1 yki e - pd_cs 1 yki s) ≤ 64) (hh : ∀ q, q < e → ¬ yki q = 1 → yha q = yb (pd_cs 1 yki q))
    (K : wY_apply_324 post J47 x2 x3 (nI (o + (pd_cs 1 yki e - pd_cs 1 yki s))) x7 x10 x11 x13 ycp ycx yn ym yz yrl ysl ysp yna yhd yhr ya yb ybs yrs (pd_cp T o yb (pd_cs 1 yki s) (pd_cs 1 yki e - pd_cs 1 yki s)) yat yta yma yki yha yin ys0 ys1 ys2 ys3 yai yaj yal yci ycj yt) :
    ∀ d q, q + d = e → s ≤ q → wY_apply_266 post J47 x2 x3 x7 (nI s) (nI (e - s)) x10 x11 x13 ycp ycx yn ym yz yrl ysl ysp yna yhd yhr (d + 1) (nI (o + (pd_cs 1 yki q - pd_cs 1 yki s))) (nI q) ya yb ybs yrs (pd_cp T o yb (pd_cs 1 yki s) (pd_cs 1 yki q - pd_cs 1 yki s)) yat yta yma yki yha yin ys0 ys1 ys2 ys3 yai yaj yal yci ycj yt := by
  intro d
  induction d with
  | zero =>
    intro q hq hs
    have eq : q = e := by omega
    subst eq
    refine br_t ?_ K
    rw [nI_add]
    exact nI_le (by omega) (by omega)
  | succ d ih =>
    intro q hq hs
    have zq : (nI q).toNatClampNeg = q := nI_clamp (by omega)
    have vq : vp_in (nI q) 64 := vp_in_nI (by omega) (by decide)
    have I := ih (q + 1) (by omega) (by omega)
    have m1 := pd_cs_m (s := 1) (K := yki) q s hs
    have m2 := pd_cs_m (s := 1) (K := yki) e (q + 1) (by omega)
    have s1 := pd_cs_s 1 yki q
    refine br_f (by rw [nI_add]; exact nI_ge (by omega) (by omega)) (br_f (nI_ge (b := 64) (by omega) (by decide)) (And.intro vq (br_c (fun c => ?_) (fun c => ?_))))
    · rw [zq] at c
      rw [if_pos c] at s1
      rw [show pd_cs 1 yki (q + 1) - pd_cs 1 yki s = pd_cs 1 yki q - pd_cs 1 yki s by omega] at I
      exact nm_r (nI_1 q) I
    · rw [zq] at c
      rw [if_neg c] at s1
      have hq2 := hh q (by omega) c
      have z2 : (nI (o + (pd_cs 1 yki q - pd_cs 1 yki s))).toNatClampNeg = o + (pd_cs 1 yki q - pd_cs 1 yki s) := nI_clamp (by omega)
      have eu : pd_cs 1 yki (q + 1) - pd_cs 1 yki s = pd_cs 1 yki q - pd_cs 1 yki s + 1 := by omega
      rw [eu] at I
      refine br_f (nI_ge (b := 64) (by omega) (by decide)) (And.intro vq (And.intro (vp_in_nI (by omega) (by decide)) (nm_r (e' := pd_cp T o yb (pd_cs 1 yki s) (pd_cs 1 yki q - pd_cs 1 yki s + 1)) ?_ (nm_r (nI_1 _) (nm_r (nI_1 q) I)))))
      rw [← pd_cp_s, zq, z2, hq2]
      exact congrArg (upd _ _) (congrArg yb (by omega))
end YAP
