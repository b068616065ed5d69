/-! Y: chain -/
theorem pd_Q_n {ao aj rk : Nat → Nat} {l q : Nat} : pd_Q ao aj rk none l q = true ↔ rk q = l := ⟨fun h => of_decide_eq_true h, fun h => decide_eq_true h⟩
theorem pd_Q_s {ao aj rk : Nat → Nat} {c l q : Nat} : pd_Q ao aj rk (some c) l q = true ↔ (rk q = l ∧ ao q < ao c ∧ aj q < aj c) := ⟨fun h => of_decide_eq_true h, fun h => decide_eq_true h⟩
section YCH
variable {ycp ycx yn ym yz yrl ysl ysp yna yhd yhr : Int32} {ya yb ybs yrs ytm yat yta yma yki yha yin ys0 ys1 ys2 ys3 yai yaj yal yci ycj yt : Nat → Int32}
variable {post : SY → Prop} {n m : Nat} {V0 : Nat → Option Nat} {s : Nat × (Nat → Nat) × (Nat → Nat)} {x1 x2 x3 x4 : Int32}
theorem ya_rank24 {J9 : Int32 → Int32 → (Nat → Int32) → (Nat → Int32) → (Nat → Int32) → (Nat → Int32) → (Nat → Int32) → (Nat → Int32) → (Nat → Int32) → (Nat → Int32) → (Nat → Int32) → (Nat → Int32) → (Nat → Int32) → (Nat → Int32) → (Nat → Int32) → (Nat → Int32) → (Nat → Int32) → (Nat → Int32) → (Nat → Int32) → (Nat → Int32) → (Nat → Int32) → (Nat → Int32) → (Nat → Int32) → Prop} {x6 : Int32} {p : Nat} (hn : s.1 ≤ 32) (hp : p < s.1) (hb : ∀ q, q < s.1 → s.2.2 q < 32) (hr : pd_ar s yai yaj) (hk : ∀ q, q < p → yal q = nI (pd_rk s.2.2 q))
    (K : J9 (nI (pd_gr (pd_rk s.2.2) (p + 1))) (nI (p + 1)) ya yb ybs yrs ytm yat yta yma yki yha yin ys0 ys1 ys2 ys3 yai yaj (upd yal p (nI (pd_rk s.2.2 p))) yci ycj yt) :
    ∀ d q, q + d = p → wY_chain_24 post J9 x1 x2 x3 x4 (nI (pd_gr (pd_rk s.2.2) p)) x6 (nI p) ycp ycx yn ym yz yrl ysl ysp yna yhd yhr ya yb ybs yrs ytm yat yta yma yki yha yin ys0 ys1 ys2 ys3 yai yaj yal yci ycj yt (d + 1) (nI (pd_bs s.2.2 (pd_rk s.2.2) p q)) (nI q) := by
  have zp : (nI p).toNatClampNeg = p := nI_clamp (by omega)
  have vp : vp_in (nI p) 32 := vp_in_nI (by omega) (by decide)
  have hg : pd_gr (pd_rk s.2.2) p ≤ p := pd_gr_le p (fun q hq => by have := pd_rk_l s.2.2 q; omega)
  have hl := pd_rk_l s.2.2 p
  intro d
  induction d with
  | zero =>
    intro q hq
    have eq : q = p := by omega
    subst eq
    have es : (upd yal q (nI (pd_rk s.2.2 q))) (nI q).toNatClampNeg = nI (pd_rk s.2.2 q) := by rw [zp, pk_us]
    refine br_t (nI_le (Nat.le_refl q) (by omega)) (And.intro vp (nm_r (e' := upd yal q (nI (pd_rk s.2.2 q))) (by rw [zp, nI_1, ← pd_rk_e]) (And.intro vp (pk_le (pd_rk s.2.2 q) (pd_gr (pd_rk s.2.2) q) (fun c => nm_r (nI_1 q) ?_) (fun c => And.intro vp (nm_r es (nm_r (nI_1 q) ?_))) es))))
    · rw [pd_gr_s, if_neg (by omega)] at K
      exact K
    · rw [pd_gr_s, if_pos c] at K
      exact K
  | succ d ih =>
    intro q hq
    have zq : (nI q).toNatClampNeg = q := nI_clamp (by omega)
    have vq : vp_in (nI q) 32 := vp_in_nI (by omega) (by decide)
    have b1 := hb p hp
    have b2 := hb q (by omega)
    have b3 := pd_rk_l s.2.2 q
    have b4 : pd_bs s.2.2 (pd_rk s.2.2) p q ≤ p := pd_bs_le q (fun x hx => by have := pd_rk_l s.2.2 x; omega)
    have f1 : yaj (nI p).toNatClampNeg = nI (s.2.2 p) := by rw [zp, (hr p hp).2]
    have f2 : yaj (nI q).toNatClampNeg = nI (s.2.2 q) := by rw [zq, (hr q (by omega)).2]
    have f3 : yal (nI q).toNatClampNeg = nI (pd_rk s.2.2 q) := by rw [zq, hk q (by omega)]
    have I := ih (q + 1) (by omega)
    rw [pd_bs_s] at I
    refine br_f (nI_ge (by omega) (by omega)) (And.intro vq (And.intro vp (pk_le (s.2.2 p) (s.2.2 q) (fun c => nm_r (nI_1 q) ?_) (fun c => And.intro vq (pk_le (pd_rk s.2.2 q) (pd_bs s.2.2 (pd_rk s.2.2) p q) (fun c2 => nm_r (nI_1 q) ?_) (fun c2 => And.intro vq (nm_r f3 (nm_r (nI_1 q) ?_))) f3)) f1 f2)))
    · rw [if_neg (by omega)] at I
      exact I
    · rw [if_neg (by omega)] at I
      exact I
    · rw [if_pos ⟨c, c2⟩] at I
      exact I
theorem ya_rank9 {x6 : Int32} (hn : s.1 ≤ 32) (hb : ∀ q, q < s.1 → s.2.2 q < 32) (hr : pd_ar s yai yaj)
    (K : ∀ AR, (∀ q, q < s.1 → AR q = nI (pd_rk s.2.2 q)) → ∃ n116, wY_chain_116 post x1 x2 x3 x4 (nI (pd_K s)) ycp ycx yn ym yz yrl ysl ysp (nI s.1) yhd yhr ya yb ybs yrs ytm yat yta yma yki yha yin ys0 ys1 ys2 ys3 yai yaj AR yci ycj yt n116 x6 0) :
    ∀ d p AR, p + d = s.1 → (∀ q, q < p → AR q = nI (pd_rk s.2.2 q)) → wY_chain_9 post x1 x2 x3 x4 x6 ycp ycx yn ym yz yrl ysl ysp (nI s.1) yhd yhr (d + 1) (nI (pd_gr (pd_rk s.2.2) p)) (nI p) ya yb ybs yrs ytm yat yta yma yki yha yin ys0 ys1 ys2 ys3 yai yaj AR yci ycj yt := by
  intro d
  induction d with
  | zero =>
    intro p AR hp hA
    have ep : p = s.1 := by omega
    subst ep
    exact br_t (nI_le (Nat.le_refl _) (by omega)) (K AR hA)
  | succ d ih =>
    intro p AR hp hA
    refine br_f (nI_ge (by omega) (by omega)) ⟨_, ya_rank24 hn (by omega) hb hr hA (ih (p + 1) _ (by omega) (fun q hq => ?_)) p 0 (by omega)⟩
    by_cases e : q = p
    · subst e; rw [pk_us]
    · rw [pk_un e]; exact hA q (by omega)
/-- the last anchor of the greatest rank -/
theorem ya_last116 {Kk : Nat} (hn : s.1 ≤ 32) (hKk : Kk ≤ 32) (hk : ∀ q, q < s.1 → yal q = nI (pd_rk s.2.2 q)) {c0 : Nat} (hc : pd_la (pd_Q s.2.1 s.2.2 (pd_rk s.2.2) none Kk) s.1 = some c0) (hc0 : c0 < s.1) (hK1 : 1 ≤ Kk)
    (hr : pd_ar s yai yaj)
    (K : ∃ n185, wY_chain_185 post x1 x2 x3 x4 (nI Kk) ycp ycx yn ym yz yrl ysl ysp (nI s.1) yhd yhr n185 (nI c0) (nI (Kk - 1)) ya yb ybs yrs ytm yat yta yma yki yha yin ys0 ys1 ys2 ys3 yai yaj yal (upd yci (Kk - 1) (nI (s.2.1 c0))) (upd ycj (Kk - 1) (nI (s.2.2 c0))) yt) :
    ∀ d p, p + d = s.1 → wY_chain_116 post x1 x2 x3 x4 (nI Kk) ycp ycx yn ym yz yrl ysl ysp (nI s.1) yhd yhr ya yb ybs yrs ytm yat yta yma yki yha yin ys0 ys1 ys2 ys3 yai yaj yal yci ycj yt (d + 1) (pd_e (pd_la (pd_Q s.2.1 s.2.2 (pd_rk s.2.2) none Kk) p)) (nI p) := by
  intro d
  induction d with
  | zero =>
    intro p hp
    have ep : p = s.1 := by omega
    subst ep
    have z : (nI c0).toNatClampNeg = c0 := nI_clamp (by omega)
    have v : vp_in (nI c0) 32 := vp_in_nI (by omega) (by decide)
    have zk : (nI Kk - 1).toNatClampNeg = Kk - 1 := by rw [pd_s1 hK1, nI_clamp (by omega)]
    have vk : vp_in (nI Kk - 1) 32 := by rw [pd_s1 hK1]; exact vp_in_nI (by omega) (by decide)
    rw [hc]
    refine br_t (nI_le (Nat.le_refl _) (by omega)) (And.intro v (And.intro vk (nm_r (e' := upd yci (Kk - 1) (nI (s.2.1 c0))) ?_ (And.intro v (And.intro vk (nm_r (e' := upd ycj (Kk - 1) (nI (s.2.2 c0))) ?_ (nm_r (pd_s1 hK1) K)))))))
    · show upd yci _ (yai (nI c0).toNatClampNeg) = _
      rw [zk, z, (hr c0 hc0).1]
    · show upd ycj _ (yaj (nI c0).toNatClampNeg) = _
      rw [zk, z, (hr c0 hc0).2]
  | succ d ih =>
    intro p hp
    have z : (nI p).toNatClampNeg = p := nI_clamp (by omega)
    have v : vp_in (nI p) 32 := vp_in_nI (by omega) (by decide)
    have bk := pd_rk_l s.2.2 p
    have f : yal (nI p).toNatClampNeg = nI (pd_rk s.2.2 p) := by rw [z, hk p (by omega)]
    have I := ih (p + 1) (by omega)
    rw [pd_la_s] at I
    refine br_f (nI_ge (by omega) (by omega)) (And.intro v (pk_eq (pd_rk s.2.2 p) Kk (fun c => nm_r (nI_1 p) ?_) (fun c => nm_r (nI_1 p) ?_) f))
    · rw [if_pos (pd_Q_n.mpr c)] at I
      exact I
    · rw [if_neg (fun w => c (pd_Q_n.mp w))] at I
      exact I
/-- the pair before anchor c0 -/
theorem ya_pick197 {J185 : Int32 → Int32 → (Nat → Int32) → (Nat → Int32) → (Nat → Int32) → (Nat → Int32) → (Nat → Int32) → (Nat → Int32) → (Nat → Int32) → (Nat → Int32) → (Nat → Int32) → (Nat → Int32) → (Nat → Int32) → (Nat → Int32) → (Nat → Int32) → (Nat → Int32) → (Nat → Int32) → (Nat → Int32) → (Nat → Int32) → (Nat → Int32) → (Nat → Int32) → (Nat → Int32) → (Nat → Int32) → Prop} {x5 : Int32} {l c0 c1 : Nat} (hn : s.1 ≤ 32) (hb : ∀ q, q < s.1 → s.2.1 q < 32 ∧ s.2.2 q < 32) (hl : 1 ≤ l) (hl2 : l ≤ 32) (hk : ∀ q, q < s.1 → yal q = nI (pd_rk s.2.2 q)) (hc0 : c0 < s.1) (hr : pd_ar s yai yaj)
    (hc : pd_la (pd_Q s.2.1 s.2.2 (pd_rk s.2.2) (some c0) l) s.1 = some c1) (hc1 : c1 < s.1)
    (K : J185 (nI c1) (nI (l - 1)) ya yb ybs yrs ytm yat yta yma yki yha yin ys0 ys1 ys2 ys3 yai yaj yal (upd yci (l - 1) (nI (s.2.1 c1))) (upd ycj (l - 1) (nI (s.2.2 c1))) yt) :
    ∀ d p, p + d = s.1 → wY_chain_197 post J185 x1 x2 x3 x4 x5 (nI c0) (nI l) ycp ycx yn ym yz yrl ysl ysp (nI s.1) yhd yhr ya yb ybs yrs ytm yat yta yma yki yha yin ys0 ys1 ys2 ys3 yai yaj yal yci ycj yt (d + 1) (pd_e (pd_la (pd_Q s.2.1 s.2.2 (pd_rk s.2.2) (some c0) l) p)) (nI p) := by
  have z0 : (nI c0).toNatClampNeg = c0 := nI_clamp (by omega)
  have v0 : vp_in (nI c0) 32 := vp_in_nI (by omega) (by decide)
  intro d
  induction d with
  | zero =>
    intro p hp
    have ep : p = s.1 := by omega
    subst ep
    have z : (nI c1).toNatClampNeg = c1 := nI_clamp (by omega)
    have v : vp_in (nI c1) 32 := vp_in_nI (by omega) (by decide)
    have zk : (nI l - 1).toNatClampNeg = l - 1 := by rw [pd_s1 hl, nI_clamp (by omega)]
    have vk : vp_in (nI l - 1) 32 := by rw [pd_s1 hl]; exact vp_in_nI (by omega) (by decide)
    rw [hc]
    refine br_t (nI_le (Nat.le_refl _) (by omega)) (br_t (nI_pos' (by omega)) (And.intro v (And.intro vk (nm_r (e' := upd yci (l - 1) (nI (s.2.1 c1))) ?_ (And.intro v (And.intro vk (nm_r (e' := upd ycj (l - 1) (nI (s.2.2 c1))) ?_ (nm_r (pd_a1 hl) K))))))))
    · show upd yci _ (yai (nI c1).toNatClampNeg) = _
      rw [zk, z, (hr c1 hc1).1]
    · show upd ycj _ (yaj (nI c1).toNatClampNeg) = _
      rw [zk, z, (hr c1 hc1).2]
  | succ d ih =>
    intro p hp
    have z : (nI p).toNatClampNeg = p := nI_clamp (by omega)
    have v : vp_in (nI p) 32 := vp_in_nI (by omega) (by decide)
    have bk := pd_rk_l s.2.2 p
    have bp := hb p (by omega)
    have bc := hb c0 hc0
    have f : yal (nI p).toNatClampNeg = nI (pd_rk s.2.2 p) := by rw [z, hk p (by omega)]
    have g1 : yai (nI p).toNatClampNeg = nI (s.2.1 p) := by rw [z, (hr p (by omega)).1]
    have g2 : yaj (nI p).toNatClampNeg = nI (s.2.2 p) := by rw [z, (hr p (by omega)).2]
    have g3 : yai (nI c0).toNatClampNeg = nI (s.2.1 c0) := by rw [z0, (hr c0 hc0).1]
    have g4 : yaj (nI c0).toNatClampNeg = nI (s.2.2 c0) := by rw [z0, (hr c0 hc0).2]
    have I := ih (p + 1) (by omega)
    rw [pd_la_s] at I
    have miss : ¬ (pd_rk s.2.2 p = l ∧ s.2.1 p < s.2.1 c0 ∧ s.2.2 p < s.2.2 c0) → wY_chain_197 post J185 x1 x2 x3 x4 x5 (nI c0) (nI l) ycp ycx yn ym yz yrl ysl ysp (nI s.1) yhd yhr ya yb ybs yrs ytm yat yta yma yki yha yin ys0 ys1 ys2 ys3 yai yaj yal yci ycj yt (d + 1) (pd_e (pd_la (pd_Q s.2.1 s.2.2 (pd_rk s.2.2) (some c0) l) p)) (nI (p + 1)) := fun c => by
      rw [if_neg (fun w => c (pd_Q_s.mp w))] at I
      exact I
    refine br_f (nI_ge (by omega) (by omega)) (And.intro v (And.intro v0 (pk_le (s.2.1 c0) (s.2.1 p) (fun c => nm_r (nI_1 p) (miss (by omega))) (fun c => And.intro v (And.intro v0 (pk_le (s.2.2 c0) (s.2.2 p) (fun c2 => nm_r (nI_1 p) (miss (by omega))) (fun c2 => And.intro v (pk_eq (pd_rk s.2.2 p) l (fun c3 => nm_r (nI_1 p) ?_) (fun c3 => nm_r (nI_1 p) (miss (by omega))) f)) g4 g2))) g3 g1)))
    rw [if_pos (pd_Q_s.mpr ⟨c3, c, c2⟩)] at I
    exact I
end YCH
