/-! Y: countHunks, hunkStart, hunkSize, countOps; then the hunk methods -/
section YHU
variable {ycp ycx yn ym yz yrl ysl ysp yna yhd yhr : Int32} {ya yb ybs yrs ytm yat yta yma yki yha yin ys0 ys1 ys2 ys3 yai yaj yal yci ycj yt : Nat → Int32}
variable {post : Int32 → Prop} {L : Nat}
theorem ya_cH4 (hL : L ≤ 64) (K : post (nI (pd_hc yin L))) : ∀ d p, p + d = L → wY_countHunks_4 post ycp ycx yn ym yz yrl (nI L) ysp yna yhd yhr ya yb ybs yrs ytm yat yta yma yki yha yin ys0 ys1 ys2 ys3 yai yaj yal yci ycj yt (d + 1) (nI (pd_hc yin p)) (nI p) := by
  intro d
  induction d with
  | zero =>
    intro p hp
    have ep : p = L := by omega
    subst ep
    exact br_t (nI_le (Nat.le_refl _) (by omega)) K
  | succ d ih =>
    intro p hp
    have z : (nI p).toNatClampNeg = p := nI_clamp (by omega)
    have I := ih (p + 1) (by omega)
    refine br_f (nI_ge (by omega) (by omega)) (And.intro (vp_in_nI (by omega) (by decide)) (br_c (fun c1 => ?_) (fun c1 => pk_eq p 0 (fun c2 => ?_) (fun c2 => And.intro (by rw [pd_s1 (by omega)]; exact vp_in_nI (by omega) (by decide)) (br_c (fun c3 => ?_) (fun c3 => ?_))))))
    · rw [z] at c1
      rw [pd_hc_n (fun w => w.1 c1)] at I
      exact nm_r (nI_1 p) I
    · rw [z] at c1
      rw [pd_hc_y ⟨c1, Or.inl c2⟩] at I
      exact nm_r (nI_1 _) (nm_r (nI_1 p) I)
    · rw [z] at c1
      rw [pd_s1 (by omega), nI_clamp (by omega)] at c3
      rw [pd_hc_y ⟨c1, Or.inr c3⟩] at I
      exact nm_r (nI_1 _) (nm_r (nI_1 p) I)
    · rw [pd_s1 (by omega), nI_clamp (by omega)] at c3
      rw [pd_hc_n (fun w => by
        rcases w.2 with w | w
        · omega
        · exact c3 w)] at I
      exact nm_r (nI_1 p) I
theorem ya_countHunks (hL : L ≤ 64) (K : post (nI (pd_hc yin L))) : wpY_countHunks post (ycp, ycx, yn, ym, yz, yrl, nI L, ysp, yna, yhd, yhr, ya, yb, ybs, yrs, ytm, yat, yta, yma, yki, yha, yin, ys0, ys1, ys2, ys3, yai, yaj, yal, yci, ycj, yt) := ⟨_, ya_cH4 hL K L 0 (by omega)⟩
theorem ya_hS4 {x1 : Int32} (hL : L ≤ 64) (K1 : ∀ q, q < L → pd_st yin q → nI (pd_hc yin q) = x1 → post (nI q)) (K0 : (∀ q, q < L → pd_st yin q → ¬ nI (pd_hc yin q) = x1) → post (-1)) :
    ∀ d p, p + d = L → (∀ q, q < p → pd_st yin q → ¬ nI (pd_hc yin q) = x1) → wY_hunkStart_4 post x1 ycp ycx yn ym yz yrl (nI L) ysp yna yhd yhr ya yb ybs yrs ytm yat yta yma yki yha yin ys0 ys1 ys2 ys3 yai yaj yal yci ycj yt (d + 1) (nI (pd_hc yin p)) (nI p) := by
  intro d
  induction d with
  | zero =>
    intro p hp hq
    have ep : p = L := by omega
    subst ep
    exact br_t (nI_le (Nat.le_refl _) (by omega)) (K0 hq)
  | succ d ih =>
    intro p hp hq
    have z : (nI p).toNatClampNeg = p := nI_clamp (by omega)
    have nost : ¬ pd_st yin p → wY_hunkStart_4 post x1 ycp ycx yn ym yz yrl (nI L) ysp yna yhd yhr ya yb ybs yrs ytm yat yta yma yki yha yin ys0 ys1 ys2 ys3 yai yaj yal yci ycj yt (d + 1) (nI (pd_hc yin p)) (nI (p + 1)) := fun hs => by
      have I := ih (p + 1) (by omega) (fun q h1 h2 => by
        by_cases e : q = p
        · subst e; exact absurd h2 hs
        · exact hq q (by omega) h2)
      rw [pd_hc_n hs] at I
      exact I
    have st : pd_st yin p → wY_hunkStart_36 post (wY_hunkStart_4 post x1 ycp ycx yn ym yz yrl (nI L) ysp yna yhd yhr ya yb ybs yrs ytm yat yta yma yki yha yin ys0 ys1 ys2 ys3 yai yaj yal yci ycj yt (d + 1)) x1 (nI (pd_hc yin p)) (nI p) ycp ycx yn ym yz yrl (nI L) ysp yna yhd yhr ya yb ybs yrs ytm yat yta yma yki yha yin ys0 ys1 ys2 ys3 yai yaj yal yci ycj yt := fun hs => by
      refine br_c (fun c => K1 p (by omega) hs c) (fun c => ?_)
      have I := ih (p + 1) (by omega) (fun q h1 h2 => by
        by_cases e : q = p
        · subst e; exact c
        · exact hq q (by omega) h2)
      rw [pd_hc_y hs] at I
      exact nm_r (nI_1 _) (nm_r (nI_1 p) I)
    refine br_f (nI_ge (by omega) (by omega)) (And.intro (vp_in_nI (by omega) (by decide)) (br_c (fun c1 => ?_) (fun c1 => pk_eq p 0 (fun c2 => ?_) (fun c2 => And.intro (by rw [pd_s1 (by omega)]; exact vp_in_nI (by omega) (by decide)) (br_c (fun c3 => ?_) (fun c3 => ?_))))))
    · rw [z] at c1
      exact nm_r (nI_1 p) (nost (fun w => w.1 c1))
    · rw [z] at c1
      exact st ⟨c1, Or.inl c2⟩
    · rw [z] at c1
      rw [pd_s1 (by omega), nI_clamp (by omega)] at c3
      exact st ⟨c1, Or.inr c3⟩
    · rw [pd_s1 (by omega), nI_clamp (by omega)] at c3
      exact nm_r (nI_1 p) (nost (fun w => by
        rcases w.2 with w | w
        · omega
        · exact c3 w))
theorem ya_hunkStart {h s e : Nat} (hL : L ≤ 64) (hK : pd_HK yin L h s e) (K : post (nI s)) : wpY_hunkStart post (ycp, ycx, yn, ym, yz, yrl, nI L, ysp, yna, yhd, yhr, ya, yb, ybs, yrs, ytm, yat, yta, yma, yki, yha, yin, ys0, ys1, ys2, ys3, yai, yaj, yal, yci, ycj, yt) (nI h) := by
  have hc := pd_hc_le (N := yin) s
  obtain ⟨k1, k2, k3, k4, k5, k6⟩ := hK
  refine ⟨_, ya_hS4 hL (fun q q1 q2 q3 => ?_) (fun w => absurd (by rw [k4]) (w s (by omega) k3)) L 0 (by omega) (fun q h1 => absurd h1 (Nat.not_lt_zero _))⟩
  have hq := pd_hc_le (N := yin) q
  have e1 := pd_im q3 (by omega) (by omega)
  have e2 : q = s := by
    rcases Nat.lt_trichotomy q s with c | c | c
    · have := pd_hc_m (N := yin) s (q + 1) c
      rw [pd_hc_y q2] at this
      omega
    · exact c
    · have := pd_hc_m (N := yin) q (s + 1) c
      rw [pd_hc_y k3] at this
      omega
  rw [e2]
  exact K
theorem ya_hunkStart_no {x1 : Int32} (hL : L ≤ 64) (hx : x1 < 0 ∨ nI (pd_hc yin L) ≤ x1) (K : post (-1)) : wpY_hunkStart post (ycp, ycx, yn, ym, yz, yrl, nI L, ysp, yna, yhd, yhr, ya, yb, ybs, yrs, ytm, yat, yta, yma, yki, yha, yin, ys0, ys1, ys2, ys3, yai, yaj, yal, yci, ycj, yt) x1 := by
  have hno : ∀ q, q < L → pd_st yin q → ¬ nI (pd_hc yin q) = x1 := fun q q1 q2 q3 => by
    have hq := pd_hc_le (N := yin) q
    have hl := pd_hc_le (N := yin) L
    subst q3
    rcases hx with hx | hx
    · exact nI_pos (by omega) hx
    · rw [nI_leI (by omega) (by omega)] at hx
      have := pd_hc_m (N := yin) L (q + 1) q1
      rw [pd_hc_y q2] at this
      omega
  exact ⟨_, ya_hS4 hL (fun q q1 q2 q3 => absurd q3 (hno q q1 q2)) (fun _ => K) L 0 (by omega) (fun q h1 => absurd h1 (Nat.not_lt_zero _))⟩
theorem ya_hSz4 {s e : Nat} (hL : L ≤ 64) (he : e ≤ L) (h5 : ∀ q, s ≤ q → q < e → ¬ yin q = 0) (h6 : e = L ∨ yin e = 0) (K : post (nI (e - s))) : ∀ d q, q + d = e → s ≤ q → wY_hunkSize_4 post ycp ycx yn ym yz yrl (nI L) ysp yna yhd yhr ya yb ybs yrs ytm yat yta yma yki yha yin ys0 ys1 ys2 ys3 yai yaj yal yci ycj yt (d + 1) (nI (q - s)) (nI q) := by
  intro d
  induction d with
  | zero =>
    intro q hq hs
    have eq : q = e := by omega
    subst eq
    refine br_f (nI_pos (by omega)) (pk_le L q (fun _ => K) (fun c => And.intro (vp_in_nI (by omega) (by decide)) (br_t ?_ K)))
    rw [nI_clamp (by omega)]
    rcases h6 with w | w
    · omega
    · exact w
  | succ d ih =>
    intro q hq hs
    refine br_f (nI_pos (by omega)) (br_f (nI_ge (by omega) (by omega)) (And.intro (vp_in_nI (by omega) (by decide)) (br_f (by rw [nI_clamp (by omega)]; exact h5 q hs (by omega)) (nm_r (e' := nI (q + 1 - s)) (by rw [nI_1]; exact congrArg nI (by omega)) (nm_r (nI_1 q) (ih (q + 1) (by omega) (by omega)))))))
theorem ya_hunkSize {h s e : Nat} (hL : L ≤ 64) (hK : pd_HK yin L h s e) (K : post (nI (e - s))) : wpY_hunkSize post (ycp, ycx, yn, ym, yz, yrl, nI L, ysp, yna, yhd, yhr, ya, yb, ybs, yrs, ytm, yat, yta, yma, yki, yha, yin, ys0, ys1, ys2, ys3, yai, yaj, yal, yci, ycj, yt) (nI s) := by
  obtain ⟨k1, k2, k3, k4, k5, k6⟩ := hK
  have := ya_hSz4 (post := post) (ycp := ycp) (ycx := ycx) (yn := yn) (ym := ym) (yz := yz) (yrl := yrl) (ysp := ysp) (yna := yna) (yhd := yhd) (yhr := yhr) (ya := ya) (yb := yb) (ybs := ybs) (yrs := yrs) (ytm := ytm) (yat := yat) (yta := yta) (yma := yma) (yki := yki) (yha := yha) (yin := yin) (ys0 := ys0) (ys1 := ys1) (ys2 := ys2) (ys3 := ys3) (yai := yai) (yaj := yaj) (yal := yal) (yci := yci) (ycj := ycj) (yt := yt) hL k2 k5 k6 K (e - s) s (by omega) (Nat.le_refl _)
  rw [Nat.sub_self] at this
  exact ⟨_, this⟩
theorem ya_cO6 {lo hi : Nat} {sk : Int32} (hh : hi ≤ 64) (K : post (nI (pd_cs sk yki hi - pd_cs sk yki lo))) : ∀ d q, q + d = hi → lo ≤ q → wY_countOps_6 post (nI hi) sk ycp ycx yn ym yz yrl ysl ysp yna yhd yhr ya yb ybs yrs ytm yat yta yma yki yha yin ys0 ys1 ys2 ys3 yai yaj yal yci ycj yt (d + 1) (nI (pd_cs sk yki q - pd_cs sk yki lo)) (nI q) := by
  intro d
  induction d with
  | zero =>
    intro q hq hl
    have eq : q = hi := by omega
    subst eq
    exact br_t (nI_le (Nat.le_refl _) (by omega)) K
  | succ d ih =>
    intro q hq hl
    have z : (nI q).toNatClampNeg = q := nI_clamp (by omega)
    have I := ih (q + 1) (by omega) (by omega)
    have m1 := pd_cs_m (s := sk) (K := yki) q lo hl
    have s1 := pd_cs_s sk yki q
    refine br_f (nI_ge (by omega) (by omega)) (br_f (nI_ge (b := 64) (by omega) (by decide)) (br_f (nI_pos (by omega)) (And.intro (vp_in_nI (by omega) (by decide)) (br_c (fun c => ?_) (fun c => ?_)))))
    · rw [z] at c
      rw [if_pos c] at s1
      rw [show pd_cs sk yki (q + 1) - pd_cs sk yki lo = pd_cs sk yki q - pd_cs sk yki lo by omega] at I
      exact nm_r (nI_1 q) I
    · rw [z] at c
      rw [if_neg c] at s1
      exact nm_r (e' := nI (pd_cs sk yki (q + 1) - pd_cs sk yki lo)) (by rw [nI_1]; exact congrArg nI (by omega)) (nm_r (nI_1 q) I)
theorem ya_countOps {lo hi : Nat} {sk : Int32} (hl : lo ≤ hi) (hh : hi ≤ 64) (K : post (nI (pd_cs sk yki hi - pd_cs sk yki lo))) : wpY_countOps post (ycp, ycx, yn, ym, yz, yrl, ysl, ysp, yna, yhd, yhr, ya, yb, ybs, yrs, ytm, yat, yta, yma, yki, yha, yin, ys0, ys1, ys2, ys3, yai, yaj, yal, yci, ycj, yt) (nI lo) (nI hi) sk := by
  have := ya_cO6 (post := post) (lo := lo) (ycp := ycp) (ycx := ycx) (yn := yn) (ym := ym) (yz := yz) (yrl := yrl) (ysl := ysl) (ysp := ysp) (yna := yna) (yhd := yhd) (yhr := yhr) (ya := ya) (yb := yb) (ybs := ybs) (yrs := yrs) (ytm := ytm) (yat := yat) (yta := yta) (yma := yma) (yki := yki) (yha := yha) (yin := yin) (ys0 := ys0) (ys1 := ys1) (ys2 := ys2) (ys3 := ys3) (yai := yai) (yaj := yaj) (yal := yal) (yci := yci) (ycj := ycj) (yt := yt) hh K (hi - lo) lo (by omega) (Nat.le_refl _)
  rw [Nat.sub_self] at this
  exact ⟨_, this⟩
theorem ya_countOps0 {hi : Nat} {sk : Int32} (hh : hi ≤ 64) (K : post (nI (pd_cs sk yki hi))) : wpY_countOps post (ycp, ycx, yn, ym, yz, yrl, ysl, ysp, yna, yhd, yhr, ya, yb, ybs, yrs, ytm, yat, yta, yma, yki, yha, yin, ys0, ys1, ys2, ys3, yai, yaj, yal, yci, ycj, yt) 0 (nI hi) sk := by
  have := ya_countOps (post := post) (lo := 0) (hi := hi) (sk := sk) (ycp := ycp) (ycx := ycx) (yn := yn) (ym := ym) (yz := yz) (yrl := yrl) (ysl := ysl) (ysp := ysp) (yna := yna) (yhd := yhd) (yhr := yhr) (ya := ya) (yb := yb) (ybs := ybs) (yrs := yrs) (ytm := ytm) (yat := yat) (yta := yta) (yma := yma) (yki := yki) (yha := yha) (yin := yin) (ys0 := ys0) (ys1 := ys1) (ys2 := ys2) (ys3 := ys3) (yai := yai) (yaj := yaj) (yal := yal) (yci := yci) (ycj := ycj) (yt := yt) (Nat.zero_le _) hh K
  exact this
end YHU
theorem i_vc_hunkCount {k : Nat} {u : SX} {v : SY} (I : i_Rel k u v) (hk : k + 3 ≤ 1538) : wpX_hunkCount (fun r => wpY_hunkCount (fun r' => r' = r ∧ i_Rel (k + 3) u v) v) u := by
  have J : i_Rel (k + 3) u v := I
  refine pd_cases (P := fun u' v' => wpX_hunkCount (fun r => wpY_hunkCount (fun r' => r' = r ∧ i_Rel (k + 3) u v) v') u') I ?_
  intro xrc xhd xhr xpc xop xht xgc xac xol xnl xbl xrl xpa xok xoh xoi xhf xhs xho xhp xhn xhm xtp xap xg0 xg1 xg2 xg3 xao xan xar xlc yrl ysl ysp yna yrs ytm yat yta yma ys0 ys1 ys2 ys3 yai yaj yal yci ycj yt c C n m z L hB hD hR
  obtain ⟨b1, b2, b3, b4, b5, b6, b7, b8⟩ := hB
  refine br_c (fun h => br_t h ⟨rfl, J⟩) (fun h => br_f h ?_)
  obtain ⟨e1, e2, e3, e4, e5, e6⟩ := hD h
  subst e2
  have hL := e4.2.2.1
  exact ya_countHunks (by omega) ⟨by rw [e5], J⟩
theorem i_vc_hunkInfo {k : Nat} {u : SX} {v : SY} (I : i_Rel k u v) (hk : k + 3 ≤ 1538) (v1 : Int32) (v2 : Int32) : wpX_hunkInfo (fun r => wpY_hunkInfo (fun r' => r' = r ∧ i_Rel (k + 3) u v) v v1 v2) u v1 v2 := by
  have J : i_Rel (k + 3) u v := I
  refine pd_cases (P := fun u' v' => wpX_hunkInfo (fun r => wpY_hunkInfo (fun r' => r' = r ∧ i_Rel (k + 3) u v) v' v1 v2) u' v1 v2) I ?_
  intro xrc xhd xhr xpc xop xht xgc xac xol xnl xbl xrl xpa xok xoh xoi xhf xhs xho xhp xhn xhm xtp xap xg0 xg1 xg2 xg3 xao xan xar xlc yrl ysl ysp yna yrs ytm yat yta yma ys0 ys1 ys2 ys3 yai yaj yal yci ycj yt c C n m z L hB hD hR
  obtain ⟨b1, b2, b3, b4, b5, b6, b7, b8⟩ := hB
  unfold wpX_hunkInfo
  dsimp only
  by_cases h : xhd = 0
  · exact br_t h (br_t rfl (br_t h ⟨rfl, J⟩))
  · obtain ⟨e1, e2, e3, e4, e5, e6⟩ := hD h
    subst e1 e2 e5
    have hL := e4.2.2.1
    have hL64 : L ≤ 64 := by omega
    have hcl := pd_hc_le (N := xoi) L
    have bad : (v1 < 0 ∨ nI (pd_hc xoi L) ≤ v1) → wpY_hunkInfo (fun r' => r' = (-1 : Int32) ∧ i_Rel (k + 3) u v) (nI c, nI C, nI n, nI m, nI z, yrl, nI L, ysp, yna, xhd, xhr, xol, xnl, xbl, yrs, ytm, yat, yta, yma, xok, xoh, xoi, ys0, ys1, ys2, ys3, yai, yaj, yal, yci, ycj, yt) v1 v2 := fun hx =>
      br_f h (br_c (fun _ => ⟨rfl, J⟩) (fun _ => br_c (fun _ => ya_hunkStart_no hL64 hx (br_f (by decide) ⟨rfl, J⟩)) (fun _ => ⟨rfl, J⟩)))
    refine br_f h (br_c (fun h1 => br_t rfl (bad (Or.inl h1))) (fun h1 => br_c (fun h2 => br_t rfl (bad (Or.inr h2))) (fun h2 => br_f (by decide) ?_)))
    obtain ⟨x, hx, rfl⟩ := nI_of h1
    have hxh : x < pd_hc xoi L := by
      have : ¬ pd_hc xoi L ≤ x := fun w => h2 (nI_le w hx)
      omega
    have vx : vp_in (nI x) 64 := vp_in_nI (by omega) (by decide)
    have zx : (nI x).toNatClampNeg = x := nI_clamp hx
    obtain ⟨s, e, hK, g1, g2, g3, g4, g5, g6⟩ := e6.1 x hxh
    have hse := hK.1
    have heL := hK.2.1
    have es : nI s + nI (e - s) = nI e := by rw [nI_add]; exact congrArg nI (by omega)
    refine br_c (fun f0 => br_f h (br_t f0 ⟨rfl, J⟩)) (fun f0 => br_c (fun f1 => br_f h (br_f f0 (br_f (Int32.not_le.mpr f1) ⟨rfl, J⟩))) (fun f1 => ?_))
    have f1' : v2 ≤ 5 := Int32.not_lt.mp f1
    refine br_c (fun q0 => And.intro vx ?_) (fun q0 => br_c (fun q1 => And.intro vx ?_) (fun q1 => br_c (fun q2 => And.intro vx ?_) (fun q2 => br_c (fun q3 => And.intro vx ?_) (fun q3 => br_c (fun q4 => And.intro vx ?_) (fun q4 => br_c (fun q5 => br_c (fun w => ?_) (fun w => And.intro vx ?_)) (fun q5 => trivial))))))
    · refine br_f h (br_f f0 (br_t f1' (ya_hunkStart hL64 hK (br_t (nI_pos' (by omega)) (ya_hunkSize hL64 hK (br_t q0 (ya_countOps0 (by omega) ⟨?_, J⟩)))))))
      rw [zx, g3]
    · refine br_f h (br_f f0 (br_t f1' (ya_hunkStart hL64 hK (br_t (nI_pos' (by omega)) (ya_hunkSize hL64 hK (br_f q0 (br_t q1 ?_)))))))
      rw [es]
      exact ya_countOps (by omega) (by omega) ⟨by rw [zx, g4], J⟩
    · refine br_f h (br_f f0 (br_t f1' (ya_hunkStart hL64 hK (br_t (nI_pos' (by omega)) (ya_hunkSize hL64 hK (br_f q0 (br_f q1 (br_t q2 (ya_countOps0 (by omega) ⟨?_, J⟩)))))))))
      rw [zx, g5]
    · refine br_f h (br_f f0 (br_t f1' (ya_hunkStart hL64 hK (br_t (nI_pos' (by omega)) (ya_hunkSize hL64 hK (br_f q0 (br_f q1 (br_f q2 (br_t q3 ?_)))))))))
      rw [es]
      exact ya_countOps (by omega) (by omega) ⟨by rw [zx, g6], J⟩
    · exact br_f h (br_f f0 (br_t f1' (ya_hunkStart hL64 hK (br_t (nI_pos' (by omega)) (ya_hunkSize hL64 hK (br_f q0 (br_f q1 (br_f q2 (br_f q3 (br_t q4 ⟨by rw [zx, g2], J⟩))))))))))
    · exact br_f h (br_f f0 (br_t f1' (ya_hunkStart hL64 hK (br_t (nI_pos' (by omega)) (ya_hunkSize hL64 hK (br_f q0 (br_f q1 (br_f q2 (br_f q3 (br_f q4 (br_t w ⟨rfl, J⟩)))))))))))
    · obtain ⟨_, r, r1, r2, r3, r4, r5⟩ := hR w
      exact br_f h (br_f f0 (br_t f1' (ya_hunkStart hL64 hK (br_t (nI_pos' (by omega)) (ya_hunkSize hL64 hK (br_f q0 (br_f q1 (br_f q2 (br_f q3 (br_f q4 (br_f w (And.intro vx ⟨by rw [zx, r5 x hxh], J⟩))))))))))))
