/-! X: includeAfterChanges, includeBeforeChanges, cutHunks -/
section XIN
variable {xcp xcx xoc xnc xbc xrc xhd xhr xpc xop xht xgc xac : Int32} {xol xnl xbl xrl xpa xok xoh xoi xhf xhs xho xhp xhn xhm xtp xap xg0 xg1 xg2 xg3 xao xan xar xlc : Nat → Int32}
variable {post : St2 → Prop} {C L : Nat}
theorem xa_ia4 (hC : C ≤ 3) (hL : L ≤ 64)
    (k : ∀ I, (∀ q, q < L → pd_tf (I q) (¬ xok q = 0 ∨ pd_bf xok C q)) → (∀ q, L ≤ q → I q = xoi q) → post (xcp, nI C, xoc, xnc, xbc, xrc, xhd, xhr, xpc, nI L, xht, xgc, xac, xol, xnl, xbl, xrl, xpa, xok, xoh, I, xhf, xhs, xho, xhp, xhn, xhm, xtp, xap, xg0, xg1, xg2, xg3, xao, xan, xar, xlc)) :
    ∀ d p c e I, p + d = L → pd_kb xok C p c e → (∀ q, q < p → pd_tf (I q) (¬ xok q = 0 ∨ pd_bf xok C q)) → (∀ q, L ≤ q → I q = xoi q) →
    wX_includeAfterChanges_4 post xcp (nI C) xoc xnc xbc xrc xhd xhr xpc (nI L) xht xgc xac (d + 1) (nI c - nI e) (nI p) xol xnl xbl xrl xpa xok xoh I xhf xhs xho xhp xhn xhm xtp xap xg0 xg1 xg2 xg3 xao xan xar xlc := by
  intro d
  induction d with
  | zero =>
    intro p c e I hp hk hI hI2
    have ep : p = L := by omega
    subst ep
    exact br_t (nI_le (Nat.le_refl _) (by omega)) (k I hI hI2)
  | succ d ih =>
    intro p c e I hp hk hI hI2
    have z : (nI p).toNatClampNeg = p := nI_clamp (by omega)
    have v : vp_in (nI p) 64 := vp_in_nI (by omega) (by decide)
    have hb := pd_kb_b hk
    have hf := pd_kb_f hk
    have hd := pd_dle (c := c) (e := e) (by omega) (by omega)
    have up : ∀ x, pd_tf x (¬ xok p = 0 ∨ pd_bf xok C p) → ∀ q, q < p + 1 → pd_tf (upd I p x q) (¬ xok q = 0 ∨ pd_bf xok C q) := fun x hx q hq => by
      by_cases c1 : q = p
      · subst c1; rw [pk_us]; exact hx
      · rw [pk_un c1]; exact hI q (by omega)
    have up2 : ∀ x, ∀ q, L ≤ q → upd I p x q = xoi q := fun x q hq => by
      rw [pk_un (by omega)]; exact hI2 q hq
    refine br_f (nI_ge (by omega) (by omega)) (And.intro v (br_c (fun c1 => ?_) (fun c1 => ?_)))
    · rw [z] at c1
      refine br_c (fun c2 => ?_) (fun c2 => ?_)
      · have c3 : ¬ e < c := by have := hd.mp c2; omega
        refine And.intro v (nm_r (e' := upd I p 0) (by rw [z]) (nm_r (pd_dm1 c e) (nm_r (nI_1 p) (ih (p + 1) c (e + 1) _ (by omega) (pd_kb_s hk c1) (up 0 ⟨fun w => ?_, fun _ => rfl⟩) (up2 0)))))
        rcases w with w | w
        · exact absurd c1 w
        · exact absurd (hf.mpr w) c3
      · have c3 : e < c := by
          have : ¬ c ≤ e := fun w => c2 (hd.mpr w)
          omega
        exact And.intro v (nm_r (e' := upd I p 1) (by rw [z]) (nm_r (pd_dm1 c e) (nm_r (nI_1 p) (ih (p + 1) c (e + 1) _ (by omega) (pd_kb_s hk c1) (up 1 ⟨fun _ => rfl, fun w => absurd (Or.inr (hf.mp c3)) w⟩) (up2 1)))))
    · rw [z] at c1
      have := ih (p + 1) C 0 (upd I p 1) (by omega) (pd_kb_c c1) (up 1 ⟨fun _ => rfl, fun w => absurd (Or.inl c1) w⟩) (up2 1)
      rw [pd_d0] at this
      exact And.intro v (nm_r (e' := upd I p 1) (by rw [z]) (nm_r (nI_1 p) this))
theorem xa_incA (hC : C ≤ 3) (hL : L ≤ 64)
    (k : ∀ I, (∀ q, q < L → pd_tf (I q) (¬ xok q = 0 ∨ pd_bf xok C q)) → (∀ q, L ≤ q → I q = xoi q) → post (xcp, nI C, xoc, xnc, xbc, xrc, xhd, xhr, xpc, nI L, xht, xgc, xac, xol, xnl, xbl, xrl, xpa, xok, xoh, I, xhf, xhs, xho, xhp, xhn, xhm, xtp, xap, xg0, xg1, xg2, xg3, xao, xan, xar, xlc)) : wpX_includeAfterChanges post (xcp, nI C, xoc, xnc, xbc, xrc, xhd, xhr, xpc, nI L, xht, xgc, xac, xol, xnl, xbl, xrl, xpa, xok, xoh, xoi, xhf, xhs, xho, xhp, xhn, xhm, xtp, xap, xg0, xg1, xg2, xg3, xao, xan, xar, xlc) := by
  have := xa_ia4 hC hL k L 0 0 0 xoi (by omega) pd_kb_0 (fun q hq => absurd hq (Nat.not_lt_zero _)) (fun q _ => rfl)
  rw [pd_d0] at this
  exact ⟨_, this⟩
theorem xa_ib9 {I0 : Nat → Int32} (hC : C ≤ 3) (hL : L ≤ 64)
    (k : ∀ I, (∀ q, q < L → pd_tf (I q) (pd_nc xok C L q)) → (∀ q, L ≤ q → I q = I0 q) → post (xcp, nI C, xoc, xnc, xbc, xrc, xhd, xhr, xpc, nI L, xht, xgc, xac, xol, xnl, xbl, xrl, xpa, xok, xoh, I, xhf, xhs, xho, xhp, xhn, xhm, xtp, xap, xg0, xg1, xg2, xg3, xao, xan, xar, xlc)) :
    ∀ r c e I, r ≤ L → pd_ka xok C L r c e → (∀ q, q < r → pd_tf (I q) (¬ xok q = 0 ∨ pd_bf xok C q)) → (∀ q, r ≤ q → q < L → pd_tf (I q) (pd_nc xok C L q)) → (∀ q, L ≤ q → I q = I0 q) →
    wX_includeBeforeChanges_9 post xcp (nI C) xoc xnc xbc xrc xhd xhr xpc (nI L) xht xgc xac (r + 1) (nI c - nI e) (nI r - 1) xol xnl xbl xrl xpa xok xoh I xhf xhs xho xhp xhn xhm xtp xap xg0 xg1 xg2 xg3 xao xan xar xlc := by
  intro r
  induction r with
  | zero =>
    intro c e I hr hk h1 h2 h3
    exact br_t (by decide) (k I (fun q hq => h2 q (Nat.zero_le _) hq) h3)
  | succ r ih =>
    intro c e I hr hk h1 h2 h3
    have z : (nI r).toNatClampNeg = r := nI_clamp (by omega)
    have v : vp_in (nI r) 64 := vp_in_nI (by omega) (by decide)
    have hb := pd_ka_b hk
    have hf := pd_ka_f hk
    have hd := pd_dle (c := c) (e := e) (by omega) (by omega)
    rw [nI_pred]
    refine br_f (nI_pos (by omega)) (And.intro v (br_c (fun c1 => ?_) (fun c1 => ?_)))
    · rw [z] at c1
      refine br_c (fun c2 => ?_) (fun c2 => ?_)
      · have c3 : ¬ e < c := by have := hd.mp c2; omega
        refine nm_r (pd_dm1 c e) (nm_r (pd_sub1 _) (ih c (e + 1) I (by omega) (pd_ka_s hk (by omega) c1) (fun q hq => h1 q (by omega)) (fun q q1 q2 => ?_) h3))
        by_cases cq : q = r
        · subst cq
          refine pd_tf_c (h1 q (by omega)) ⟨fun w => ?_, fun w => ?_⟩
          · rcases w with w | w
            · exact Or.inl w
            · exact Or.inr (Or.inl w)
          · rcases w with w | w | w
            · exact Or.inl w
            · exact Or.inr w
            · exact absurd (hf.mpr w) c3
        · exact h2 q (by omega) q2
      · have c3 : e < c := by
          have : ¬ c ≤ e := fun w => c2 (hd.mpr w)
          omega
        refine And.intro v (nm_r (e' := upd I r 1) (by rw [z]) (nm_r (pd_dm1 c e) (nm_r (pd_sub1 _) (ih c (e + 1) _ (by omega) (pd_ka_s hk (by omega) c1) (fun q hq => ?_) (fun q q1 q2 => ?_) (fun q hq => ?_)))))
        · rw [pk_un (by omega)]; exact h1 q (by omega)
        · by_cases cq : q = r
          · subst cq
            rw [pk_us]
            exact ⟨fun _ => rfl, fun w => absurd (Or.inr (Or.inr (hf.mp c3))) w⟩
          · rw [pk_un cq]; exact h2 q (by omega) q2
        · rw [pk_un (by omega)]; exact h3 q hq
    · rw [z] at c1
      have := ih C 0 I (by omega) (pd_ka_c (by omega) c1) (fun q hq => h1 q (by omega)) (fun q q1 q2 => by
        by_cases cq : q = r
        · subst cq
          exact ⟨fun _ => (h1 q (by omega)).1 (Or.inl c1), fun w => absurd (Or.inl c1) w⟩
        · exact h2 q (by omega) q2) h3
      rw [pd_d0] at this
      exact nm_r (pd_sub1 _) this
theorem xa_incB (hC : C ≤ 3) (hL : L ≤ 64) (h1 : ∀ q, q < L → pd_tf (xoi q) (¬ xok q = 0 ∨ pd_bf xok C q))
    (k : ∀ I, (∀ q, q < L → pd_tf (I q) (pd_nc xok C L q)) → (∀ q, L ≤ q → I q = xoi q) → post (xcp, nI C, xoc, xnc, xbc, xrc, xhd, xhr, xpc, nI L, xht, xgc, xac, xol, xnl, xbl, xrl, xpa, xok, xoh, I, xhf, xhs, xho, xhp, xhn, xhm, xtp, xap, xg0, xg1, xg2, xg3, xao, xan, xar, xlc)) : wpX_includeBeforeChanges post (xcp, nI C, xoc, xnc, xbc, xrc, xhd, xhr, xpc, nI L, xht, xgc, xac, xol, xnl, xbl, xrl, xpa, xok, xoh, xoi, xhf, xhs, xho, xhp, xhn, xhm, xtp, xap, xg0, xg1, xg2, xg3, xao, xan, xar, xlc) := by
  have := xa_ib9 (I0 := xoi) hC hL k L 0 0 xoi (Nat.le_refl _) pd_ka_0 h1 (fun q q1 q2 => by omega) (fun q _ => rfl)
  rw [pd_d0] at this
  exact nm_e ⟨_, this⟩
/-- the last hunk grows by one op -/
theorem xa_grow {H : Nat} {p0 p1 : Int32} (hH : H < 64) (k : post (xcp, xcx, xoc, xnc, xbc, xrc, xhd, xhr, xpc, xop, nI (H + 1), xgc, xac, xol, xnl, xbl, xrl, xpa, xok, xoh, xoi, xhf, upd xhs H (xhs H + 1), xho, upd xhp H (xhp H + p0), xhn, upd xhm H (xhm H + p1), xtp, xap, xg0, xg1, xg2, xg3, xao, xan, xar, xlc)) : wpX_growLastHunk post (xcp, xcx, xoc, xnc, xbc, xrc, xhd, xhr, xpc, xop, nI (H + 1), xgc, xac, xol, xnl, xbl, xrl, xpa, xok, xoh, xoi, xhf, xhs, xho, xhp, xhn, xhm, xtp, xap, xg0, xg1, xg2, xg3, xao, xan, xar, xlc) p0 p1 := by
  have z : (nI H).toNatClampNeg = H := nI_clamp (by omega)
  have v : vp_in (nI H) 64 := vp_in_nI hH (by decide)
  exact nm_r (nI_pred H) (And.intro v (And.intro v (nm_r (e' := upd xhs H (xhs H + 1)) (by rw [z]) (And.intro v (And.intro v (nm_r (e' := upd xhp H (xhp H + p0)) (by rw [z]) (And.intro v (And.intro v (nm_r (e' := upd xhm H (xhm H + p1)) (by rw [z]) k)))))))))
theorem xa_open {H : Nat} {p0 p1 p2 : Int32} (hH : H < 64) (k : post (xcp, xcx, xoc, xnc, xbc, xrc, xhd, xhr, xpc, xop, nI (H + 1), xgc, xac, xol, xnl, xbl, xrl, xpa, xok, xoh, xoi, upd xhf H p0, upd xhs H 0, upd xho H p1, upd xhp H 0, upd xhn H p2, upd xhm H 0, xtp, xap, xg0, xg1, xg2, xg3, xao, xan, xar, xlc)) : wpX_openHunk post (xcp, xcx, xoc, xnc, xbc, xrc, xhd, xhr, xpc, xop, nI H, xgc, xac, xol, xnl, xbl, xrl, xpa, xok, xoh, xoi, xhf, xhs, xho, xhp, xhn, xhm, xtp, xap, xg0, xg1, xg2, xg3, xao, xan, xar, xlc) p0 p1 p2 := by
  have z : (nI H).toNatClampNeg = H := nI_clamp (by omega)
  have v : vp_in (nI H) 64 := vp_in_nI hH (by decide)
  exact And.intro v (nm_r (e' := upd xhf H p0) (by rw [z]) (And.intro v (nm_r (e' := upd xhs H 0) (by rw [z]) (And.intro v (nm_r (e' := upd xho H p1) (by rw [z]) (And.intro v (nm_r (e' := upd xhp H 0) (by rw [z]) (And.intro v (nm_r (e' := upd xhn H p2) (by rw [z]) (And.intro v (nm_r (e' := upd xhm H 0) (by rw [z]) (nm_r (nI_1 H) k))))))))))))
/-- one op of cutHunks, its steps known -/
theorem xa_cut57 {J14 : Int32 → Int32 → Int32 → Int32 → Int32 → Int32 → Int32 → Int32 → Int32 → Int32 → Int32 → Int32 → Int32 → Int32 → Int32 → Int32 → Int32 → (Nat → Int32) → (Nat → Int32) → (Nat → Int32) → (Nat → Int32) → (Nat → Int32) → (Nat → Int32) → (Nat → Int32) → (Nat → Int32) → (Nat → Int32) → (Nat → Int32) → (Nat → Int32) → (Nat → Int32) → (Nat → Int32) → (Nat → Int32) → (Nat → Int32) → (Nat → Int32) → (Nat → Int32) → (Nat → Int32) → (Nat → Int32) → (Nat → Int32) → (Nat → Int32) → (Nat → Int32) → (Nat → Int32) → (Nat → Int32) → Prop} {p o w : Nat} {x3 : Int32} (hp : p < L) (hL : L ≤ 64) (ho : o = pd_cs 2 xok (p + 1) - pd_cs 2 xok p) (hw : w = pd_cs 1 xok (p + 1) - pd_cs 1 xok p)
    (h3 : p = 0 ∧ x3 = 0 ∨ 0 < p ∧ x3 = xoi (p - 1)) (hI : pd_hI xok xoi p xhf xhs xho xhp xhn xhm)
    (k : ∀ F S O P B Q, pd_hI xok xoi (p + 1) F S O P B Q → J14 (nI (pd_cs 2 xok (p + 1))) (nI (pd_cs 1 xok (p + 1))) (xoi p) (nI (p + 1)) xcp xcx xoc xnc xbc xrc xhd xhr xpc xop (nI (pd_hc xoi (p + 1))) xgc xac xol xnl xbl xrl xpa xok xoh xoi F S O P B Q xtp xap xg0 xg1 xg2 xg3 xao xan xar xlc) :
    wX_cutHunks_57 post J14 (nI (pd_cs 2 xok p)) (nI (pd_cs 1 xok p)) x3 (nI p) (nI o) (nI w) xcp xcx xoc xnc xbc xrc xhd xhr xpc xop (nI (pd_hc xoi p)) xgc xac xol xnl xbl xrl xpa xok xoh xoi xhf xhs xho xhp xhn xhm xtp xap xg0 xg1 xg2 xg3 xao xan xar xlc := by
  have z : (nI p).toNatClampNeg = p := nI_clamp (by omega)
  have v : vp_in (nI p) 64 := vp_in_nI (by omega) (by decide)
  have hc := pd_hc_le (N := xoi) p
  have m1 := pd_cs_m (s := 2) (K := xok) (p + 1) p (by omega)
  have m2 := pd_cs_m (s := 1) (K := xok) (p + 1) p (by omega)
  have a1 : nI (pd_cs 2 xok p) + nI o = nI (pd_cs 2 xok (p + 1)) := by rw [nI_add]; exact congrArg nI (by omega)
  have a2 : nI (pd_cs 1 xok p) + nI w = nI (pd_cs 1 xok (p + 1)) := by rw [nI_add]; exact congrArg nI (by omega)
  refine And.intro v (br_c (fun c1 => ?_) (fun c1 => ?_))
  · rw [z] at c1
    obtain ⟨q1, q2⟩ := pd_hI_n hI c1
    have K := k _ _ _ _ _ _ q2
    rw [q1] at K
    exact And.intro v (nm_r (by rw [z]) (nm_r a1 (nm_r a2 (nm_r (nI_1 p) K))))
  · rw [z] at c1
    refine br_c (fun c2 => ?_) (fun c2 => ?_)
    · have hst : pd_st xoi p := by
        refine ⟨c1, ?_⟩
        rcases h3 with h3 | h3
        · exact Or.inl h3.1
        · exact Or.inr (by rw [← h3.2]; exact c2)
      refine xa_open (by omega) ?_
      dsimp only
      refine xa_grow (by omega) ?_
      dsimp only
      obtain ⟨q1, q2⟩ := pd_hI_o (K := xok) (N := xoi) (p := p) (F' := upd xhf (pd_hc xoi p) (nI p)) (S' := upd (upd xhs (pd_hc xoi p) 0) (pd_hc xoi p) (upd xhs (pd_hc xoi p) 0 (pd_hc xoi p) + 1)) (O' := upd xho (pd_hc xoi p) (nI (pd_cs 2 xok p))) (P' := upd (upd xhp (pd_hc xoi p) 0) (pd_hc xoi p) (upd xhp (pd_hc xoi p) 0 (pd_hc xoi p) + nI o)) (B' := upd xhn (pd_hc xoi p) (nI (pd_cs 1 xok p))) (Q' := upd (upd xhm (pd_hc xoi p) 0) (pd_hc xoi p) (upd xhm (pd_hc xoi p) 0 (pd_hc xoi p) + nI w)) hI hst (fun x hx => by
        rw [pk_un hx, pk_un hx, pk_un hx, pk_un hx, pk_un hx, pk_un hx, pk_un hx, pk_un hx, pk_un hx]
        exact ⟨rfl, rfl, rfl, rfl, rfl, rfl⟩) (by
        rw [pk_us, pk_us, pk_us, pk_us, pk_us, pk_us, pk_us, pk_us, pk_us, Int32.zero_add, Int32.zero_add, Int32.zero_add, ho, hw]
        exact ⟨rfl, rfl, rfl, rfl, rfl, rfl⟩)
      have K := k _ _ _ _ _ _ q2
      rw [q1] at K
      exact And.intro v (nm_r (by rw [z]) (nm_r a1 (nm_r a2 (nm_r (nI_1 p) K))))
    · have hp0 : 0 < p ∧ x3 = xoi (p - 1) := by
        rcases h3 with h3 | h3
        · exact absurd h3.2 c2
        · exact h3
      rw [hp0.2] at c2
      obtain ⟨H, s, e1, e2⟩ := hI.2 hp0.1 c2
      rw [e1]
      refine xa_grow (by omega) ?_
      dsimp only
      obtain ⟨q1, q2⟩ := pd_hI_g (K := xok) (N := xoi) (p := p) (H := H) (S' := upd xhs H (xhs H + 1)) (P' := upd xhp H (xhp H + nI o)) (Q' := upd xhm H (xhm H + nI w)) hI c1 hp0.1 c2 e1 (fun x hx => by
        rw [pk_un hx, pk_un hx, pk_un hx]
        exact ⟨rfl, rfl, rfl⟩) (by
        rw [pk_us, pk_us, pk_us, ho, hw]
        exact ⟨rfl, rfl, rfl⟩)
      have K := k _ _ _ _ _ _ q2
      rw [q1, e1] at K
      exact And.intro v (nm_r (by rw [z]) (nm_r a1 (nm_r a2 (nm_r (nI_1 p) K))))
theorem xa_cut14 (hL : L ≤ 64)
    (k : ∀ F S O P B Q, pd_hI xok xoi L F S O P B Q → post (xcp, xcx, xoc, xnc, xbc, xrc, xhd, xhr, xpc, nI L, nI (pd_hc xoi L), xgc, xac, xol, xnl, xbl, xrl, xpa, xok, xoh, xoi, F, S, O, P, B, Q, xtp, xap, xg0, xg1, xg2, xg3, xao, xan, xar, xlc)) :
    ∀ d p x3 F S O P B Q, p + d = L → (p = 0 ∧ x3 = 0 ∨ 0 < p ∧ x3 = xoi (p - 1)) → pd_hI xok xoi p F S O P B Q →
    wX_cutHunks_14 post (d + 1) (nI (pd_cs 2 xok p)) (nI (pd_cs 1 xok p)) x3 (nI p) xcp xcx xoc xnc xbc xrc xhd xhr xpc (nI L) (nI (pd_hc xoi p)) xgc xac xol xnl xbl xrl xpa xok xoh xoi F S O P B Q xtp xap xg0 xg1 xg2 xg3 xao xan xar xlc := by
  intro d
  induction d with
  | zero =>
    intro p x3 F S O P B Q hp h3 hI
    have ep : p = L := by omega
    subst ep
    exact br_t (nI_le (Nat.le_refl _) (by omega)) (k F S O P B Q hI)
  | succ d ih =>
    intro p x3 F S O P B Q hp h3 hI
    have z : (nI p).toNatClampNeg = p := nI_clamp (by omega)
    have v : vp_in (nI p) 64 := vp_in_nI (by omega) (by decide)
    have kk : ∀ F S O P B Q, pd_hI xok xoi (p + 1) F S O P B Q → wX_cutHunks_14 post (d + 1) (nI (pd_cs 2 xok (p + 1))) (nI (pd_cs 1 xok (p + 1))) (xoi p) (nI (p + 1)) xcp xcx xoc xnc xbc xrc xhd xhr xpc (nI L) (nI (pd_hc xoi (p + 1))) xgc xac xol xnl xbl xrl xpa xok xoh xoi F S O P B Q xtp xap xg0 xg1 xg2 xg3 xao xan xar xlc := fun F S O P B Q h => ih (p + 1) (xoi p) F S O P B Q (by omega) (Or.inr ⟨by omega, rfl⟩) h
    have g : ∀ o w, o = pd_cs 2 xok (p + 1) - pd_cs 2 xok p → w = pd_cs 1 xok (p + 1) - pd_cs 1 xok p → wX_cutHunks_57 post (wX_cutHunks_14 post (d + 1)) (nI (pd_cs 2 xok p)) (nI (pd_cs 1 xok p)) x3 (nI p) (nI o) (nI w) xcp xcx xoc xnc xbc xrc xhd xhr xpc (nI L) (nI (pd_hc xoi p)) xgc xac xol xnl xbl xrl xpa xok xoh xoi F S O P B Q xtp xap xg0 xg1 xg2 xg3 xao xan xar xlc := fun o w ho hw => xa_cut57 (L := L) (by omega) hL ho hw h3 hI kk
    have s2 := pd_cs_s 2 xok p
    have s1 := pd_cs_s 1 xok p
    refine br_f (nI_ge (by omega) (by omega)) (And.intro v (br_c (fun c1 => And.intro v (br_c (fun c2 => ?_) (fun c2 => ?_))) (fun c1 => And.intro v (br_c (fun c2 => ?_) (fun c2 => ?_)))))
    · rw [z] at c1 c2
      rw [if_pos c1] at s2
      rw [if_pos c2] at s1
      exact g 0 0 (by omega) (by omega)
    · rw [z] at c1 c2
      rw [if_pos c1] at s2
      rw [if_neg c2] at s1
      exact g 0 1 (by omega) (by omega)
    · rw [z] at c1 c2
      rw [if_neg c1] at s2
      rw [if_pos c2] at s1
      exact g 1 0 (by omega) (by omega)
    · rw [z] at c1 c2
      rw [if_neg c1] at s2
      rw [if_neg c2] at s1
      exact g 1 1 (by omega) (by omega)
theorem xa_cut (hL : L ≤ 64)
    (k : ∀ F S O P B Q, pd_hI xok xoi L F S O P B Q → post (xcp, xcx, xoc, xnc, xbc, xrc, xhd, xhr, xpc, nI L, nI (pd_hc xoi L), xgc, xac, xol, xnl, xbl, xrl, xpa, xok, xoh, xoi, F, S, O, P, B, Q, xtp, xap, xg0, xg1, xg2, xg3, xao, xan, xar, xlc)) : wpX_cutHunks post (xcp, xcx, xoc, xnc, xbc, xrc, xhd, xhr, xpc, nI L, xht, xgc, xac, xol, xnl, xbl, xrl, xpa, xok, xoh, xoi, xhf, xhs, xho, xhp, xhn, xhm, xtp, xap, xg0, xg1, xg2, xg3, xao, xan, xar, xlc) :=
  ⟨_, xa_cut14 hL k L 0 0 xhf xhs xho xhp xhn xhm (by omega) (Or.inl ⟨rfl, rfl⟩) pd_hI_0⟩
end XIN
