/-! X: matchLines, the script -/
section XML
variable {xcp xcx xoc xnc xbc xrc xhd xhr xpc xop xht xgc xac : Int32} {xol xnl xbl xrl xpa xok xoh xoi xhf xhs xho xhp xhn xhm xtp xap xg0 xg1 xg2 xg3 xao xan xar xlc : Nat → Int32}
variable {post : St2 → Prop} {n m : Nat} {V0 : Nat → Option Nat}
theorem xa_ml49 (hn : n ≤ 32) (hm : m ≤ 32)
    (K : ∀ M G0 G1 G2 G3 AO AN AR T ac gc, (∀ x, x < n → M x = pd_e (V0 x)) → post (xcp, xcx, xoc, xnc, xbc, xrc, xhd, xhr, nI (pd_cm M n), xop, xht, gc, ac, xol, xnl, xbl, xrl, M, xok, xoh, xoi, xhf, xhs, xho, xhp, xhn, xhm, xtp, xap, G0, G1, G2, G3, AO, AN, AR, T)) :
    ∀ k g G gp M G0 G1 G2 G3 AO AN AR T ac, g + k = 65 → g ≤ G → pd_I xol xnl n m V0 g G gp 0 0 M → G + 2 * pd_sm gp G ≤ 65 + 2 * pd_sm gp g → pd_rp g G gp G0 G1 G2 G3 →
    wX_matchLines_49 post (k + 1) (nI g) xcp xcx xoc xnc xbc xrc xhd xhr (nI (pd_cm M n)) xop xht (nI G) ac xol xnl xbl xrl M xok xoh xoi xhf xhs xho xhp xhn xhm xtp xap G0 G1 G2 G3 AO AN AR T := by
  intro k
  induction k with
  | zero =>
    intro g G gp M G0 G1 G2 G3 AO AN AR T ac hk hG hI hS hR
    have hm := pd_sm_m (gp := gp) G g hG
    exact pk_le 65 g (fun c => K M _ _ _ _ _ _ _ _ _ _ (fun x hx => pd_I_fin hI (Nat.le_refl 0) (by omega) hx)) (fun c => absurd c (by omega))
  | succ k ih =>
    intro g G gp M G0 G1 G2 G3 AO AN AR T ac hk hG hI hS hR
    have hm := pd_sm_m (gp := gp) G g hG
    refine pk_le 65 g (fun c => absurd c (by omega)) (fun c => pk_le G g (fun c2 => K M _ _ _ _ _ _ _ _ _ _ (fun x hx => pd_I_fin hI (Nat.le_refl 0) (by omega) hx)) (fun c2 => ?_))
    refine xa_refine (n := n) (m := m) (V0 := V0) (gp := gp) c c2 hn (by omega) hI hR hS (fun G' gp' M' G0' G1' G2' G3' AO' AN' AR' T' ac' q1 q2 q3 q4 => ?_)
    dsimp only
    exact nm_r (nI_1 g) (ih (g + 1) G' gp' M' _ _ _ _ _ _ _ _ _ (by omega) q2 q1 q3 q4)
theorem pd_cm_0 {M : Nat → Int32} : ∀ k, (∀ x, x < k → M x = -1) → pd_cm M k = 0 := by
  intro k
  induction k with
  | zero => intro _; rfl
  | succ k ih =>
    intro h
    rw [pd_cm_s, ih (fun x hx => h x (by omega)), if_pos (h k (by omega))]
theorem xa_ml7 (hn : n ≤ 32) (hm : m ≤ 32) (hV : pd_gk xol xnl n m V0 (0, n, 0, m))
    (K : ∀ M G0 G1 G2 G3 AO AN AR T ac gc, (∀ x, x < n → M x = pd_e (V0 x)) → post (xcp, xcx, nI n, nI m, xbc, xrc, xhd, xhr, nI (pd_cm M n), xop, xht, gc, ac, xol, xnl, xbl, xrl, M, xok, xoh, xoi, xhf, xhs, xho, xhp, xhn, xhm, xtp, xap, G0, G1, G2, G3, AO, AN, AR, T)) :
    ∀ d i M, i + d = n → (∀ x, x < i → M x = -1) → wX_matchLines_7 post xcp xcx (nI n) (nI m) xbc xrc xhd xhr 0 xop xht xgc xac (d + 1) (nI i) xol xnl xbl xrl M xok xoh xoi xhf xhs xho xhp xhn xhm xtp xap xg0 xg1 xg2 xg3 xao xan xar xlc := by
  intro d
  induction d with
  | zero =>
    intro i M hi hM
    have ei : i = n := by omega
    subst ei
    refine br_t (nI_le (Nat.le_refl _) (by omega)) (xa_addGap (G := 0) (by decide) ?_)
    dsimp only
    have h0 : pd_cm M i = 0 := pd_cm_0 i hM
    have hR : pd_rp 0 1 (fun _ => (0, i, 0, m)) (upd xg0 0 0) (upd xg1 0 (nI i)) (upd xg2 0 0) (upd xg3 0 (nI m)) := fun q q1 q2 => by
      have eq : q = 0 := by omega
      subst eq
      rw [pk_us, pk_us, pk_us, pk_us]
      exact ⟨rfl, rfl, rfl, rfl⟩
    have := xa_ml49 (post := post) (xoc := nI i) (xnc := nI m) (n := i) (m := m) (V0 := V0) (xcp := xcp) (xcx := xcx) (xbc := xbc) (xrc := xrc) (xhd := xhd) (xhr := xhr) (xop := xop) (xht := xht) (xol := xol) (xnl := xnl) (xbl := xbl) (xrl := xrl) (xok := xok) (xoh := xoh) (xoi := xoi) (xhf := xhf) (xhs := xhs) (xho := xho) (xhp := xhp) (xhn := xhn) (xhm := xhm) (xtp := xtp) (xap := xap) hn hm K 65 0 1 (fun _ => (0, i, 0, m)) M (upd xg0 0 0) (upd xg1 0 (nI i)) (upd xg2 0 0) (upd xg3 0 (nI m)) xao xan xar xlc xac rfl (Nat.zero_le _) (pd_I_0 hM hV) (by
      show 1 + 2 * (0 + (i - 0)) ≤ 65 + 2 * 0
      omega) hR
    rw [h0] at this
    exact ⟨_, this⟩
  | succ d ih =>
    intro i M hi hM
    have z : (nI i).toNatClampNeg = i := nI_clamp (by omega)
    refine br_f (nI_ge (by omega) (by omega)) (And.intro (vp_in_nI (by omega) (by decide)) (nm_r (e' := upd M i (-1)) (by rw [z]) (nm_r (nI_1 i) (ih (i + 1) _ (by omega) (fun x hx => ?_)))))
    by_cases e : x = i
    · subst e; rw [pk_us]
    · rw [pk_un e]; exact hM x (by omega)
theorem xa_matchLines (hn : n ≤ 32) (hm : m ≤ 32) (hV : pd_gk xol xnl n m V0 (0, n, 0, m))
    (K : ∀ M G0 G1 G2 G3 AO AN AR T ac gc, (∀ x, x < n → M x = pd_e (V0 x)) → post (xcp, xcx, nI n, nI m, xbc, xrc, xhd, xhr, nI (pd_cm M n), xop, xht, gc, ac, xol, xnl, xbl, xrl, M, xok, xoh, xoi, xhf, xhs, xho, xhp, xhn, xhm, xtp, xap, G0, G1, G2, G3, AO, AN, AR, T)) : wpX_matchLines post (xcp, xcx, nI n, nI m, xbc, xrc, xhd, xhr, xpc, xop, xht, xgc, xac, xol, xnl, xbl, xrl, xpa, xok, xoh, xoi, xhf, xhs, xho, xhp, xhn, xhm, xtp, xap, xg0, xg1, xg2, xg3, xao, xan, xar, xlc) :=
  ⟨_, xa_ml7 hn hm hV K n 0 xpa (by omega) (fun x hx => absurd hx (Nat.not_lt_zero _))⟩
theorem xa_addOp {L : Nat} {p0 p1 : Int32} (h1 : L < 64) (k : post (xcp, xcx, xoc, xnc, xbc, xrc, xhd, xhr, xpc, nI (L + 1), xht, xgc, xac, xol, xnl, xbl, xrl, xpa, upd xok L p0, upd xoh L p1, xoi, xhf, xhs, xho, xhp, xhn, xhm, xtp, xap, xg0, xg1, xg2, xg3, xao, xan, xar, xlc)) : wpX_addOp post (xcp, xcx, xoc, xnc, xbc, xrc, xhd, xhr, xpc, nI L, xht, xgc, xac, xol, xnl, xbl, xrl, xpa, xok, xoh, xoi, xhf, xhs, xho, xhp, xhn, xhm, xtp, xap, xg0, xg1, xg2, xg3, xao, xan, xar, xlc) p0 p1 := by
  have z : (nI L).toNatClampNeg = L := nI_clamp (by omega)
  have v : vp_in (nI L) 64 := vp_in_nI h1 (by decide)
  exact And.intro v (nm_r (e' := upd xok L p0) (by rw [z]) (And.intro v (nm_r (e' := upd xoh L p1) (by rw [z]) (nm_r (nI_1 L) k))))
theorem xa_ins2 {i y : Nat} (hy : y ≤ 32) (hi : i ≤ 32) (hs : ∀ f j L K H, j < y → pd_sc xol xnl n m V0 (f + 1) i j L K H = pd_sc xol xnl n m V0 f i (j + 1) (L + 1) (upd K L 2) (upd H L (xnl j))) :
    ∀ d j L K H f, j + d = y → d ≤ f → L ≤ i + j → (∀ K' H', pd_sc xol xnl n m V0 (f - d) i y (L + d) K' H' = pd_sc xol xnl n m V0 f i j L K H → post (xcp, xcx, xoc, xnc, xbc, xrc, xhd, xhr, xpc, nI (L + d), xht, xgc, xac, xol, xnl, xbl, xrl, xpa, K', H', xoi, xhf, xhs, xho, xhp, xhn, xhm, xtp, xap, xg0, xg1, xg2, xg3, xao, xan, xar, xlc)) →
    wX_insertUpTo_2 post (nI y) (d + 1) (nI j) xcp xcx xoc xnc xbc xrc xhd xhr xpc (nI L) xht xgc xac xol xnl xbl xrl xpa K H xoi xhf xhs xho xhp xhn xhm xtp xap xg0 xg1 xg2 xg3 xao xan xar xlc := by
  intro d
  induction d with
  | zero =>
    intro j L K H f hj hf hL k
    have ej : j = y := by omega
    subst ej
    exact br_t (nI_le (Nat.le_refl _) (by omega)) (k K H rfl)
  | succ d ih =>
    intro j L K H f hj hf hL k
    obtain ⟨f, rfl⟩ : ∃ f', f = f' + 1 := ⟨f - 1, by omega⟩
    have z : (nI j).toNatClampNeg = j := nI_clamp (by omega)
    refine br_f (nI_ge (by omega) (by omega)) (And.intro (vp_in_nI (by omega) (by decide)) ?_)
    rw [z]
    refine xa_addOp (by omega) ?_
    dsimp only
    refine nm_r (nI_1 j) (ih (j + 1) (L + 1) _ _ f (by omega) (by omega) (by omega) (fun K' H' e => ?_))
    rw [show L + 1 + d = L + (d + 1) by omega] at e ⊢
    refine k K' H' ?_
    rw [hs f j L K H (by omega), show f + 1 - (d + 1) = f - d by omega]
    exact e
theorem xa_ins {i j y L f : Nat} (hy : y ≤ 32) (hi : i ≤ 32) (hs : ∀ f j L K H, j < y → pd_sc xol xnl n m V0 (f + 1) i j L K H = pd_sc xol xnl n m V0 f i (j + 1) (L + 1) (upd K L 2) (upd H L (xnl j))) (hj : j ≤ y) (hf : y - j ≤ f) (hL : L ≤ i + j)
    (k : ∀ K' H', pd_sc xol xnl n m V0 (f - (y - j)) i y (L + (y - j)) K' H' = pd_sc xol xnl n m V0 f i j L xok xoh → post (xcp, xcx, xoc, xnc, xbc, xrc, xhd, xhr, xpc, nI (L + (y - j)), xht, xgc, xac, xol, xnl, xbl, xrl, xpa, K', H', xoi, xhf, xhs, xho, xhp, xhn, xhm, xtp, xap, xg0, xg1, xg2, xg3, xao, xan, xar, xlc)) : wpX_insertUpTo post (xcp, xcx, xoc, xnc, xbc, xrc, xhd, xhr, xpc, nI L, xht, xgc, xac, xol, xnl, xbl, xrl, xpa, xok, xoh, xoi, xhf, xhs, xho, xhp, xhn, xhm, xtp, xap, xg0, xg1, xg2, xg3, xao, xan, xar, xlc) (nI j) (nI y) :=
  ⟨_, xa_ins2 hy hi hs (y - j) j L xok xoh f (by omega) hf hL k⟩
theorem xa_ws9 (hn : n ≤ 32) (hm : m ≤ 32) (hV : pd_ok xol xnl V0 0 n 0 m) (hM : ∀ x, x < n → xpa x = pd_e (V0 x)) :
    ∀ d i j L K H f, i + d = n → (n - i) + (m - j) ≤ f → j ≤ m → L ≤ i + j → (∀ x y, i ≤ x → x < n → V0 x = some y → j ≤ y) →
    (∀ L' K' H', pd_sc xol xnl n m V0 f i j L K H = (L', K', H') → post (xcp, xcx, nI n, nI m, xbc, xrc, xhd, xhr, xpc, nI L', xht, xgc, xac, xol, xnl, xbl, xrl, xpa, K', H', xoi, xhf, xhs, xho, xhp, xhn, xhm, xtp, xap, xg0, xg1, xg2, xg3, xao, xan, xar, xlc)) →
    wX_writeScript_9 post (d + 1) (nI j) (nI i) xcp xcx (nI n) (nI m) xbc xrc xhd xhr xpc (nI L) xht xgc xac xol xnl xbl xrl xpa K H xoi xhf xhs xho xhp xhn xhm xtp xap xg0 xg1 xg2 xg3 xao xan xar xlc := by
  intro d
  induction d with
  | zero =>
    intro i j L K H f hi hf hj hL ho k
    have ei : i = n := by omega
    subst ei
    refine br_t (nI_le (Nat.le_refl _) (by omega)) (xa_ins (n := i) (m := m) (V0 := V0) (i := i) (f := f) hm hn (fun f j L K H hjm => pd_sc_t (Nat.le_refl _) hjm) hj (by omega) hL (fun K' H' e => ?_))
    dsimp only
    refine k _ _ _ ?_
    rw [← e, pd_sc_0 (Nat.le_refl _) (Nat.le_refl _)]
  | succ d ih =>
    intro i j L K H f hi hf hj hL ho k
    have z : (nI i).toNatClampNeg = i := nI_clamp (by omega)
    have vi : vp_in (nI i) 32 := vp_in_nI (by omega) (by decide)
    have fM : xpa (nI i).toNatClampNeg = pd_e (V0 i) := by rw [z, hM i (by omega)]
    refine br_f (nI_ge (by omega) (by omega)) (And.intro vi ?_)
    rw [fM]
    cases hv : V0 i with
    | none =>
      obtain ⟨f, rfl⟩ : ∃ f', f = f' + 1 := ⟨f - 1, by omega⟩
      refine br_t rfl (And.intro vi ?_)
      rw [z]
      refine xa_addOp (by omega) ?_
      dsimp only
      refine nm_r (nI_1 i) (ih (i + 1) j (L + 1) _ _ f (by omega) (by omega) hj (by omega) (fun x y h1 h2 h3 => ho x y (by omega) h2 h3) (fun L' K' H' e => k L' K' H' ?_))
      rw [pd_sc_d (by omega) hv]
      exact e
    | some y =>
      have hy := ho i y (Nat.le_refl _) (by omega) hv
      have hy2 := hV.1 i y (by omega) (by omega) hv
      refine br_f (pd_ne1 (by omega)) (And.intro vi ?_)
      refine xa_ins (n := n) (m := m) (V0 := V0) (i := i) (f := f) (y := y) (by omega) (by omega) (fun f j L K H hjy => pd_sc_i (by omega) hv (by omega)) hy (by omega) hL (fun K' H' e => ?_)
      dsimp only
      refine And.intro vi ?_
      rw [z]
      refine xa_addOp (by omega) ?_
      dsimp only
      refine And.intro vi (nm_r (e' := nI (y + 1)) ?_ (nm_r (nI_1 i) (ih (i + 1) (y + 1) (L + (y - j) + 1) _ _ (f - (y - j) - 1) (by omega) (by omega) (by omega) (by omega) (fun x w h1 h2 h3 => ?_) (fun L' K'' H'' e2 => k L' K'' H'' ?_))))
      · rw [hM i (by omega), hv]
        exact nI_1 y
      · have := hV.2 i x y w (by omega) (by omega) h2 hv h3
        omega
      · rw [← e, show f - (y - j) = f - (y - j) - 1 + 1 by omega, pd_sc_k (by omega) hv]
        exact e2
theorem xa_writeScript (hn : n ≤ 32) (hm : m ≤ 32) (hV : pd_ok xol xnl V0 0 n 0 m) (hM : ∀ x, x < n → xpa x = pd_e (V0 x))
    (k : ∀ L' K' H', pd_sc xol xnl n m V0 (n + m) 0 0 0 xok xoh = (L', K', H') → post (xcp, xcx, nI n, nI m, xbc, xrc, xhd, xhr, xpc, nI L', xht, xgc, xac, xol, xnl, xbl, xrl, xpa, K', H', xoi, xhf, xhs, xho, xhp, xhn, xhm, xtp, xap, xg0, xg1, xg2, xg3, xao, xan, xar, xlc)) : wpX_writeScript post (xcp, xcx, nI n, nI m, xbc, xrc, xhd, xhr, xpc, xop, xht, xgc, xac, xol, xnl, xbl, xrl, xpa, xok, xoh, xoi, xhf, xhs, xho, xhp, xhn, xhm, xtp, xap, xg0, xg1, xg2, xg3, xao, xan, xar, xlc) :=
  ⟨_, xa_ws9 hn hm hV hM n 0 0 0 xok xoh (n + m) (by omega) (by omega) (by omega) (by omega) (fun x y _ _ _ => Nat.zero_le y) k⟩
end XML
