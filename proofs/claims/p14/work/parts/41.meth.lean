/-! the object's methods as the law calls them; the state between two steps of the law -/
def pd_DX (n m L : Nat) (xop xht : Int32) (xpa xol xnl xok xoh xoi xhf xhs xho xhp xhn xhm : Nat → Int32) : Prop :=
  xop = nI L ∧ (∀ x, x < n → xpa x = pd_e (pd_V0 xol xnl n m x)) ∧ pd_SK xol xnl xok xoh L n m ∧ xht = nI (pd_hc xoi L) ∧ pd_hI xok xoi L xhf xhs xho xhp xhn xhm ∧ (∀ q, q < L → xoi q = 0 → xok q = 0) ∧ L + pd_cm xpa n = n + m
def pd_BX (c C n m z : Nat) : Prop := 1 ≤ c ∧ c ≤ 32 ∧ C ≤ 3 ∧ n ≤ c ∧ m ≤ c ∧ z ≤ c
/-- v: is the diff of the last diff() still the one; k: its answer -/
def pd_OK (v k : Int32) (u : St2) : Prop := match u with
  | (xcp, xcx, xoc, xnc, xbc, xrc, xhd, xhr, xpc, xop, xht, xgc, xac, xol, xnl, xbl, xrl, xpa, xok, xoh, xoi, xhf, xhs, xho, xhp, xhn, xhm, xtp, xap, xg0, xg1, xg2, xg3, xao, xan, xar, xlc) => ∃ c C n m z L : Nat, xcp = nI c ∧ xcx = nI C ∧ xoc = nI n ∧ xnc = nI m ∧ xbc = nI z ∧ pd_BX c C n m z ∧ (¬ xhd = 0 → pd_DX n m L xop xht xpa xol xnl xok xoh xoi xhf xhs xho xhp xhn xhm) ∧ (¬ v = 0 → ¬ xhd = 0 ∧ k = nI (pd_cm xpa n))
section LME
variable {xcp xcx xoc xnc xbc xrc xhd xhr xpc xop xht xgc xac : Int32} {xol xnl xbl xrl xpa xok xoh xoi xhf xhs xho xhp xhn xhm xtp xap xg0 xg1 xg2 xg3 xao xan xar xlc : Nat → Int32}
variable {c C n m z L : Nat}
theorem pd_okm {v k : Int32} (hB : pd_BX c C n m z) (hD : ¬ xhd = 0 → pd_DX n m L xop xht xpa xol xnl xok xoh xoi xhf xhs xho xhp xhn xhm) (hv : ¬ v = 0 → ¬ xhd = 0 ∧ k = nI (pd_cm xpa n)) : pd_OK v k (nI c, nI C, nI n, nI m, nI z, xrc, xhd, xhr, xpc, xop, xht, xgc, xac, xol, xnl, xbl, xrl, xpa, xok, xoh, xoi, xhf, xhs, xho, xhp, xhn, xhm, xtp, xap, xg0, xg1, xg2, xg3, xao, xan, xar, xlc) :=
  ⟨c, C, n, m, z, L, rfl, rfl, rfl, rfl, rfl, hB, hD, hv⟩
theorem la_len0 {post : Int32 → Prop} (k : post xoc) : wpX_length post (xcp, xcx, xoc, xnc, xbc, xrc, xhd, xhr, xpc, xop, xht, xgc, xac, xol, xnl, xbl, xrl, xpa, xok, xoh, xoi, xhf, xhs, xho, xhp, xhn, xhm, xtp, xap, xg0, xg1, xg2, xg3, xao, xan, xar, xlc) 0 := br_t rfl k
theorem la_len1 {post : Int32 → Prop} (k : post xnc) : wpX_length post (xcp, xcx, xoc, xnc, xbc, xrc, xhd, xhr, xpc, xop, xht, xgc, xac, xol, xnl, xbl, xrl, xpa, xok, xoh, xoi, xhf, xhs, xho, xhp, xhn, xhm, xtp, xap, xg0, xg1, xg2, xg3, xao, xan, xar, xlc) 1 := br_f (by decide) (br_t rfl k)
theorem la_len2 {post : Int32 → Prop} (k : post xbc) : wpX_length post (xcp, xcx, xoc, xnc, xbc, xrc, xhd, xhr, xpc, xop, xht, xgc, xac, xol, xnl, xbl, xrl, xpa, xok, xoh, xoi, xhf, xhs, xho, xhp, xhn, xhm, xtp, xap, xg0, xg1, xg2, xg3, xao, xan, xar, xlc) 2 := br_f (by decide) (br_f (by decide) (br_t rfl k))
theorem la_len3 {post : Int32 → Prop} (h : ¬ xhr = 0) (k : post xrc) : wpX_length post (xcp, xcx, xoc, xnc, xbc, xrc, xhd, xhr, xpc, xop, xht, xgc, xac, xol, xnl, xbl, xrl, xpa, xok, xoh, xoi, xhf, xhs, xho, xhp, xhn, xhm, xtp, xap, xg0, xg1, xg2, xg3, xao, xan, xar, xlc) 3 := br_f (by decide) (br_f (by decide) (br_f (by decide) (br_t rfl (br_f h k))))
theorem la_line0 {post : Int32 → Prop} {i : Nat} (hi : i < n) (hn : n ≤ 32) (k : post (xol i)) : wpX_line post (xcp, xcx, nI n, xnc, xbc, xrc, xhd, xhr, xpc, xop, xht, xgc, xac, xol, xnl, xbl, xrl, xpa, xok, xoh, xoi, xhf, xhs, xho, xhp, xhn, xhm, xtp, xap, xg0, xg1, xg2, xg3, xao, xan, xar, xlc) 0 (nI i) := by
  unfold wpX_line
  dsimp only
  exact br_t rfl (br_f (nI_pos (by omega)) (br_t (nI_lt hi (by omega)) (br_t rfl (And.intro (vp_in_nI (by omega) (by decide)) (by rw [nI_clamp (by omega)]; exact k)))))
theorem la_line1 {post : Int32 → Prop} {i : Nat} (hi : i < m) (hn : m ≤ 32) (k : post (xnl i)) : wpX_line post (xcp, xcx, xoc, nI m, xbc, xrc, xhd, xhr, xpc, xop, xht, xgc, xac, xol, xnl, xbl, xrl, xpa, xok, xoh, xoi, xhf, xhs, xho, xhp, xhn, xhm, xtp, xap, xg0, xg1, xg2, xg3, xao, xan, xar, xlc) 1 (nI i) := by
  unfold wpX_line
  dsimp only
  exact br_f (by decide) (br_t rfl (br_f (nI_pos (by omega)) (br_t (nI_lt hi (by omega)) (br_f (by decide) (br_t rfl (And.intro (vp_in_nI (by omega) (by decide)) (by rw [nI_clamp (by omega)]; exact k)))))))
theorem la_line2 {post : Int32 → Prop} {i : Nat} (hi : i < z) (hn : z ≤ 32) (k : post (xbl i)) : wpX_line post (xcp, xcx, xoc, xnc, nI z, xrc, xhd, xhr, xpc, xop, xht, xgc, xac, xol, xnl, xbl, xrl, xpa, xok, xoh, xoi, xhf, xhs, xho, xhp, xhn, xhm, xtp, xap, xg0, xg1, xg2, xg3, xao, xan, xar, xlc) 2 (nI i) := by
  unfold wpX_line
  dsimp only
  exact br_f (by decide) (br_f (by decide) (br_t rfl (br_f (nI_pos (by omega)) (br_t (nI_lt hi (by omega)) (br_f (by decide) (br_f (by decide) (br_t rfl (And.intro (vp_in_nI (by omega) (by decide)) (by rw [nI_clamp (by omega)]; exact k)))))))))
theorem la_line3 {post : Int32 → Prop} {i o : Nat} (h : ¬ xhr = 0) (hi : i < o) (hn : o ≤ 64) (k : post (xrl i)) : wpX_line post (xcp, xcx, xoc, xnc, xbc, nI o, xhd, xhr, xpc, xop, xht, xgc, xac, xol, xnl, xbl, xrl, xpa, xok, xoh, xoi, xhf, xhs, xho, xhp, xhn, xhm, xtp, xap, xg0, xg1, xg2, xg3, xao, xan, xar, xlc) 3 (nI i) := by
  unfold wpX_line
  dsimp only
  exact br_f (by decide) (br_f (by decide) (br_f (by decide) (br_t rfl (br_f h (br_f (nI_pos (by omega)) (br_t (nI_lt hi (by omega)) (br_f (by decide) (br_f (by decide) (br_f (by decide) (And.intro (vp_in_nI (by omega) (by decide)) (by rw [nI_clamp (by omega)]; exact k)))))))))))
theorem la_add0 {post : Int32 → St2 → Prop} {v : Int32} (hc : c ≤ 32) (hn : n ≤ c) (K1 : n < c → post (nI (n + 1)) (nI c, xcx, nI (n + 1), xnc, xbc, xrc, 0, 0, xpc, xop, xht, xgc, xac, upd xol n v, xnl, xbl, xrl, xpa, xok, xoh, xoi, xhf, xhs, xho, xhp, xhn, xhm, xtp, xap, xg0, xg1, xg2, xg3, xao, xan, xar, xlc)) (K0 : post (-1) (nI c, xcx, nI n, xnc, xbc, xrc, xhd, xhr, xpc, xop, xht, xgc, xac, xol, xnl, xbl, xrl, xpa, xok, xoh, xoi, xhf, xhs, xho, xhp, xhn, xhm, xtp, xap, xg0, xg1, xg2, xg3, xao, xan, xar, xlc)) : wpX_addLine post (nI c, xcx, nI n, xnc, xbc, xrc, xhd, xhr, xpc, xop, xht, xgc, xac, xol, xnl, xbl, xrl, xpa, xok, xoh, xoi, xhf, xhs, xho, xhp, xhn, xhm, xtp, xap, xg0, xg1, xg2, xg3, xao, xan, xar, xlc) 0 v := by
  refine br_f (by decide) (br_t (by decide) (br_t rfl (pk_lt n c (fun h => br_t rfl (And.intro (vp_in_nI (by omega) (by decide)) (nm_r (e' := upd xol n v) (by rw [nI_clamp (by omega)]) (nm_r (nI_1 n) ?_)))) (fun _ => K0))))
  rw [nI_1]
  exact K1 h
theorem la_add1 {post : Int32 → St2 → Prop} {v : Int32} (hc : c ≤ 32) (hn : m ≤ c) (K1 : m < c → post (nI (m + 1)) (nI c, xcx, xoc, nI (m + 1), xbc, xrc, 0, 0, xpc, xop, xht, xgc, xac, xol, upd xnl m v, xbl, xrl, xpa, xok, xoh, xoi, xhf, xhs, xho, xhp, xhn, xhm, xtp, xap, xg0, xg1, xg2, xg3, xao, xan, xar, xlc)) (K0 : post (-1) (nI c, xcx, xoc, nI m, xbc, xrc, xhd, xhr, xpc, xop, xht, xgc, xac, xol, xnl, xbl, xrl, xpa, xok, xoh, xoi, xhf, xhs, xho, xhp, xhn, xhm, xtp, xap, xg0, xg1, xg2, xg3, xao, xan, xar, xlc)) : wpX_addLine post (nI c, xcx, xoc, nI m, xbc, xrc, xhd, xhr, xpc, xop, xht, xgc, xac, xol, xnl, xbl, xrl, xpa, xok, xoh, xoi, xhf, xhs, xho, xhp, xhn, xhm, xtp, xap, xg0, xg1, xg2, xg3, xao, xan, xar, xlc) 1 v := by
  refine br_f (by decide) (br_t (by decide) (br_f (by decide) (br_t rfl (pk_lt m c (fun h => br_f (by decide) (br_t rfl (And.intro (vp_in_nI (by omega) (by decide)) (nm_r (e' := upd xnl m v) (by rw [nI_clamp (by omega)]) (nm_r (nI_1 m) ?_))))) (fun _ => K0)))))
  rw [nI_1]
  exact K1 h
theorem la_add2 {post : Int32 → St2 → Prop} {v : Int32} (hc : c ≤ 32) (hn : z ≤ c) (K1 : z < c → post (nI (z + 1)) (nI c, xcx, xoc, xnc, nI (z + 1), xrc, xhd, 0, xpc, xop, xht, xgc, xac, xol, xnl, upd xbl z v, xrl, xpa, xok, xoh, xoi, xhf, xhs, xho, xhp, xhn, xhm, xtp, xap, xg0, xg1, xg2, xg3, xao, xan, xar, xlc)) (K0 : post (-1) (nI c, xcx, xoc, xnc, nI z, xrc, xhd, xhr, xpc, xop, xht, xgc, xac, xol, xnl, xbl, xrl, xpa, xok, xoh, xoi, xhf, xhs, xho, xhp, xhn, xhm, xtp, xap, xg0, xg1, xg2, xg3, xao, xan, xar, xlc)) : wpX_addLine post (nI c, xcx, xoc, xnc, nI z, xrc, xhd, xhr, xpc, xop, xht, xgc, xac, xol, xnl, xbl, xrl, xpa, xok, xoh, xoi, xhf, xhs, xho, xhp, xhn, xhm, xtp, xap, xg0, xg1, xg2, xg3, xao, xan, xar, xlc) 2 v := by
  refine br_f (by decide) (br_t (by decide) (br_f (by decide) (br_f (by decide) (br_t rfl (pk_lt z c (fun h => br_f (by decide) (br_f (by decide) (And.intro (vp_in_nI (by omega) (by decide)) (nm_r (e' := upd xbl z v) (by rw [nI_clamp (by omega)]) (nm_r (nI_1 z) ?_))))) (fun _ => K0))))))
  rw [nI_1]
  exact K1 h
theorem la_match {post : Int32 → Prop} {i : Nat} (h : ¬ xhd = 0) (hi : i < n) (hn : n ≤ 32) (k : post (xpa i)) : wpX_matchOf post (xcp, xcx, nI n, xnc, xbc, xrc, xhd, xhr, xpc, xop, xht, xgc, xac, xol, xnl, xbl, xrl, xpa, xok, xoh, xoi, xhf, xhs, xho, xhp, xhn, xhm, xtp, xap, xg0, xg1, xg2, xg3, xao, xan, xar, xlc) (nI i) :=
  br_f h (br_f (nI_pos (by omega)) (br_t (nI_lt hi (by omega)) (And.intro (vp_in_nI (by omega) (by decide)) (by rw [nI_clamp (by omega)]; exact k))))
theorem la_slen {post : Int32 → Prop} (h : ¬ xhd = 0) (k : post xop) : wpX_scriptLength post (xcp, xcx, xoc, xnc, xbc, xrc, xhd, xhr, xpc, xop, xht, xgc, xac, xol, xnl, xbl, xrl, xpa, xok, xoh, xoi, xhf, xhs, xho, xhp, xhn, xhm, xtp, xap, xg0, xg1, xg2, xg3, xao, xan, xar, xlc) := br_f h k
theorem la_hcnt {post : Int32 → Prop} (h : ¬ xhd = 0) (k : post xht) : wpX_hunkCount post (xcp, xcx, xoc, xnc, xbc, xrc, xhd, xhr, xpc, xop, xht, xgc, xac, xol, xnl, xbl, xrl, xpa, xok, xoh, xoi, xhf, xhs, xho, xhp, xhn, xhm, xtp, xap, xg0, xg1, xg2, xg3, xao, xan, xar, xlc) := br_f h k
end LME
theorem la_clamp (x l h : Int32) (lo hi : Nat) (hl : l = nI lo) (hh : h = nI hi) (h1 : lo ≤ hi) (h2 : hi < 2 ^ 31) : ∃ c, lo ≤ c ∧ c ≤ hi ∧ (∀ post : Int32 → Prop, post (nI c) → wpX_clamp post () x l h) := by
  subst hl hh
  by_cases c1 : nI lo ≤ x
  · have c0 : ¬ x < 0 := by
      have := nI_pos' (n := lo) (by omega)
      exact Int32.not_lt.mpr (Int32.le_trans this c1)
    obtain ⟨j, hj, rfl⟩ := nI_of c0
    rw [nI_leI (by omega) hj] at c1
    by_cases c2 : nI j ≤ nI hi
    · have c3 := (nI_leI hj (by omega)).mp c2
      exact ⟨j, c1, c3, fun post k => br_t (nI_le c1 hj) (br_t c2 k)⟩
    · exact ⟨hi, h1, Nat.le_refl _, fun post k => br_t (nI_le c1 hj) (br_f c2 k)⟩
  · exact ⟨lo, Nat.le_refl _, h1, fun post k => br_f c1 k⟩
