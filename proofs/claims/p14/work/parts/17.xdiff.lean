/-! X: diff whole -/
section XDI
variable {xcp xcx xoc xnc xbc xrc xhd xhr xpc xop xht xgc xac : Int32} {xol xnl xbl xrl xpa xok xoh xoi xhf xhs xho xhp xhn xhm xtp xap xg0 xg1 xg2 xg3 xao xan xar xlc : Nat → Int32}
variable {n m C : Nat}
/-- V0 for A's first n and B's first m lines -/
def pd_V0 (a b : Nat → Int32) (n m : Nat) : Nat → Option Nat := pd_V a b (n + 1) 0 n 0 m
theorem pd_V0_gk {a b : Nat → Int32} : pd_gk a b n m (pd_V0 a b n m) (0, n, 0, m) := ⟨Nat.zero_le _, Nat.le_refl _, Nat.zero_le _, Nat.le_refl _, n + 1, by dsimp only; omega, fun x _ => rfl⟩
theorem pd_V0_ok {a b : Nat → Int32} : pd_ok a b (pd_V0 a b n m) 0 n 0 m := pd_V_ok (n + 1) 0 n 0 m (Nat.zero_le _) (Nat.zero_le _)
def pd_S (a b : Nat → Int32) (n m : Nat) (K H : Nat → Int32) : Nat × (Nat → Int32) × (Nat → Int32) := pd_sc a b n m (pd_V0 a b n m) (n + m) 0 0 0 K H
theorem pd_S_ok {a b K H : Nat → Int32} : pd_SK a b (pd_S a b n m K H).2.1 (pd_S a b n m K H).2.2 (pd_S a b n m K H).1 n m :=
  pd_sc_ok pd_V0_ok (n + m) 0 0 0 K H (by omega) (Nat.zero_le _) (Nat.zero_le _) (fun x y _ _ _ => Nat.zero_le y) pd_SK_0
theorem xa_diff {post : Int32 → St2 → Prop} (hn : n ≤ 32) (hm : m ≤ 32) (hC : C ≤ 3)
    (k : ∀ M I F S O P B Q G0 G1 G2 G3 AO AN AR T ac gc, (∀ x, x < n → M x = pd_e (pd_V0 xol xnl n m x)) →
      (∀ q, q < (pd_S xol xnl n m xok xoh).1 → pd_tf (I q) (pd_nc (pd_S xol xnl n m xok xoh).2.1 C (pd_S xol xnl n m xok xoh).1 q)) → (∀ q, (pd_S xol xnl n m xok xoh).1 ≤ q → I q = xoi q) →
      pd_hI (pd_S xol xnl n m xok xoh).2.1 I (pd_S xol xnl n m xok xoh).1 F S O P B Q →
      post (nI (pd_cm M n)) (xcp, nI C, nI n, nI m, xbc, xrc, 1, 0, nI (pd_cm M n), nI (pd_S xol xnl n m xok xoh).1, nI (pd_hc I (pd_S xol xnl n m xok xoh).1), gc, ac, xol, xnl, xbl, xrl, M, (pd_S xol xnl n m xok xoh).2.1, (pd_S xol xnl n m xok xoh).2.2, I, F, S, O, P, B, Q, xtp, xap, G0, G1, G2, G3, AO, AN, AR, T)) :
    wpX_diff post (xcp, nI C, nI n, nI m, xbc, xrc, xhd, xhr, xpc, xop, xht, xgc, xac, xol, xnl, xbl, xrl, xpa, xok, xoh, xoi, xhf, xhs, xho, xhp, xhn, xhm, xtp, xap, xg0, xg1, xg2, xg3, xao, xan, xar, xlc) := by
  have hS := pd_S_ok (a := xol) (b := xnl) (n := n) (m := m) (K := xok) (H := xoh)
  have hL : (pd_S xol xnl n m xok xoh).1 ≤ 64 := by have := hS.2.2.1; omega
  unfold wpX_diff
  dsimp only
  refine xa_matchLines (V0 := pd_V0 xol xnl n m) hn hm pd_V0_gk (fun M G0 G1 G2 G3 AO AN AR T ac gc hM => ?_)
  dsimp only
  refine xa_writeScript (V0 := pd_V0 xol xnl n m) hn hm pd_V0_ok hM (fun L K H e => ?_)
  dsimp only
  have e' : pd_S xol xnl n m xok xoh = (L, K, H) := e
  rw [e'] at k hL
  dsimp only at k hL
  refine xa_incA hC hL (fun I1 h1 h2 => ?_)
  dsimp only
  refine xa_incB hC hL h1 (fun I h3 h4 => ?_)
  dsimp only
  refine xa_cut hL (fun F S O P B Q h5 => ?_)
  dsimp only
  exact k M I F S O P B Q G0 G1 G2 G3 AO AN AR T ac gc hM h3 (fun q hq => by rw [h4 q hq, h2 q hq]) h5
end XDI
