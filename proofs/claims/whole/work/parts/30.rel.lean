/-! the relation -/
/-- with a diff: the pairs, the script of L ops, the hunks -/
def pd_DF (n m L : Nat) (xop ysl xht : Int32) (xpa yma xol xnl xok xoh xoi xhf xhs xho xhp xhn xhm : Nat → Int32) : Prop :=
  xop = nI L ∧ ysl = nI L ∧ (∀ x, x < n → xpa x = yma x) ∧ pd_SK xol xnl xok xoh L n m ∧ xht = nI (pd_hc xoi L) ∧ pd_hI xok xoi L xhf xhs xho xhp xhn xhm
/-- with a result: its lines, the hunks' places -/
def pd_RF (L : Nat) (xrc yrl : Int32) (xrl yrs xap yat xoi : Nat → Int32) : Prop :=
  ∃ r, r ≤ 64 ∧ xrc = nI r ∧ yrl = nI r ∧ (∀ q, q < r → xrl q = yrs q) ∧ (∀ h, h < pd_hc xoi L → xap h = yat h)
/-- the numbers and flags that both keep -/
def pd_B (c C n m z : Nat) (hd hr : Int32) : Prop := 1 ≤ c ∧ c ≤ 32 ∧ C ≤ 3 ∧ n ≤ c ∧ m ≤ c ∧ z ≤ c ∧ (hd = 0 ∨ hd = 1) ∧ (hr = 0 ∨ hr = 1)
def i_Rel (_ : Nat) (u : SX) (v : SY) : Prop := match u, v with
  | (xcp, xcx, xoc, xnc, xbc, xrc, xhd, xhr, xpc, xop, xht, xgc, xac, xol, xnl, xbl, xrl, xpa, xok, xoh, xoi, xhf, xhs, xho, xhp, xhn, xhm, xtp, xap, xg0, xg1, xg2, xg3, xao, xan, xar, xlc), (ycp, ycx, yn, ym, yz, yrl, ysl, ysp, yna, yhd, yhr, ya, yb, ybs, yrs, ytm, yat, yta, yma, yki, yha, yin, ys0, ys1, ys2, ys3, yai, yaj, yal, yci, ycj, yt) =>
    ∃ c C n m z L : Nat, xcp = nI c ∧ ycp = nI c ∧ xcx = nI C ∧ ycx = nI C ∧ xoc = nI n ∧ yn = nI n ∧ xnc = nI m ∧ ym = nI m ∧ xbc = nI z ∧ yz = nI z ∧
      xol = ya ∧ xnl = yb ∧ xbl = ybs ∧ xok = yki ∧ xoh = yha ∧ xoi = yin ∧ xhd = yhd ∧ xhr = yhr ∧ pd_B c C n m z xhd xhr ∧
      (¬ xhd = 0 → pd_DF n m L xop ysl xht xpa yma xol xnl xok xoh xoi xhf xhs xho xhp xhn xhm) ∧ (¬ xhr = 0 → ¬ xhd = 0 ∧ pd_RF L xrc yrl xrl yrs xap yat xoi)
section REL
variable {xcp xcx xoc xnc xbc xrc xhd xhr xpc xop xht xgc xac : Int32} {xol xnl xbl xrl xpa xok xoh xoi xhf xhs xho xhp xhn xhm xtp xap xg0 xg1 xg2 xg3 xao xan xar xlc : Nat → Int32}
variable {ycp ycx yn ym yz yrl ysl ysp yna yhd yhr : Int32} {ya yb ybs yrs ytm yat yta yma yki yha yin ys0 ys1 ys2 ys3 yai yaj yal yci ycj yt : Nat → Int32}
variable {k c C n m z L : Nat}
/-- related states, written out -/
theorem pd_mk (hB : pd_B c C n m z xhd xhr) (hD : ¬ xhd = 0 → pd_DF n m L xop ysl xht xpa yma xol xnl xok xoh xoi xhf xhs xho xhp xhn xhm) (hR : ¬ xhr = 0 → ¬ xhd = 0 ∧ pd_RF L xrc yrl xrl yrs xap yat xoi) :
    i_Rel k (nI c, nI C, nI n, nI m, nI z, xrc, xhd, xhr, xpc, xop, xht, xgc, xac, xol, xnl, xbl, xrl, xpa, xok, xoh, xoi, xhf, xhs, xho, xhp, xhn, xhm, xtp, xap, xg0, xg1, xg2, xg3, xao, xan, xar, xlc) (nI c, nI C, nI n, nI m, nI z, yrl, ysl, ysp, yna, xhd, xhr, xol, xnl, xbl, yrs, ytm, yat, yta, yma, xok, xoh, xoi, ys0, ys1, ys2, ys3, yai, yaj, yal, yci, ycj, yt) :=
  ⟨c, C, n, m, z, L, rfl, rfl, rfl, rfl, rfl, rfl, rfl, rfl, rfl, rfl, rfl, rfl, rfl, rfl, rfl, rfl, rfl, rfl, hB, hD, hR⟩
end REL
theorem i_up {k : Nat} {u : SX} {v : SY} (h : i_Rel k u v) : i_Rel (k + 3) u v := h
/-- to show something of related states -/
theorem pd_cases {P : SX → SY → Prop} {k : Nat} {u : SX} {v : SY} (I : i_Rel k u v)
    (H : ∀ (xrc xhd xhr xpc xop xht xgc xac : Int32) (xol xnl xbl xrl xpa xok xoh xoi xhf xhs xho xhp xhn xhm xtp xap xg0 xg1 xg2 xg3 xao xan xar xlc : Nat → Int32) (yrl ysl ysp yna : Int32) (yrs ytm yat yta yma ys0 ys1 ys2 ys3 yai yaj yal yci ycj yt : Nat → Int32) (c C n m z L : Nat), pd_B c C n m z xhd xhr → (¬ xhd = 0 → pd_DF n m L xop ysl xht xpa yma xol xnl xok xoh xoi xhf xhs xho xhp xhn xhm) → (¬ xhr = 0 → ¬ xhd = 0 ∧ pd_RF L xrc yrl xrl yrs xap yat xoi) →
      P (nI c, nI C, nI n, nI m, nI z, xrc, xhd, xhr, xpc, xop, xht, xgc, xac, xol, xnl, xbl, xrl, xpa, xok, xoh, xoi, xhf, xhs, xho, xhp, xhn, xhm, xtp, xap, xg0, xg1, xg2, xg3, xao, xan, xar, xlc) (nI c, nI C, nI n, nI m, nI z, yrl, ysl, ysp, yna, xhd, xhr, xol, xnl, xbl, yrs, ytm, yat, yta, yma, xok, xoh, xoi, ys0, ys1, ys2, ys3, yai, yaj, yal, yci, ycj, yt)) : P u v := by
  obtain ⟨xcp, xcx, xoc, xnc, xbc, xrc, xhd, xhr, xpc, xop, xht, xgc, xac, xol, xnl, xbl, xrl, xpa, xok, xoh, xoi, xhf, xhs, xho, xhp, xhn, xhm, xtp, xap, xg0, xg1, xg2, xg3, xao, xan, xar, xlc⟩ := u
  obtain ⟨ycp, ycx, yn, ym, yz, yrl, ysl, ysp, yna, yhd, yhr, ya, yb, ybs, yrs, ytm, yat, yta, yma, yki, yha, yin, ys0, ys1, ys2, ys3, yai, yaj, yal, yci, ycj, yt⟩ := v
  obtain ⟨c, C, n, m, z, L, rfl, rfl, rfl, rfl, rfl, rfl, rfl, rfl, rfl, rfl, rfl, rfl, rfl, rfl, rfl, rfl, rfl, rfl, hB, hD, hR⟩ := I
  exact H _ _ _ _ _ _ _ _ _ _ _ _ _ _ _ _ _ _ _ _ _ _ _ _ _ _ _ _ _ _ _ _ _ _ _ _ _ _ _ _ _ _ _ _ _ _ _ _ _ _ _ c C n m z L hB hD hR
