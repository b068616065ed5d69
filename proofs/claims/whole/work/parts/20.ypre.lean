/-! Y: push, common beginning, common end -/
section YPR
variable {ycp ycx yn ym yz yrl ysl ysp yna yhd yhr : Int32} {ya yb ybs yrs ytm yat yta yma yki yha yin ys0 ys1 ys2 ys3 yai yaj yal yci ycj yt : Nat → Int32}
variable {post : SY → Prop} {n m : Nat} {V0 : Nat → Option Nat} {lo hi : Nat} {gp : Nat → pd_g}
theorem ya_pre3 {ah bh : Nat} (h1 : ah ≤ n) (h2 : n ≤ 32) (h3 : bh ≤ 32) : ∀ (k i j c : Nat) (M : Nat → Int32), min (ah - i) (bh - j) = k → c + k ≤ 32 → i ≤ ah → j ≤ bh →
    (∀ x, x < pd_pf ya yb k i j → V0 (i + x) = some (j + x)) →
    pd_I ya yb n m V0 lo hi gp i ah M →
    (∀ M', pd_I ya yb n m V0 lo hi gp (i + pd_pf ya yb k i j) ah M' → ∃ n58, wY_refine_58 post (nI (i + pd_pf ya yb k i j)) (nI (j + pd_pf ya yb k i j)) ycp ycx yn ym yz yrl ysl ysp yna yhd yhr n58 (nI ah) (nI bh) 0 ya yb ybs yrs ytm yat yta M' yki yha yin ys0 ys1 ys2 ys3 yai yaj yal yci ycj yt) →
    wY_refine_3 post (nI ah) (nI bh) ycp ycx yn ym yz yrl ysl ysp yna yhd yhr (k + 1) (nI i) (nI j) (nI c) ya yb ybs yrs ytm yat yta M yki yha yin ys0 ys1 ys2 ys3 yai yaj yal yci ycj yt := by
  intro k
  induction k with
  | zero =>
    intro i j c M hk hc hi hj hV hI K
    have K' := K M hI
    exact pk_le 32 c (fun _ => K') (fun c0 => pk_le ah i (fun _ => K') (fun c1 => pk_le bh j (fun _ => K') (fun c2 => absurd hk (by omega))))
  | succ k ih =>
    intro i j c M hk hc hi hj hV hI K
    have zi : (nI i).toNatClampNeg = i := nI_clamp (by omega)
    have zj : (nI j).toNatClampNeg = j := nI_clamp (by omega)
    have vi : vp_in (nI i) 32 := vp_in_nI (by omega) (by decide)
    refine pk_le 32 c (fun c0 => absurd hc (by omega)) (fun c0 => pk_le ah i (fun c => absurd hk (by omega)) (fun c1 => pk_le bh j (fun c => absurd hk (by omega)) (fun c2 => And.intro vi (And.intro (vp_in_nI (by omega) (by decide)) (br_c (fun c3 => ?_) (fun c3 => ?_))))))
    · rw [zi, zj] at c3
      rw [pd_pf_s, if_pos c3] at hV K
      refine And.intro vi (nm_r (e' := upd M i (nI j)) (by rw [zi]) (nm_r (nI_1 i) (nm_r (nI_1 j) (nm_r (nI_1 c) ?_))))
      refine ih (i + 1) (j + 1) (c + 1) _ (by omega) (by omega) (by omega) (by omega) (fun x hx => ?_) (pd_I_lo hI c1 (hV 0 (by omega))) (fun M' hM' => ?_)
      · rw [show i + 1 + x = i + (x + 1) by omega, show j + 1 + x = j + (x + 1) by omega]
        exact hV (x + 1) (by omega)
      · rw [show i + 1 + pd_pf ya yb k (i + 1) (j + 1) = i + (pd_pf ya yb k (i + 1) (j + 1) + 1) by omega] at hM' ⊢
        rw [show j + 1 + pd_pf ya yb k (i + 1) (j + 1) = j + (pd_pf ya yb k (i + 1) (j + 1) + 1) by omega]
        exact K M' hM'
    · rw [zi, zj] at c3
      rw [pd_pf_s, if_neg c3] at K
      exact K M hI
theorem ya_suf58 {al bl : Nat} (h2 : n ≤ 32) : ∀ (k i j c : Nat) (M : Nat → Int32), min (i - al) (j - bl) = k → c + k ≤ 32 → al ≤ i → bl ≤ j → i ≤ n → j ≤ 32 →
    (∀ x, x < pd_sf ya yb k i j → V0 (i - 1 - x) = some (j - 1 - x)) →
    pd_I ya yb n m V0 lo hi gp al i M →
    (∀ M', pd_I ya yb n m V0 lo hi gp al (i - pd_sf ya yb k i j) M' → wY_refine_120 post (nI al) (nI (i - pd_sf ya yb k i j)) (nI bl) (nI (j - pd_sf ya yb k i j)) ycp ycx yn ym yz yrl ysl ysp yna yhd yhr ya yb ybs yrs ytm yat yta M' yki yha yin ys0 ys1 ys2 ys3 yai yaj yal yci ycj yt) →
    wY_refine_58 post (nI al) (nI bl) ycp ycx yn ym yz yrl ysl ysp yna yhd yhr (k + 1) (nI i) (nI j) (nI c) ya yb ybs yrs ytm yat yta M yki yha yin ys0 ys1 ys2 ys3 yai yaj yal yci ycj yt := by
  intro k
  induction k with
  | zero =>
    intro i j c M hk hc hi hj hi2 hj2 hV hI K
    have K' := K M hI
    exact pk_le 32 c (fun _ => K') (fun c0 => pk_le i al (fun _ => K') (fun c1 => pk_le j bl (fun _ => K') (fun c2 => absurd hk (by omega))))
  | succ k ih =>
    intro i j c M hk hc hi hj hi2 hj2 hV hI K
    obtain ⟨i, rfl⟩ : ∃ y, i = y + 1 := ⟨i - 1, by omega⟩
    obtain ⟨j, rfl⟩ : ∃ y, j = y + 1 := ⟨j - 1, by omega⟩
    have zi : (nI (i + 1) - 1).toNatClampNeg = i := by rw [nI_pred, nI_clamp (by omega)]
    have zj : (nI (j + 1) - 1).toNatClampNeg = j := by rw [nI_pred, nI_clamp (by omega)]
    have vi : vp_in (nI (i + 1) - 1) 32 := by rw [nI_pred]; exact vp_in_nI (by omega) (by decide)
    refine pk_le 32 c (fun c0 => absurd hc (by omega)) (fun c0 => pk_le (i + 1) al (fun c => absurd hk (by omega)) (fun c1 => pk_le (j + 1) bl (fun c => absurd hk (by omega)) (fun c2 => And.intro vi (And.intro (by rw [nI_pred]; exact vp_in_nI (by omega) (by decide)) (br_c (fun c3 => ?_) (fun c3 => ?_))))))
    · rw [zi, zj] at c3
      rw [pd_sf_s] at hV K
      rw [Nat.add_sub_cancel, Nat.add_sub_cancel, if_pos c3] at hV K
      refine And.intro vi (nm_r (e' := upd M i (nI j)) (by rw [zi, nI_pred]) (nm_r (pk_m1 i) (nm_r (pk_m1 j) (nm_r (nI_1 c) ?_))))
      refine ih i j (c + 1) _ (by omega) (by omega) (by omega) (by omega) (by omega) (by omega) (fun x hx => ?_) (pd_I_hi hI (by omega) (hV 0 (by omega))) (fun M' hM' => ?_)
      · rw [show i - 1 - x = i - (x + 1) by omega, show j - 1 - x = j - (x + 1) by omega]
        exact hV (x + 1) (by omega)
      · rw [show i - pd_sf ya yb k i j = i + 1 - (pd_sf ya yb k i j + 1) by omega] at hM' ⊢
        rw [show j - pd_sf ya yb k i j = j + 1 - (pd_sf ya yb k i j + 1) by omega]
        exact K M' hM'
    · rw [zi, zj] at c3
      rw [pd_sf_s, Nat.add_sub_cancel, Nat.add_sub_cancel, if_neg c3] at K
      exact K M hI
/-- a push, done or skipped -/
def pd_nE (gp : Nat → pd_g) (k : Nat) : Prop := ∀ q, q < k → (gp q).1 < (gp q).2.1
theorem pd_nE_sm {gp : Nat → pd_g} : ∀ k, pd_nE gp k → k ≤ pd_sm gp k := by
  intro k
  induction k with
  | zero => intro _; exact Nat.le_refl 0
  | succ k ih =>
    intro h
    have h1 := ih (fun q hq => h q (by omega))
    have h2 := h k (by omega)
    rw [pd_sm_s]; omega
theorem ya_push {sp a0 a1 b0 b1 S : Nat} {M : Nat → Int32} {H : Nat} (h0 : a0 ≤ a1) (h1 : b0 ≤ b1) (hH : a1 ≤ H) (ha : a1 ≤ 32) (hb : b1 ≤ 32) (hg : pd_gk ya yb n m V0 (a0, a1, b0, b1)) (hI : pd_I ya yb n m V0 0 sp gp a0 H M) (hE : pd_nE gp sp) (hS : pd_sm gp sp + (a1 - a0) ≤ S) (hS2 : S ≤ 32) (hR : pd_rp 0 sp gp ys0 ys1 ys2 ys3)
    (k : ∀ sp' gp' G0 G1 G2 G3, pd_I ya yb n m V0 0 sp' gp' a1 H M → pd_nE gp' sp' → pd_sm gp' sp' ≤ pd_sm gp sp + (a1 - a0) → pd_rp 0 sp' gp' G0 G1 G2 G3 → post (ycp, ycx, yn, ym, yz, yrl, ysl, nI sp', yna, yhd, yhr, ya, yb, ybs, yrs, ytm, yat, yta, yma, yki, yha, yin, G0, G1, G2, G3, yai, yaj, yal, yci, ycj, yt)) :
    wpY_push post (ycp, ycx, yn, ym, yz, yrl, ysl, nI sp, yna, yhd, yhr, ya, yb, ybs, yrs, ytm, yat, yta, yma, yki, yha, yin, ys0, ys1, ys2, ys3, yai, yaj, yal, yci, ycj, yt) (nI a0) (nI a1) (nI b0) (nI b1) := by
  have hsp := pd_nE_sm sp hE
  have hskip : (a0 = a1 ∨ b0 = b1) → post (ycp, ycx, yn, ym, yz, yrl, ysl, nI sp, yna, yhd, yhr, ya, yb, ybs, yrs, ytm, yat, yta, yma, yki, yha, yin, ys0, ys1, ys2, ys3, yai, yaj, yal, yci, ycj, yt) := fun c => by
    refine k sp gp _ _ _ _ (pd_I_sk hI h0 (fun x x1 x2 => ?_)) hE (by omega) hR
    obtain ⟨_, _, _, _, f, _, hf⟩ := hg
    rw [hf x ⟨x1, x2⟩]
    exact pd_V_n (by dsimp only; omega) x1 x2
  refine pk_le a1 a0 (fun c => hskip (Or.inl (by omega))) (fun c => pk_le b1 b0 (fun c2 => hskip (Or.inr (by omega))) (fun c2 => ?_))
  have z : (nI sp).toNatClampNeg = sp := nI_clamp (by omega)
  have v : vp_in (nI sp) 40 := vp_in_nI (by omega) (by decide)
  refine br_t (nI_lt (b := 40) (by omega) (by decide)) (And.intro v (nm_r (e' := upd ys0 sp (nI a0)) (by rw [z]) (And.intro v (nm_r (e' := upd ys1 sp (nI a1)) (by rw [z]) (And.intro v (nm_r (e' := upd ys2 sp (nI b0)) (by rw [z]) (And.intro v (nm_r (e' := upd ys3 sp (nI b1)) (by rw [z]) (nm_r (nI_1 sp) ?_)))))))))
  refine k (sp + 1) (pd_ug gp sp (a0, a1, b0, b1)) _ _ _ _ (pd_I_dn hI (Nat.zero_le _) h0 hH hg) (fun q hq => ?_) (by rw [pd_sm_p]; exact Nat.le_refl _) (pd_rp_p hR)
  by_cases e : q = sp
  · subst e; rw [pd_ug_s]; exact c
  · rw [pd_ug_n e]; exact hE q (by omega)
end YPR
