/-! Y: the script, nearChange, diff whole -/
section YDI
variable {ycp ycx yn ym yz yrl ysl ysp yna yhd yhr : Int32} {ya yb ybs yrs ytm yat yta yma yki yha yin ys0 ys1 ys2 ys3 yai yaj yal yci ycj yt : Nat → Int32}
variable {n m : Nat} {V0 : Nat → Option Nat}
theorem ya_sc126 {post : Int32 → SY → Prop} (hn : n ≤ 32) (hm : m ≤ 32) (hV : pd_ok ya yb V0 0 n 0 m) (hM : ∀ x, x < n → yma x = pd_e (V0 x)) :
    ∀ f i j g L K H, (n - i) + (m - j) ≤ f → g + f ≤ 64 → i ≤ n → j ≤ m → L ≤ i + j → (∀ x y, i ≤ x → x < n → V0 x = some y → j ≤ y) →
    (∀ L' K' H', pd_sc ya yb n m V0 f i j L K H = (L', K', H') → ∃ n327, wY_diff_327 post (nI (pd_cm yma n)) ycp ycx (nI n) (nI m) yz yrl (nI L') ysp yna yhd yhr n327 0 ya yb ybs yrs ytm yat yta yma K' H' yin ys0 ys1 ys2 ys3 yai yaj yal yci ycj yt) →
    wY_diff_126 post ycp ycx (nI n) (nI m) yz yrl ysp yna yhd yhr (f + 1) (nI i) (nI j) (nI (pd_cm yma i)) (nI g) (nI L) ya yb ybs yrs ytm yat yta yma K H yin ys0 ys1 ys2 ys3 yai yaj yal yci ycj yt := by
  intro f
  induction f with
  | zero =>
    intro i j g L K H hf hg hi hj hL ho k
    have ei : i = n := by omega
    have ej : j = m := by omega
    subst ei ej
    have k' := k L K H rfl
    exact pk_le 64 g (fun _ => k') (fun _ => pk_lt i i (fun c => absurd c (by omega)) (fun _ => pk_le j j (fun _ => k') (fun c => absurd c (by omega))))
  | succ f ih =>
    intro i j g L K H hf hg hi hj hL ho k
    have ins : j < m → (∀ L' K' H', pd_sc ya yb n m V0 f i (j + 1) (L + 1) (upd K L 2) (upd H L (yb j)) = (L', K', H') → ∃ n327, wY_diff_327 post (nI (pd_cm yma n)) ycp ycx (nI n) (nI m) yz yrl (nI L') ysp yna yhd yhr n327 0 ya yb ybs yrs ytm yat yta yma K' H' yin ys0 ys1 ys2 ys3 yai yaj yal yci ycj yt) → (∀ x y, i ≤ x → x < n → V0 x = some y → j + 1 ≤ y) →
        wY_diff_272 post (wY_diff_126 post ycp ycx (nI n) (nI m) yz yrl ysp yna yhd yhr (f + 1)) (nI i) (nI j) (nI (pd_cm yma i)) (nI g) ycp ycx (nI n) (nI m) yz yrl (nI L) ysp yna yhd yhr ya yb ybs yrs ytm yat yta yma K H yin ys0 ys1 ys2 ys3 yai yaj yal yci ycj yt := fun hjm kk ho2 => by
      have zl : (nI L).toNatClampNeg = L := nI_clamp (by omega)
      have vl : vp_in (nI L) 64 := vp_in_nI (by omega) (by decide)
      have zj : (nI j).toNatClampNeg = j := nI_clamp (by omega)
      refine br_f (nI_ge hjm (by omega)) (And.intro vl (nm_r (e' := upd K L 2) (by rw [zl]) (And.intro (vp_in_nI (by omega) (by decide)) (And.intro vl (nm_r (e' := upd H L (yb j)) (by rw [zl, zj]) (nm_r (nI_1 j) (nm_r (nI_1 L) (nm_r (nI_1 g) ?_))))))))
      exact ih i (j + 1) (g + 1) (L + 1) _ _ (by omega) (by omega) hi (by omega) (by omega) ho2 kk
    refine pk_le 64 g (fun c => absurd c (by omega)) (fun _ => pk_lt i n (fun c => ?_) (fun c => pk_le m j (fun c2 => ?_) (fun c2 => ?_)))
    · have zi : (nI i).toNatClampNeg = i := nI_clamp (by omega)
      have vi : vp_in (nI i) 32 := vp_in_nI (by omega) (by decide)
      have zl : (nI L).toNatClampNeg = L := nI_clamp (by omega)
      have vl : vp_in (nI L) 64 := by
        refine vp_in_nI ?_ (by decide)
        omega
      have ecm := pd_cm_s yma i
      have fM : yma (nI i).toNatClampNeg = pd_e (V0 i) := by rw [zi, hM i c]
      have f149 : ¬ nI n ≤ nI i := nI_ge c (by omega)
      cases hv : V0 i with
      | none =>
        rw [hM i c, hv, if_pos (show pd_e none = -1 from rfl)] at ecm
        have ecm2 : pd_cm yma (i + 1) = pd_cm yma i := by omega
        rw [hv] at fM
        refine br_f f149 (And.intro vi (br_f (fun w => ?_) (br_f f149 (And.intro vi (br_f (fun w => ?_) (And.intro vl (nm_r (e' := upd K L 1) (by rw [zl]) (And.intro vi (And.intro vl (nm_r (e' := upd H L (ya i)) (by rw [zl, zi]) (nm_r (nI_1 i) (nm_r (nI_1 L) (nm_r (nI_1 g) ?_)))))))))))))
        · rw [fM] at w
          exact absurd w.symm (pd_ne1 (by omega))
        · rw [fM] at w
          exact absurd w (by decide)
        · rw [← ecm2]
          exact ih (i + 1) j (g + 1) (L + 1) _ _ (by omega) (by omega) (by omega) hj (by omega) (fun x y h1 h2 h3 => ho x y (by omega) h2 h3) (fun L' K' H' e => k L' K' H' (by rw [pd_sc_d c hv]; exact e))
      | some y =>
        have hy := ho i y (Nat.le_refl _) c hv
        have hy2 := hV.1 i y (by omega) c hv
        rw [hM i c, hv, if_neg (show ¬ pd_e (some y) = -1 from pd_ne1 (by omega))] at ecm
        rw [hv] at fM
        by_cases e : y = j
        · subst e
          refine br_f f149 (And.intro vi (br_t fM (And.intro vl (nm_r (e' := upd K L 0) (by rw [zl]) (And.intro vi (And.intro vl (nm_r (e' := upd H L (ya i)) (by rw [zl, zi]) (nm_r (nI_1 i) (nm_r (nI_1 y) (nm_r (nI_1 _) (nm_r (nI_1 L) (nm_r (nI_1 g) ?_))))))))))))
          rw [← ecm]
          exact ih (i + 1) (y + 1) (g + 1) (L + 1) _ _ (by omega) (by omega) (by omega) (by omega) (by omega) (fun x w h1 h2 h3 => by have := hV.2 i x y w (by omega) (by omega) h2 hv h3; omega) (fun L' K' H' e => k L' K' H' (by rw [pd_sc_k c hv]; exact e))
        · refine br_f f149 (And.intro vi (br_f (fun w => ?_) (br_f f149 (And.intro vi (br_t ?_ (ins (by omega) (fun L' K' H' e2 => k L' K' H' (by rw [pd_sc_i c hv e]; exact e2)) (fun x w h1 h2 h3 => ?_)))))))
          · rw [fM] at w
            exact e (pd_im w (by omega) (by omega))
          · rw [fM]
            exact nI_pos' (by omega)
          · by_cases ex : x = i
            · subst ex
              rw [hv] at h3
              cases h3
              omega
            · have := hV.2 i x y w (by omega) (by omega) h2 hv h3
              omega
    · have ei : i = n := by omega
      have ej : j = m := by omega
      subst ei ej
      exact k L K H (pd_sc_0 (Nat.le_refl _) (Nat.le_refl _))
    · have f149 : nI n ≤ nI i := nI_le c (by omega)
      exact br_t f149 (br_t f149 (ins c2 (fun L' K' H' e2 => k L' K' H' (by rw [pd_sc_t c c2]; exact e2)) (fun x w h1 h2 h3 => by omega)))
/-! nearChange -/
theorem pd_ctx {C e : Nat} (hC : C ≤ 3) (he : e ≤ 64) : nI C - 1 < nI e ↔ C ≤ e := by
  rw [Int32.lt_iff_toInt_lt, show (1 : Int32) = nI 1 from rfl, pk_sub_toInt (by omega) (by decide), nI_toInt (by omega)]
  omega
theorem ya_near46 {post : Int32 → Prop} {C L p : Nat} (hC : C ≤ 3) (hL : L ≤ 64) (hp : p < L) (k1 : pd_af yki C L p → post 1) (k0 : ¬ pd_af yki C L p → post 0) :
    ∀ d q, q + d = L → p < q → (∀ r, p < r → r < q → yki r = 0) → wY_nearChange_46 post ycp (nI C) yn ym yz yrl (nI L) ysp yna yhd yhr ya yb ybs yrs ytm yat yta yma yki yha yin ys0 ys1 ys2 ys3 yai yaj yal yci ycj yt (d + 1) (nI (q - (p + 1))) (nI q) := by
  intro d
  induction d with
  | zero =>
    intro q hq hpq hz
    have eq : q = L := by omega
    subst eq
    refine br_t (nI_le (Nat.le_refl _) (by omega)) (k0 (fun ⟨r, r1, r2, r3, r4⟩ => r4 (hz r r1 r2)))
  | succ d ih =>
    intro q hq hpq hz
    have z : (nI q).toNatClampNeg = q := nI_clamp (by omega)
    refine br_f (nI_ge (by omega) (by omega)) (And.intro (vp_in_nI (by omega) (by decide)) (br_c (fun c => ?_) (fun c => br_c (fun c2 => k0 ?_) (fun c2 => k1 ?_))))
    · rw [z] at c
      refine nm_r (e' := nI (q + 1 - (p + 1))) (by rw [nI_1]; exact congrArg nI (by omega)) (nm_r (nI_1 q) (ih (q + 1) (by omega) (by omega) (fun r r1 r2 => ?_)))
      by_cases e : r = q
      · rw [e]; exact c
      · exact hz r r1 (by omega)
    · rw [pd_ctx hC (by omega)] at c2
      intro ⟨r, r1, r2, r3, r4⟩
      by_cases e : r < q
      · exact r4 (hz r r1 e)
      · omega
    · rw [z] at c
      rw [pd_ctx hC (by omega)] at c2
      exact ⟨q, hpq, by omega, by omega, c⟩
theorem ya_near6 {post : Int32 → Prop} {C L p : Nat} (hC : C ≤ 3) (hL : L ≤ 64) (hp : p < L) (k1 : pd_bf yki C p ∨ pd_af yki C L p → post 1) (k0 : ¬ (pd_bf yki C p ∨ pd_af yki C L p) → post 0) :
    ∀ r, r ≤ p → (∀ q, r ≤ q → q < p → yki q = 0) → wY_nearChange_6 post (nI p) ycp (nI C) yn ym yz yrl (nI L) ysp yna yhd yhr ya yb ybs yrs ytm yat yta yma yki yha yin ys0 ys1 ys2 ys3 yai yaj yal yci ycj yt (r + 1) (nI (p - r)) (nI r - 1) := by
  have fw : ¬ pd_bf yki C p → ∃ n46, wY_nearChange_46 post ycp (nI C) yn ym yz yrl (nI L) ysp yna yhd yhr ya yb ybs yrs ytm yat yta yma yki yha yin ys0 ys1 ys2 ys3 yai yaj yal yci ycj yt n46 0 (nI (p + 1)) := fun hb => by
    have := ya_near46 (post := post) (ycp := ycp) (yn := yn) (ym := ym) (yz := yz) (yrl := yrl) (ysp := ysp) (yna := yna) (yhd := yhd) (yhr := yhr) (ya := ya) (yb := yb) (ybs := ybs) (yrs := yrs) (ytm := ytm) (yat := yat) (yta := yta) (yma := yma) (yki := yki) (yha := yha) (yin := yin) (ys0 := ys0) (ys1 := ys1) (ys2 := ys2) (ys3 := ys3) (yai := yai) (yaj := yaj) (yal := yal) (yci := yci) (ycj := ycj) (yt := yt) hC hL hp (fun h => k1 (Or.inr h)) (fun h => k0 (fun w => by
      rcases w with w | w
      · exact hb w
      · exact h w)) (L - (p + 1)) (p + 1) (by omega) (by omega) (fun r r1 r2 => by omega)
    rw [Nat.sub_self] at this
    exact ⟨_, this⟩
  intro r
  induction r with
  | zero =>
    intro hr hz
    refine br_t (by decide) (nm_r (nI_1 p) (fw ?_))
    intro ⟨q, q1, q2, q3⟩
    exact q3 (hz q (Nat.zero_le _) q1)
  | succ r ih =>
    intro hr hz
    have z : (nI r).toNatClampNeg = r := nI_clamp (by omega)
    rw [nI_pred]
    refine br_f (nI_pos (by omega)) (And.intro (vp_in_nI (by omega) (by decide)) (br_c (fun c => ?_) (fun c => br_c (fun c2 => nm_r (nI_1 p) (fw ?_)) (fun c2 => k1 (Or.inl ?_)))))
    · rw [z] at c
      refine nm_r (e' := nI (p - r)) (by rw [nI_1]; exact congrArg nI (by omega)) (nm_r (pd_sub1 _) (ih (by omega) (fun q q1 q2 => ?_)))
      by_cases e : q = r
      · rw [e]; exact c
      · exact hz q (by omega) q2
    · rw [pd_ctx hC (by omega)] at c2
      intro ⟨q, q1, q2, q3⟩
      by_cases e : r < q
      · exact q3 (hz q e q1)
      · omega
    · rw [z] at c
      rw [pd_ctx hC (by omega)] at c2
      exact ⟨r, by omega, by omega, c⟩
theorem ya_near {post : Int32 → Prop} {C L p : Nat} (hC : C ≤ 3) (hL : L ≤ 64) (hp : p < L) (k1 : pd_bf yki C p ∨ pd_af yki C L p → post 1) (k0 : ¬ (pd_bf yki C p ∨ pd_af yki C L p) → post 0) : wpY_nearChange post (ycp, nI C, yn, ym, yz, yrl, nI L, ysp, yna, yhd, yhr, ya, yb, ybs, yrs, ytm, yat, yta, yma, yki, yha, yin, ys0, ys1, ys2, ys3, yai, yaj, yal, yci, ycj, yt) (nI p) := by
  have := ya_near6 (post := post) (ycp := ycp) (yn := yn) (ym := ym) (yz := yz) (yrl := yrl) (ysp := ysp) (yna := yna) (yhd := yhd) (yhr := yhr) (ya := ya) (yb := yb) (ybs := ybs) (yrs := yrs) (ytm := ytm) (yat := yat) (yta := yta) (yma := yma) (yki := yki) (yha := yha) (yin := yin) (ys0 := ys0) (ys1 := ys1) (ys2 := ys2) (ys3 := ys3) (yai := yai) (yaj := yaj) (yal := yal) (yci := yci) (ycj := ycj) (yt := yt) hC hL hp k1 k0 p (Nat.le_refl _) (fun q q1 q2 => by omega)
  rw [Nat.sub_self] at this
  exact nm_e ⟨_, this⟩
theorem ya_inc327 {post : Int32 → SY → Prop} {C L : Nat} {x3 : Int32} (hC : C ≤ 3) (hL : L ≤ 64)
    (k : ∀ I, (∀ q, q < L → pd_tf (I q) (pd_nc yki C L q)) → (∀ q, L ≤ q → I q = yin q) → post x3 (ycp, nI C, yn, ym, yz, yrl, nI L, ysp, yna, 1, 0, ya, yb, ybs, yrs, ytm, yat, yta, yma, yki, yha, I, ys0, ys1, ys2, ys3, yai, yaj, yal, yci, ycj, yt)) :
    ∀ d p I, p + d = L → (∀ q, q < p → pd_tf (I q) (pd_nc yki C L q)) → (∀ q, L ≤ q → I q = yin q) → wY_diff_327 post x3 ycp (nI C) yn ym yz yrl (nI L) ysp yna yhd yhr (d + 1) (nI p) ya yb ybs yrs ytm yat yta yma yki yha I ys0 ys1 ys2 ys3 yai yaj yal yci ycj yt := by
  intro d
  induction d with
  | zero =>
    intro p I hp hI hI2
    have ep : p = L := by omega
    subst ep
    exact br_t (nI_le (Nat.le_refl _) (by omega)) (k I hI hI2)
  | succ d ih =>
    intro p I hp hI hI2
    have z : (nI p).toNatClampNeg = p := nI_clamp (by omega)
    have v : vp_in (nI p) 64 := vp_in_nI (by omega) (by decide)
    have up : ∀ x, pd_tf x (pd_nc yki C L p) → wY_diff_327 post x3 ycp (nI C) yn ym yz yrl (nI L) ysp yna yhd yhr (d + 1) (nI (p + 1)) ya yb ybs yrs ytm yat yta yma yki yha (upd I p x) ys0 ys1 ys2 ys3 yai yaj yal yci ycj yt := fun x hx => by
      refine ih (p + 1) _ (by omega) (fun q hq => ?_) (fun q hq => ?_)
      · by_cases c1 : q = p
        · subst c1; rw [pk_us]; exact hx
        · rw [pk_un c1]; exact hI q (by omega)
      · rw [pk_un (by omega)]; exact hI2 q hq
    refine br_f (nI_ge (by omega) (by omega)) (And.intro v (br_c (fun c => ?_) (fun c => ?_)))
    · rw [z] at c
      refine ya_near hC hL (by omega) (fun w => ?_) (fun w => ?_)
      · exact br_f (by decide) (And.intro v (nm_r (e' := upd I p 1) (by rw [z, pd_nb1]) (nm_r (nI_1 p) (up 1 ⟨fun _ => rfl, fun w2 => absurd (Or.inr w) w2⟩))))
      · refine br_t rfl (And.intro v (nm_r (e' := upd I p 0) (by rw [z, pd_nb0]) (nm_r (nI_1 p) (up 0 ⟨fun w2 => ?_, fun _ => rfl⟩))))
        rcases w2 with w2 | w2
        · exact absurd c w2
        · exact absurd w2 w
    · rw [z] at c
      exact And.intro v (nm_r (e' := upd I p 1) (by rw [z, pd_nb1]) (nm_r (nI_1 p) (up 1 ⟨fun _ => rfl, fun w2 => absurd (Or.inl c) w2⟩)))
theorem ya_diff {post : Int32 → SY → Prop} {C : Nat} (hn : n ≤ 32) (hm : m ≤ 32) (hC : C ≤ 3)
    (k : ∀ M I G0 G1 G2 G3 na AO AN AR CI CJ T sp, (∀ x, x < n → M x = pd_e (pd_V0 ya yb n m x)) →
      (∀ q, q < (pd_S ya yb n m yki yha).1 → pd_tf (I q) (pd_nc (pd_S ya yb n m yki yha).2.1 C (pd_S ya yb n m yki yha).1 q)) → (∀ q, (pd_S ya yb n m yki yha).1 ≤ q → I q = yin q) →
      post (nI (pd_cm M n)) (ycp, nI C, nI n, nI m, yz, yrl, nI (pd_S ya yb n m yki yha).1, sp, na, 1, 0, ya, yb, ybs, yrs, ytm, yat, yta, M, (pd_S ya yb n m yki yha).2.1, (pd_S ya yb n m yki yha).2.2, I, G0, G1, G2, G3, AO, AN, AR, CI, CJ, T)) :
    wpY_diff post (ycp, nI C, nI n, nI m, yz, yrl, ysl, ysp, yna, yhd, yhr, ya, yb, ybs, yrs, ytm, yat, yta, yma, yki, yha, yin, ys0, ys1, ys2, ys3, yai, yaj, yal, yci, ycj, yt) := by
  have hS := pd_S_ok (a := ya) (b := yb) (n := n) (m := m) (K := yki) (H := yha)
  have hL : (pd_S ya yb n m yki yha).1 ≤ 64 := by have := hS.2.2.1; omega
  refine ⟨_, ya_df2 (V0 := pd_V0 ya yb n m) hn hm pd_V0_gk (fun M G0 G1 G2 G3 na AO AN AR CI CJ T sp hM => ⟨_, ya_sc126 (V0 := pd_V0 ya yb n m) hn hm pd_V0_ok hM (n + m) 0 0 0 0 yki yha (by omega) (by omega) (Nat.zero_le _) (Nat.zero_le _) (Nat.zero_le _) (fun x y _ _ _ => Nat.zero_le y) (fun L K H e => ?_)⟩) 32 0 yma rfl (fun x hx => absurd hx (Nat.not_lt_zero _))⟩
  have e' : pd_S ya yb n m yki yha = (L, K, H) := e
  rw [e'] at k hL
  dsimp only at k hL
  exact ⟨_, ya_inc327 hC hL (fun I h1 h2 => k M I G0 G1 G2 G3 na AO AN AR CI CJ T sp hM h1 h2) L 0 yin (by omega) (fun q hq => absurd hq (Nat.not_lt_zero _)) (fun q _ => rfl)⟩
end YDI
