/-! Y: refine, and diff's loop over the stack -/
section YRE
variable {ycp ycx yn ym yz yrl ysl ysp yna yhd yhr : Int32} {ya yb ybs yrs ytm yat yta yma yki yha yin ys0 ys1 ys2 ys3 yai yaj yal yci ycj yt : Nat → Int32}
variable {n m : Nat} {V0 : Nat → Option Nat}
theorem ya_prefix {post : SY → Prop} {lo hi : Nat} {gp : Nat → pd_g} {al ah bl bh : Nat} (h0 : al ≤ ah) (h1 : ah ≤ n) (h2 : n ≤ 32) (h4 : bl ≤ bh) (h3 : bh ≤ 32)
    (hV : ∀ x, x < pd_p ya yb al ah bl bh → V0 (al + x) = some (bl + x)) (hI : pd_I ya yb n m V0 lo hi gp al ah yma)
    (K : ∀ M', pd_I ya yb n m V0 lo hi gp (al + pd_p ya yb al ah bl bh) ah M' → ∃ n58, wY_refine_58 post (nI (al + pd_p ya yb al ah bl bh)) (nI (bl + pd_p ya yb al ah bl bh)) ycp ycx yn ym yz yrl ysl ysp yna yhd yhr n58 (nI ah) (nI bh) 0 ya yb ybs yrs ytm yat yta M' yki yha yin ys0 ys1 ys2 ys3 yai yaj yal yci ycj yt) :
    wpY_refine post (ycp, ycx, yn, ym, yz, yrl, ysl, ysp, yna, yhd, yhr, ya, yb, ybs, yrs, ytm, yat, yta, yma, yki, yha, yin, ys0, ys1, ys2, ys3, yai, yaj, yal, yci, ycj, yt) (nI al) (nI ah) (nI bl) (nI bh) :=
  ⟨_, ya_pre3 h1 h2 h3 _ al bl 0 yma rfl (by omega) h0 h4 hV hI K⟩
theorem ya_suffix {post : SY → Prop} {lo hi : Nat} {gp : Nat → pd_g} {al ah bl bh : Nat} (h0 : al ≤ ah) (h1 : ah ≤ n) (h2 : n ≤ 32) (h4 : bl ≤ bh) (h3 : bh ≤ 32)
    (hV : ∀ x, x < pd_s ya yb al ah bl bh → V0 (ah - 1 - x) = some (bh - 1 - x)) (hI : pd_I ya yb n m V0 lo hi gp al ah yma)
    (K : ∀ M', pd_I ya yb n m V0 lo hi gp al (ah - pd_s ya yb al ah bl bh) M' → wY_refine_120 post (nI al) (nI (ah - pd_s ya yb al ah bl bh)) (nI bl) (nI (bh - pd_s ya yb al ah bl bh)) ycp ycx yn ym yz yrl ysl ysp yna yhd yhr ya yb ybs yrs ytm yat yta M' yki yha yin ys0 ys1 ys2 ys3 yai yaj yal yci ycj yt) :
    ∃ n58, wY_refine_58 post (nI al) (nI bl) ycp ycx yn ym yz yrl ysl ysp yna yhd yhr n58 (nI ah) (nI bh) 0 ya yb ybs yrs ytm yat yta yma yki yha yin ys0 ys1 ys2 ys3 yai yaj yal yci ycj yt :=
  ⟨_, ya_suf58 h2 _ ah bh 0 yma rfl (by omega) h0 h4 h1 h3 hV hI K⟩
theorem ya_refine {post : SY → Prop} {sp al ah bl bh S0 : Nat} {gp : Nat → pd_g} (hlt : al < ah) (hg : pd_gk ya yb n m V0 (al, ah, bl, bh)) (hn : n ≤ 32) (hm : m ≤ 32) (hI : pd_I ya yb n m V0 0 sp gp al ah yma) (hE : pd_nE gp sp) (hS : pd_sm gp sp + (ah - al) ≤ S0) (hS0 : S0 ≤ 32) (hR : pd_rp 0 sp gp ys0 ys1 ys2 ys3)
    (K : ∀ sp' gp' M G0 G1 G2 G3 na AO AN AR CI CJ T, pd_I ya yb n m V0 0 sp' gp' 0 0 M → pd_nE gp' sp' → pd_sm gp' sp' + 1 ≤ S0 → pd_rp 0 sp' gp' G0 G1 G2 G3 → post (ycp, ycx, yn, ym, yz, yrl, ysl, nI sp', na, yhd, yhr, ya, yb, ybs, yrs, ytm, yat, yta, M, yki, yha, yin, G0, G1, G2, G3, AO, AN, AR, CI, CJ, T)) :
    wpY_refine post (ycp, ycx, yn, ym, yz, yrl, ysl, nI sp, yna, yhd, yhr, ya, yb, ybs, yrs, ytm, yat, yta, yma, yki, yha, yin, ys0, ys1, ys2, ys3, yai, yaj, yal, yci, ycj, yt) (nI al) (nI ah) (nI bl) (nI bh) := by
  obtain ⟨k1, k2, k3, k4, f, k5, k6⟩ := hg
  dsimp only at k1 k2 k3 k4 k5 k6
  obtain ⟨f, rfl⟩ : ∃ f', f = f' + 1 := ⟨f - 1, by omega⟩
  have hp := pd_p_le (a := ya) (b := yb) (al := al) (ah := ah) (bl := bl) (bh := bh)
  have hV1 : ∀ x, x < pd_p ya yb al ah bl bh → V0 (al + x) = some (bl + x) := fun x hx => by
    rw [k6 (al + x) ⟨by dsimp only; omega, by dsimp only; omega⟩]
    exact pd_V_pre hx
  have hV2 : ∀ x, al + pd_p ya yb al ah bl bh ≤ x → x < ah → V0 x = pd_vt ya yb (pd_V ya yb f) (al + pd_p ya yb al ah bl bh) ah (bl + pd_p ya yb al ah bl bh) bh x := fun x x1 x2 => by
    rw [k6 x ⟨by dsimp only; omega, x2⟩]
    exact pd_V_mid x1
  refine ya_prefix (V0 := V0) (gp := gp) k1 k2 hn k3 (by omega) hV1 hI (fun M1 hM1 => ?_)
  generalize eP : pd_p ya yb al ah bl bh = P at *
  have hs := pd_s_le (a := ya) (b := yb) (al := al + P) (ah := ah) (bl := bl + P) (bh := bh)
  refine ya_suffix (V0 := V0) (gp := gp) (al := al + P) (ah := ah) (bl := bl + P) (bh := bh) (by omega) k2 hn (by omega) (by omega) (fun x hx => ?_) hM1 (fun M2 hM2 => ?_)
  · rw [hV2 _ (by omega) (by omega)]
    exact pd_vt_suf hx
  generalize eS : pd_s ya yb (al + P) ah (bl + P) bh = S at *
  have hV3 : ∀ x, al + P ≤ x → x < ah - S → V0 x = pd_vm ya yb (pd_V ya yb f) (al + P) (ah - S) (bl + P) (bh - S) x := fun x x1 x2 => by
    rw [hV2 x x1 (by omega), pd_vt_mid (by rw [eS]; exact x2), eS]
  generalize eAl : al + P = al' at *
  generalize eAh : ah - S = ah' at *
  generalize eBl : bl + P = bl' at *
  generalize eBh : bh - S = bh' at *
  have hend : al' = ah' ∨ bl' = bh' → pd_I ya yb n m V0 0 sp gp 0 0 M2 := fun c => by
    refine pd_I_em (pd_I_sk (x0 := ah') hM2 (by omega) (fun x x1 x2 => ?_)) (Nat.le_refl _) (Nat.le_refl _)
    rw [hV3 x x1 x2]
    unfold pd_vm
    rw [if_pos c]
  refine pk_eq al' ah' (fun c => ?_) (fun c => pk_eq bl' bh' (fun c2 => ?_) (fun c2 => ?_))
  · exact K sp gp M2 _ _ _ _ _ _ _ _ _ _ _ (hend (Or.inl c)) hE (by omega) hR
  · exact K sp gp M2 _ _ _ _ _ _ _ _ _ _ _ (hend (Or.inr c2)) hE (by omega) hR
  refine ⟨_, ya_anch140 (al := al') (ah := ah') (bl := bl') (bh := bh') (by omega) (by omega) (by omega) (by omega) (fun AO AN hA => ⟨fun hz => ?_, fun hz => ?_⟩) (ah' - al') 0 yai yaj (by omega) (fun p hp => absurd hp (Nat.not_lt_zero _))⟩
  · refine ya_lcs (V0 := V0) (gp := gp) (lo := 0) (hi := sp) (by omega) (by omega) hn (by omega) (by omega) (fun x x1 x2 => ?_) hM2 (fun M T hM => ?_)
    · rw [hV3 x x1 x2]
      unfold pd_vm
      rw [if_neg (by omega), if_pos hz]
    · exact K sp gp M _ _ _ _ _ _ _ _ _ _ _ (pd_I_em hM (Nat.le_refl _) (Nat.le_refl _)) hE (by omega) hR
  · have hcv : pd_cv ya yb n m V0 al' ah' bl' bh' := pd_vm_cv hz (by omega) (by omega) (by omega) (by omega) (by omega) (by omega) hV3
    exact ya_chain (V0 := V0) (gp := gp) (S0 := S0) (sp := sp) hz (by omega) (by omega) hn (by omega) (by omega) hcv hA hS0 hM2 hE (by omega) hR (fun sp' gp' M G0 G1 G2 G3 AR CI CJ q1 q2 q3 q4 => K sp' gp' M G0 G1 G2 G3 _ _ _ AR CI CJ _ q1 q2 q3 q4)
theorem ya_df42 {post : Int32 → SY → Prop} (hn : n ≤ 32) (hm : m ≤ 32)
    (K : ∀ M G0 G1 G2 G3 na AO AN AR CI CJ T sp, (∀ x, x < n → M x = pd_e (V0 x)) → wY_diff_112 post ycp ycx yn ym yz yrl ysl sp na yhd yhr ya yb ybs yrs ytm yat yta M yki yha yin G0 G1 G2 G3 AO AN AR CI CJ T) :
    ∀ k it sp gp M G0 G1 G2 G3 na AO AN AR CI CJ T, pd_sm gp sp ≤ k → it + pd_sm gp sp ≤ 32 → pd_I ya yb n m V0 0 sp gp 0 0 M → pd_nE gp sp → pd_rp 0 sp gp G0 G1 G2 G3 →
    wY_diff_42 post (k + 1) (nI it) ycp ycx yn ym yz yrl ysl (nI sp) na yhd yhr ya yb ybs yrs ytm yat yta M yki yha yin G0 G1 G2 G3 AO AN AR CI CJ T := by
  intro k
  induction k with
  | zero =>
    intro it sp gp M G0 G1 G2 G3 na AO AN AR CI CJ T hk hit hI hE hR
    have hsp := pd_nE_sm sp hE
    exact pk_le 300 it (fun c => absurd c (by omega)) (fun c => pk_le sp 0 (fun c2 => K M _ _ _ _ _ _ _ _ _ _ _ _ (fun x hx => pd_I_fin hI (Nat.le_refl 0) c2 hx)) (fun c2 => absurd c2 (by omega)))
  | succ k ih =>
    intro it sp gp M G0 G1 G2 G3 na AO AN AR CI CJ T hk hit hI hE hR
    have hsp := pd_nE_sm sp hE
    refine pk_le 300 it (fun c => absurd c (by omega)) (fun c => pk_le sp 0 (fun c2 => K M _ _ _ _ _ _ _ _ _ _ _ _ (fun x hx => pd_I_fin hI (Nat.le_refl 0) c2 hx)) (fun c2 => ?_))
    obtain ⟨s, rfl⟩ : ∃ s, sp = s + 1 := ⟨sp - 1, by omega⟩
    obtain ⟨r0, r1, r2, r3⟩ := hR s (Nat.zero_le _) (by omega)
    have hgk := hI.1 s (Nat.zero_le _) (by omega)
    have hI1 := pd_I_pb hI (Nat.le_refl 0) (Nat.zero_le _)
    have hE1 := hE s (by omega)
    have hs1 := pd_sm_s gp s
    obtain ⟨al, ah, bl, bh, eg⟩ : ∃ al ah bl bh, gp s = (al, ah, bl, bh) := ⟨_, _, _, _, rfl⟩
    rw [eg] at r0 r1 r2 r3 hgk hI1 hE1 hs1
    dsimp only at r0 r1 r2 r3 hI1 hE1 hs1
    have z : (nI s).toNatClampNeg = s := nI_clamp (by omega)
    have v : vp_in (nI s) 40 := vp_in_nI (by omega) (by decide)
    refine nm_r (nI_pred s) (And.intro v (And.intro v (And.intro v (And.intro v ?_))))
    rw [z, r0, r1, r2, r3]
    refine ya_refine (V0 := V0) (gp := gp) (S0 := pd_sm gp (s + 1)) hE1 hgk hn hm hI1 (fun q hq => hE q (by omega)) (by omega) (by omega) (fun q q1 q2 => hR q q1 (by omega)) (fun sp' gp' M' G0 G1 G2 G3 na AO AN AR CI CJ T q1 q2 q3 q4 => ?_)
    dsimp only
    exact nm_r (nI_1 it) (ih (it + 1) sp' gp' M' _ _ _ _ _ _ _ _ _ _ _ (by omega) (by omega) q1 q2 q4)
theorem ya_df2 {post : Int32 → SY → Prop} (hn : n ≤ 32) (hm : m ≤ 32) (hV : pd_gk ya yb n m V0 (0, n, 0, m))
    (K : ∀ M G0 G1 G2 G3 na AO AN AR CI CJ T sp, (∀ x, x < n → M x = pd_e (V0 x)) → wY_diff_112 post ycp ycx (nI n) (nI m) yz yrl ysl sp na yhd yhr ya yb ybs yrs ytm yat yta M yki yha yin G0 G1 G2 G3 AO AN AR CI CJ T) :
    ∀ d i M, i + d = 32 → (∀ x, x < i → M x = -1) → wY_diff_2 post ycp ycx (nI n) (nI m) yz yrl ysl ysp yna yhd yhr (d + 1) (nI i) ya yb ybs yrs ytm yat yta M yki yha yin ys0 ys1 ys2 ys3 yai yaj yal yci ycj yt := by
  intro d
  induction d with
  | zero =>
    intro i M hi hM
    have ei : i = 32 := by omega
    subst ei
    refine br_t (nI_le (b := 32) (Nat.le_refl _) (by omega)) (ya_push (n := n) (m := m) (V0 := V0) (gp := fun _ => (0, 0, 0, 0)) (sp := 0) (a0 := 0) (a1 := n) (b0 := 0) (b1 := m) (S := n) (M := M) (H := n) (Nat.zero_le _) (Nat.zero_le _) (Nat.le_refl _) hn hm hV (pd_I_1 (fun x hx => hM x (by omega))) (fun q hq => absurd hq (Nat.not_lt_zero _)) (by show 0 + (n - 0) ≤ n; omega) hn (fun q _ hq => absurd hq (Nat.not_lt_zero _)) (fun sp' gp' G0 G1 G2 G3 q1 q2 q3 q4 => ?_))
    dsimp only
    have q3' : pd_sm gp' sp' ≤ 0 + (n - 0) := q3
    exact ⟨_, ya_df42 (V0 := V0) hn hm K (pd_sm gp' sp') 0 sp' gp' M _ _ _ _ _ _ _ _ _ _ _ (Nat.le_refl _) (by omega) (pd_I_em q1 (Nat.le_refl _) (Nat.le_refl _)) q2 q4⟩
  | succ d ih =>
    intro i M hi hM
    have z : (nI i).toNatClampNeg = i := nI_clamp (by omega)
    refine br_f (nI_ge (b := 32) (by omega) (by omega)) (And.intro (vp_in_nI (by omega) (by decide)) (nm_r (e' := upd M i (-1)) (by rw [z]) (nm_r (nI_1 i) (ih (i + 1) _ (by omega) (fun x hx => ?_)))))
    by_cases e : x = i
    · subst e; rw [pk_us]
    · rw [pk_un e]; exact hM x (by omega)
end YRE
