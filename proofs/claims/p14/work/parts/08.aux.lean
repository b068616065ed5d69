/-! what the walks of both sides need: the answer of onlyPlace, anchors in arrays, the scan back over the anchors, the table in its array, gaps in their arrays -/
def pd_op (f : Nat → Int32) (v : Int32) (lo k : Nat) : Int32 := if pd_ct f v lo k = 1 then nI (pd_lp f v lo k) else -1
def pd_pl (f : Nat → Int32) (v : Int32) (lo k : Nat) : Int32 := if pd_ct f v lo k = 0 then -1 else nI (pd_lp f v lo k)
theorem pd_pl_y {f : Nat → Int32} {v : Int32} {lo k : Nat} (h : f (lo + k) = v) : pd_pl f v lo (k + 1) = nI (lo + k) := by
  unfold pd_pl
  rw [pd_ct_s, pd_lp_s, if_pos h, if_pos h, if_neg (by omega)]
theorem pd_pl_n {f : Nat → Int32} {v : Int32} {lo k : Nat} (h : ¬ f (lo + k) = v) : pd_pl f v lo (k + 1) = pd_pl f v lo k := by
  unfold pd_pl
  rw [pd_ct_s, pd_lp_s, if_neg h, if_neg h, Nat.add_zero]
theorem pd_ct_y {f : Nat → Int32} {v : Int32} {lo k : Nat} (h : f (lo + k) = v) : pd_ct f v lo (k + 1) = pd_ct f v lo k + 1 := by
  rw [pd_ct_s, if_pos h]
theorem pd_ct_n {f : Nat → Int32} {v : Int32} {lo k : Nat} (h : ¬ f (lo + k) = v) : pd_ct f v lo (k + 1) = pd_ct f v lo k := by
  rw [pd_ct_s, if_neg h, Nat.add_zero]
def pd_ar (s : Nat × (Nat → Nat) × (Nat → Nat)) (AO AN : Nat → Int32) : Prop := ∀ p, p < s.1 → AO p = nI (s.2.1 p) ∧ AN p = nI (s.2.2 p)
theorem pd_ar_y {a b : Nat → Int32} {al ah bl bh k : Nat} {AO AN : Nat → Int32} (h : pd_ar (pd_an a b al ah bl bh k) AO AN) (h1 : pd_ct a (a (al + k)) al (ah - al) = 1) (h2 : pd_ct b (a (al + k)) bl (bh - bl) = 1) : (pd_an a b al ah bl bh (k + 1)).1 = (pd_an a b al ah bl bh k).1 + 1 ∧ pd_ar (pd_an a b al ah bl bh (k + 1)) (upd AO (pd_an a b al ah bl bh k).1 (nI (al + k))) (upd AN (pd_an a b al ah bl bh k).1 (nI (pd_lp b (a (al + k)) bl (bh - bl)))) := by
  rw [pd_an_s, if_pos ⟨h1, h2⟩]
  refine ⟨rfl, fun p hp => ?_⟩
  dsimp only at hp ⊢
  by_cases e : p = (pd_an a b al ah bl bh k).1
  · subst e
    rw [pk_us, pk_us, pd_un_s, pd_un_s]
    exact ⟨rfl, rfl⟩
  · rw [pk_un e, pk_un e, pd_un_n e, pd_un_n e]
    exact h p (by omega)
theorem pd_an_n {a b : Nat → Int32} {al ah bl bh k : Nat} (h : ¬ (pd_ct a (a (al + k)) al (ah - al) = 1 ∧ pd_ct b (a (al + k)) bl (bh - bl) = 1)) : pd_an a b al ah bl bh (k + 1) = pd_an a b al ah bl bh k := by
  rw [pd_an_s, if_neg h]
/-! the scan back: d chosen, r anchors left -/
def pd_pc (ao aj rk : Nat → Nat) (na K : Nat) : Nat → Option Nat
  | 0 => none
  | d + 1 => pd_cd ao aj rk na K d
def pd_X (s : Nat × (Nat → Nat) × (Nat → Nat)) (d r : Nat) : Prop :=
  d ≤ pd_K s ∧ r ≤ s.1 ∧ (d < pd_K s → pd_cd s.2.1 s.2.2 (pd_rk s.2.2) s.1 (pd_K s) d = pd_la (pd_Q s.2.1 s.2.2 (pd_rk s.2.2) (pd_pc s.2.1 s.2.2 (pd_rk s.2.2) s.1 (pd_K s) d) (pd_K s - d)) r) ∧ (0 < d → r ≤ pd_c s (d - 1))
theorem pd_X_0 (s : Nat × (Nat → Nat) × (Nat → Nat)) : pd_X s 0 s.1 := ⟨Nat.zero_le _, Nat.le_refl _, fun _ => rfl, fun h => by omega⟩
section PDX
variable {a b : Nat → Int32} {al ah bl bh : Nat}
theorem pd_X_end {d : Nat} (h0 : (pd_A a b al ah bl bh).1 ≠ 0) (h : pd_X (pd_A a b al ah bl bh) d 0) : d = pd_K (pd_A a b al ah bl bh) := by
  obtain ⟨h1, h2, h3, h4⟩ := h
  by_cases c : d < pd_K (pd_A a b al ah bl bh)
  · have := h3 c
    rw [(pd_c_k h0 c).1] at this
    exact nomatch this
  · omega
theorem pd_X_Q {d r : Nat} (h0 : (pd_A a b al ah bl bh).1 ≠ 0) (ha : al ≤ ah) (h : pd_X (pd_A a b al ah bl bh) d (r + 1)) (hd : d < pd_K (pd_A a b al ah bl bh)) :
    pd_Q (pd_A a b al ah bl bh).2.1 (pd_A a b al ah bl bh).2.2 (pd_rk (pd_A a b al ah bl bh).2.2) (pd_pc (pd_A a b al ah bl bh).2.1 (pd_A a b al ah bl bh).2.2 (pd_rk (pd_A a b al ah bl bh).2.2) (pd_A a b al ah bl bh).1 (pd_K (pd_A a b al ah bl bh)) d) (pd_K (pd_A a b al ah bl bh) - d) r = true ↔ (pd_rk (pd_A a b al ah bl bh).2.2 r = pd_K (pd_A a b al ah bl bh) - d ∧ (pd_A a b al ah bl bh).2.2 r < pd_hi bh (pd_E (pd_A a b al ah bl bh)) d) := by
  have hA := pd_an_k (a := a) (b := b) (al := al) (ah := ah) (bl := bl) (bh := bh) (ah - al)
  have hA2 : pd_an a b al ah bl bh (ah - al) = pd_A a b al ah bl bh := rfl
  rw [hA2] at hA
  obtain ⟨h1, h2, h3, h4⟩ := h
  cases d with
  | zero =>
    have hr := hA.2.1 r (by omega)
    constructor
    · intro z
      exact ⟨of_decide_eq_true z, hr.2.2.2.1⟩
    · intro z
      exact decide_eq_true z.1
  | succ d =>
    have hc := pd_c_k h0 (d := d) (by omega)
    have e : pd_pc (pd_A a b al ah bl bh).2.1 (pd_A a b al ah bl bh).2.2 (pd_rk (pd_A a b al ah bl bh).2.2) (pd_A a b al ah bl bh).1 (pd_K (pd_A a b al ah bl bh)) (d + 1) = some (pd_c (pd_A a b al ah bl bh) d) := hc.1
    rw [e]
    have hr : r + 1 ≤ pd_c (pd_A a b al ah bl bh) d := h4 (by omega)
    constructor
    · intro z
      have z2 := of_decide_eq_true z
      exact ⟨z2.1, z2.2.2⟩
    · intro z
      exact decide_eq_true ⟨z.1, hA.2.2 r _ (by omega) hc.2.1, z.2⟩
theorem pd_X_hit {d r : Nat} (h0 : (pd_A a b al ah bl bh).1 ≠ 0) (ha : al ≤ ah) (h : pd_X (pd_A a b al ah bl bh) d (r + 1)) (h1 : pd_rk (pd_A a b al ah bl bh).2.2 r = pd_K (pd_A a b al ah bl bh) - d) (h2 : (pd_A a b al ah bl bh).2.2 r < pd_hi bh (pd_E (pd_A a b al ah bl bh)) d) :
    d < pd_K (pd_A a b al ah bl bh) ∧ pd_c (pd_A a b al ah bl bh) d = r ∧ pd_X (pd_A a b al ah bl bh) (d + 1) r := by
  have hA := pd_an_k (a := a) (b := b) (al := al) (ah := ah) (bl := bl) (bh := bh) (ah - al)
  have hA2 : pd_an a b al ah bl bh (ah - al) = pd_A a b al ah bl bh := rfl
  rw [hA2] at hA
  have hd : d < pd_K (pd_A a b al ah bl bh) := by
    have := pd_rk_1 (pd_A a b al ah bl bh).2.2 r
    omega
  have hQ := (pd_X_Q h0 ha h hd).mpr ⟨h1, h2⟩
  obtain ⟨k1, k2, k3, k4⟩ := h
  have e := k3 hd
  rw [pd_la_s, if_pos hQ] at e
  have ec : pd_c (pd_A a b al ah bl bh) d = r := by
    unfold pd_c
    rw [e]
    rfl
  refine ⟨hd, ec, by omega, by omega, fun hd2 => ?_, fun _ => by rw [Nat.add_sub_cancel, ec]; exact Nat.le_refl r⟩
  rw [pd_cd_s]
  refine pd_la_c _ (by omega) (fun q q1 q2 => ?_)
  rw [show pd_cd (pd_A a b al ah bl bh).2.1 (pd_A a b al ah bl bh).2.2 (pd_rk (pd_A a b al ah bl bh).2.2) (pd_A a b al ah bl bh).1 (pd_K (pd_A a b al ah bl bh)) d = some r from e]
  intro z
  have z2 := of_decide_eq_true z
  by_cases c : r = q
  · subst c
    omega
  · have := hA.2.2 r q (by omega) q2
    omega
theorem pd_X_miss {d r : Nat} (h0 : (pd_A a b al ah bl bh).1 ≠ 0) (ha : al ≤ ah) (h : pd_X (pd_A a b al ah bl bh) d (r + 1)) (h1 : ¬ (pd_rk (pd_A a b al ah bl bh).2.2 r = pd_K (pd_A a b al ah bl bh) - d ∧ (pd_A a b al ah bl bh).2.2 r < pd_hi bh (pd_E (pd_A a b al ah bl bh)) d)) : pd_X (pd_A a b al ah bl bh) d r := by
  refine ⟨h.1, by have := h.2.1; omega, fun hd => ?_, fun hd => by have := h.2.2.2 hd; omega⟩
  have hQ : ¬ _ := fun z => h1 ((pd_X_Q h0 ha h hd).mp z)
  have e := h.2.2.1 hd
  rw [pd_la_s, if_neg hQ] at e
  exact e
end PDX
/-! the table in its array: rows from al + r on are done, of the row below them the columns from bl + t on -/
def pd_tb (a b : Nat → Int32) (al ah bl bh r t : Nat) (T : Nat → Int32) : Prop :=
  ∀ x y, x ≤ ah → y ≤ bh → bl ≤ y → (al + r ≤ x ∨ (x + 1 = al + r ∧ bl + t ≤ y)) → T (x * 33 + y) = nI (pd_T a b ah bh (ah - x) (bh - y))
theorem pd_tb_p {a b : Nat → Int32} {al ah bl bh r t : Nat} {T : Nat → Int32} {v : Int32} (hb : bh ≤ 32) (ht : bl + t ≤ bh) (hv : v = nI (pd_T a b ah bh (ah - (al + r)) (bh - (bl + t)))) (h : pd_tb a b al ah bl bh (r + 1) (t + 1) T) : pd_tb a b al ah bl bh (r + 1) t (upd T ((al + r) * 33 + (bl + t)) v) := by
  intro x y h1 h2 h3 h4
  by_cases e : x = al + r ∧ y = bl + t
  · rw [e.1, e.2, pk_us, hv]
  · rw [pk_un (by omega)]
    exact h x y h1 h2 h3 (by omega)
theorem pd_tb_r {a b : Nat → Int32} {al ah bl bh r t : Nat} {T : Nat → Int32} (h : pd_tb a b al ah bl bh (r + 1) 0 T) (ht : bh < bl + t) : pd_tb a b al ah bl bh r t T := by
  intro x y h1 h2 h3 h4
  exact h x y h1 h2 h3 (by omega)
theorem pd_tb_0 {a b : Nat → Int32} {al ah bl bh r t : Nat} {T : Nat → Int32} (hr : ah < al + r) (ht : bh < bl + t) : pd_tb a b al ah bl bh r t T := by
  intro x y h1 h2 h3 h4
  omega
/-! gaps in their arrays -/
def pd_rp (lo hi : Nat) (gp : Nat → pd_g) (G0 G1 G2 G3 : Nat → Int32) : Prop := ∀ q, lo ≤ q → q < hi → G0 q = nI (gp q).1 ∧ G1 q = nI (gp q).2.1 ∧ G2 q = nI (gp q).2.2.1 ∧ G3 q = nI (gp q).2.2.2
theorem pd_rp_p {lo hi : Nat} {gp : Nat → pd_g} {G0 G1 G2 G3 : Nat → Int32} {v0 v1 v2 v3 : Nat} (h : pd_rp lo hi gp G0 G1 G2 G3) : pd_rp lo (hi + 1) (pd_ug gp hi (v0, v1, v2, v3)) (upd G0 hi (nI v0)) (upd G1 hi (nI v1)) (upd G2 hi (nI v2)) (upd G3 hi (nI v3)) := by
  intro q h1 h2
  by_cases e : q = hi
  · subst e
    rw [pk_us, pk_us, pk_us, pk_us, pd_ug_s]
    exact ⟨rfl, rfl, rfl, rfl⟩
  · rw [pk_un e, pk_un e, pk_un e, pk_un e, pd_ug_n e]
    exact h q h1 (by omega)
theorem pd_sub1 (x : Int32) : x + (-1) = x - 1 := (Int32.sub_eq_add_neg x 1).symm
theorem pd_cell (i j : Nat) : nI i * 33 + nI j = nI (i * 33 + j) := by
  show nI i * nI 33 + nI j = _
  rw [pk_mul, nI_add]
theorem pd_lt1 {a : Nat} (h : a < 2 ^ 30) : nI (a + 0) - 1 < nI a := by
  rw [Nat.add_zero, Int32.lt_iff_toInt_lt, show (1 : Int32) = nI 1 from rfl, pk_sub_toInt h (by decide), nI_toInt (by omega)]
  omega
