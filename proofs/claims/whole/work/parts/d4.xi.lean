/-! the further invariant -/
section Xi
variable {I J N : Nat → Nat → Int32} {m n T W P L V V' : Nat}
def ivG (I : fI) (m V : Nat) : Prop := ∃ g : Nat → Nat, (∀ l, l < 5 → ra_L I m l 5 = nI (g l)) ∧ g 0 + g 1 + g 2 + g 3 + g 4 ≤ 20 * V
def xi_ (I : fI) (m n V : Nat) : Prop := ivE I m n ∧ ivB I m n ∧ ivG I m V ∧ ∃ k, tmk_ I m k
theorem xi_up (h : xi_ I m n V) (hV : V ≤ V') : xi_ I m n V' := by
  obtain ⟨a, b, ⟨g, g1, g2⟩, c⟩ := h
  exact ⟨a, b, ⟨g, g1, by omega⟩, c⟩
theorem ivG_sml (h : ivG I m V) (hV : V < 100000) : sml_ I m 5 := by
  obtain ⟨g, g1, g2⟩ := h
  exact ⟨g, g1, by omega⟩
theorem xi_g (hx : xi_ I m n V) (hg : xg_ m n I J) (h0 : J (m + 1) 0 = I (m + 1) 0) : xi_ J m n V := by
  obtain ⟨a, b, ⟨g, g1, g2⟩, k, k1, k2⟩ := hx
  refine ⟨fun t ht z => ?_, fun t ht z => ?_, ⟨g, fun l q => (hg.2.1 l q).trans (g1 l q), g2⟩, k, k1, (hg.1 84 (by omega)).trans k2⟩
  · obtain ⟨y1, y2⟩ := hg.2.2.1 t ht z
    rw [h0, y2]
    exact a t ht y1
  · rcases hg.2.2.2 t ht z with ⟨y1, y2⟩ | y
    · rw [y2]
      exact b t ht y1
    · exact y
def xo_ (m V : Nat) (J : fI) : Prop := ∀ n', n' ≤ 400 → J (m + 1) 1 = nI n' → xi_ J m n' V
theorem xo_n (hn : n ≤ 400) (h1 : J (m + 1) 1 = nI n) (h : xi_ J m n V) (hV : V ≤ V') : xo_ m V' J := fun n' q1 q2 => by
  have : n' = n := (nI_eq (by omega) (by omega)).mp (q2.symm.trans h1)
  subst this
  exact xi_up h hV
theorem xo_g (h : ix_ I m n T W P L) (hx : xi_ I m n V) (hg : xg_ m n I J) (h0 : J (m + 1) 0 = I (m + 1) 0) (h1 : J (m + 1) 1 = I (m + 1) 1) (hV : V ≤ V') : xo_ m V' J := xo_n (ix_4 h) (h1.trans (ix_1 h)) (xi_g hx hg h0) hV
theorem xo_ref (h : ix_ I m n T W P L) (hx : xi_ I m n V) (hV : V ≤ V') : xo_ m V' (sp_ref I m) := xo_g h hx (xg_eq (ix_4 h) (fun j _ => i2_ua (by omega))) (i2_ua (by omega)) (i2_ua (by omega)) hV
/-! one comes -/
theorem com_o (hn : n < 400) {x2 x3 x4 x5 : Int32} {l j : Nat} (hl : l < 5) (q1 : j ≠ 1) (q2 : j < 10 ∨ 60 ≤ j ∨ j % 10 ≠ 4) (q3 : j < 200 + 14 * n ∨ 200 + 14 * n + 14 ≤ j) : sp_com I m n (nI l) x2 x3 x4 x5 (m + 1) j = I (m + 1) j := by
  unfold sp_com
  rw [sp_log_r]
  split
  · exact sp_new_o (by omega)
  · have e : sp_wt (sp_new I m n (nI l) x2 x3 x4 x5) m (n + 1) n (m + 1) j = sp_new I m n (nI l) x2 x3 x4 x5 (m + 1) j := by
      unfold sp_wt
      rw [sp_new_n.1, nI_clamp (by omega)]
      unfold ra_wait
      rw [i2_uj (by omega)]
      split
      · rfl
      · rw [i2_uj (by omega)]
    rw [e]
    exact sp_new_o (by omega)
theorem com_6 {x1 x2 x3 x4 x5 : Int32} : ra_T (sp_com I m n x1 x2 x3 x4 x5) m n 6 = 0 ∨ ra_T (sp_com I m n x1 x2 x3 x4 x5) m n 6 = 1 := by
  unfold sp_com
  rw [show ra_T (sp_log (if ra_held (sp_new I m n x1 x2 x3 x4 x5) m n = true then sp_new I m n x1 x2 x3 x4 x5 else sp_wt (sp_new I m n x1 x2 x3 x4 x5) m (n + 1) n) m 0 n (-1) 0) m n 6 = (if ra_held (sp_new I m n x1 x2 x3 x4 x5) m n = true then sp_new I m n x1 x2 x3 x4 x5 else sp_wt (sp_new I m n x1 x2 x3 x4 x5) m (n + 1) n) (m + 1) (200 + 14 * n + 6) from sp_log_r]
  split
  · exact Or.inr sp_new_n.2.2.2.2.2.2.1
  · exact Or.inl sp_wt_6
theorem xi_com (h : ix_ I m n T W P L) (hx : xi_ I m n V) {x1 x2 x3 x4 x5 : Int32} (hz : sp_why I m n x1 x2 x3 x4 x5 = 0) : xi_ (sp_com I m n x1 x2 x3 x4 x5) m (n + 1) V := by
  obtain ⟨l, p, s, k, hl, e1, -, -, -, -, -, -, -, -, -, hn, -⟩ := why_0 (ix_4 h) hz
  subst e1
  obtain ⟨a, b, ⟨g, g1, g2⟩, k, k1, k2⟩ := hx
  have oT : ∀ t f, t < n → f < 14 → ra_T (sp_com I m n (nI l) x2 x3 x4 x5) m t f = ra_T I m t f := fun t f q1 q2 => com_o hn hl (by omega) (by omega) (by omega)
  refine ⟨fun t ht z => ?_, fun t ht z => ?_, ⟨g, fun l' q => (com_o hn hl (by omega) (by omega) (by omega)).trans (g1 l' q), g2⟩, k, k1, (com_o hn hl (by omega) (by omega) (by omega)).trans k2⟩
  · by_cases e : t = n
    · rw [e] at z
      rcases com_6 (I := I) (m := m) (n := n) (x1 := nI l) (x2 := x2) (x3 := x3) (x4 := x4) (x5 := x5) with y | y
      · rw [y] at z; exact absurd z (by decide)
      · rw [y] at z; exact absurd z (by decide)
    · rw [oT t 6 (by omega) (by decide)] at z
      rw [oT t 11 (by omega) (by decide), com_o hn hl (by omega) (by omega) (by omega)]
      exact a t (by omega) z
  · by_cases e : t = n
    · rw [e] at z
      rcases com_6 (I := I) (m := m) (n := n) (x1 := nI l) (x2 := x2) (x3 := x3) (x4 := x4) (x5 := x5) with y | y
      · rw [y] at z; exact absurd z (by decide)
      · rw [y] at z; exact absurd z (by decide)
    · rw [oT t 6 (by omega) (by decide)] at z
      rw [oT t 13 (by omega) (by decide)]
      exact b t (by omega) z
theorem xi_comes (h : ix_ I m n T W P L) (hx : xi_ I m n V) (hT : T < 1000000) (hP : P < 2147483648) (hL : L < 1999999999) {x1 x2 x3 x4 x5 : Int32} : ∃ n', n ≤ n' ∧ ix_ (sp_comes I m n x1 x2 x3 x4 x5).2 m n' T W P (L + 1) ∧ xi_ (sp_comes I m n x1 x2 x3 x4 x5).2 m n' V := by
  unfold sp_comes
  by_cases z : sp_why I m n x1 x2 x3 x4 x5 = 0
  · rw [if_pos z]
    exact ⟨n + 1, by omega, ix_com h hT hP hL z, xi_com h hx z⟩
  · rw [if_neg z]
    exact ⟨n, Nat.le_refl _, ix_up h (Nat.le_refl _) (Nat.le_refl _) (Nat.le_refl _) (Nat.le_succ _), hx⟩
/-! a tick -/
theorem xi_tmo (hx : xi_ I m n V) {j : Nat} {x : Int32} (hn : n ≤ 400) (hj : 84 < j ∧ j < 181) : xi_ (i2_u I (m + 1) j x) m n V := xi_g hx (xg_eq hn (fun j' q => i2_uj (by unfold xj_ at q; omega))) (i2_uj (by omega))
theorem xi_tm1 (h : ix_ I m n T W P L) (hx : xi_ I m n V) (hT : T < 1000000) (hP : P < 2147483648) (hL : L < 1999999999) {c : Nat} (hc : c < 12) : ∃ n', n ≤ n' ∧ ix_ (sp_tm1 I m c) m n' T W P (L + 1) ∧ xi_ (sp_tm1 I m c) m n' V := by
  unfold sp_tm1
  rw [nn_e h]
  split
  · obtain ⟨n', h1, h2, h3⟩ := xi_comes h hx hT hP hL (x1 := I (m + 1) (85 + 8 * c + 0)) (x2 := I (m + 1) (85 + 8 * c + 1)) (x3 := I (m + 1) (85 + 8 * c + 2)) (x4 := I (m + 1) (85 + 8 * c + 3)) (x5 := -1)
    refine ⟨n', h1, ix_tmo (ix_tmo h2 (by omega)) ?_, xi_tmo (xi_tmo h3 (ix_4 h2) (by omega)) (ix_4 h2) ?_⟩
    · split <;> omega
    · split <;> omega
  · exact ⟨n, Nat.le_refl _, ix_up h (Nat.le_refl _) (Nat.le_refl _) (Nat.le_refl _) (Nat.le_succ _), hx⟩
theorem xi_tms (h : ix_ I m n T W P L) (hx : xi_ I m n V) (hT : T < 1000000) (hP : P < 2147483648) (hL : L < 1999999900) : ∀ k, k ≤ 12 → ∃ n', n ≤ n' ∧ ix_ (sp_tms I m k) m n' T W P (L + k) ∧ xi_ (sp_tms I m k) m n' V
  | 0, _ => ⟨n, Nat.le_refl _, h, hx⟩
  | k + 1, hk => by
    obtain ⟨n1, h1, h2, h3⟩ := xi_tms h hx hT hP hL k (by omega)
    obtain ⟨n2, h5, h6, h7⟩ := xi_tm1 h2 h3 hT hP (by omega) (c := k) (by omega)
    rw [tms_s]
    exact ⟨n2, by omega, h6, h7⟩
theorem xi_tick (h : ix_ I m n T W P L) (hx : xi_ I m n V) (hT : T < 900000) (hP : P < 2147483648) (hL : L + 20000 < 1998900000) : ∃ n', n ≤ n' ∧ ix_ (sp_tick I m n) m n' (T + 1) W P (L + 20000) ∧ xi_ (sp_tick I m n) m n' V := by
  have hn := ix_4 h
  obtain ⟨I1, I2, I3, e1, h1, hl, e2, h2, e3, h3, e0, e84, et⟩ := ix_tk3 h hT hP hL
  obtain ⟨a, b, ⟨g, g1, g2⟩, k, k1, k2⟩ := hx
  rw [k2, nI_clamp (by omega)] at et
  have i1 : ∀ j, j ≠ 0 → I1 (m + 1) j = I (m + 1) j := fun j q => by rw [e1, i2_uj q]
  obtain ⟨xf, xe⟩ := xg_fls (by omega) _ h1 (by omega) rfl
  rw [← e2] at xf xe
  have x3 : xg_ m n I2 I3 := by rw [e3]; exact xg_wk 401 (ix_rb h2 hP)
  have o2 : I2 (m + 1) 0 = I1 (m + 1) 0 := by rw [e2]; exact fls_o (by omega) _ h1 (by omega) rfl 0 (by decide) (by decide) (by decide)
  have hx2 : xi_ I2 m n V := by
    refine ⟨fun t ht z => ?_, fun t ht z => ?_, ⟨g, fun l q => (xf.2.1 l q).trans ((i1 _ (by omega)).trans (g1 l q)), g2⟩, k, k1, (xf.1 84 (by omega)).trans ((i1 _ (by omega)).trans k2)⟩
    · have := xe t ht
      have := of_decide_eq_false this
      exact Classical.byContradiction (fun y => this ⟨z, y⟩)
    · rcases xf.2.2.2 t ht z with ⟨y1, y2⟩ | y
      · rw [y2]
        have c6 : ra_T I1 m t 6 = ra_T I m t 6 := i1 _ (by omega)
        have c13 : ra_T I1 m t 13 = ra_T I m t 13 := i1 _ (by omega)
        rw [c13]
        exact b t ht (c6.symm.trans y1)
      · exact y
  have o3 : I3 (m + 1) 0 = I2 (m + 1) 0 := by rw [e3]; exact wk_o 401 (ix_rb h2 hP) (by omega) (ix_4 h2)
  have hx3 := xi_g hx2 x3 o3
  obtain ⟨n', q1, q2, q3⟩ := xi_tms h3 hx3 (by omega) hP (by omega) k k1
  rw [et]
  exact ⟨n', q1, ix_up q2 (Nat.le_refl _) (Nat.le_refl _) (Nat.le_refl _) (by omega), q3⟩
/-! taking -/
theorem tk_v {t w l j : Nat} (q8 : j ≠ 10 + 10 * l + 8) (q9 : j ≠ 10 + 10 * l + 9) : sp_tk I m t w l (m + 1) j = sp_tk14 I m t w l (m + 1) j := by
  unfold sp_tk
  rw [sp_log_r]
  unfold sp_tk17
  split
  · rfl
  · rw [i2_uj q9, i2_uj q8]
theorem xi_tk (h : ix_ I m n T W P L) (hx : xi_ I m n V) (hT : T < 1000000) {t w l : Nat} (ht : t < n) (hw : w < 6) (hl : l < 5) : xi_ (sp_tk I m t w l) m n (V + 1) := by
  have hn := ix_4 h
  obtain ⟨a, b, ⟨g, g1, g2⟩, k, k1, k2⟩ := hx
  obtain ⟨ls, hls, hls1, els⟩ := h.1.2.1.2.2.1
  obtain ⟨nw, hnw, enw⟩ := h.2.2.1
  obtain ⟨sz, hsz, hsz1, esz⟩ := (h.1.1.2.2 t ht).2.1
  have o : ∀ j, xj_ j → j ≠ 2 → j ≠ 200 + 14 * t + 6 → j ≠ 200 + 14 * t + 11 → j ≠ 10 + 10 * l + 5 → sp_tk I m t w l (m + 1) j = I (m + 1) j := fun j q q0 q1 q2 q3 => tk_o (by unfold xj_ at q; omega) (by omega) (by omega)
  have o0 : sp_tk I m t w l (m + 1) 0 = I (m + 1) 0 := tk_o (by omega) (by omega) (by omega)
  have v11 : ra_T (sp_tk I m t w l) m t 11 = I (m + 1) 0 + I (m + 1) 5 := by
    show sp_tk I m t w l (m + 1) (200 + 14 * t + 11) = _
    rw [tk_v (by omega) (by omega)]
    unfold sp_tk14 sp_tk10 sp_tk7
    rw [i2_uj (by omega), i2_uj (by omega), i2_uj (by omega), pass_o (by omega), i2_uj (by omega), i2_uj (by omega), i2_us]
  have v6 : ra_T (sp_tk I m t w l) m t 6 = 3 := by
    show sp_tk I m t w l (m + 1) (200 + 14 * t + 6) = _
    rw [tk_v (by omega) (by omega)]
    unfold sp_tk14 sp_tk10 sp_tk7
    rw [i2_uj (by omega), i2_uj (by omega), i2_uj (by omega), pass_o (by omega), i2_uj (by omega), i2_uj (by omega), i2_uj (by omega), i2_uj (by omega), i2_uj (by omega), i2_us]
  have v5 : ra_L (sp_tk I m t w l) m l 5 = ra_L I m l 5 + ra_T I m t 2 := by
    show sp_tk I m t w l (m + 1) (10 + 10 * l + 5) = _
    rw [tk_v (by omega) (by omega)]
    unfold sp_tk14
    rw [i2_uj (by omega), i2_uj (by omega), i2_us]
    rfl
  refine ⟨fun x q z => ?_, fun x q z => ?_, ⟨fun l' => if l' = l then g l' + sz else g l', fun l' q => ?_, ?_⟩, k, k1, (o 84 (by unfold xj_; omega) (by omega) (by omega) (by omega) (by omega)).trans k2⟩
  · rw [o0]
    by_cases e : x = t
    · rw [e, v11, enw, els, nI_add]
      exact nI_lt (by omega) (by omega)
    · have c6 : ra_T (sp_tk I m t w l) m x 6 = ra_T I m x 6 := o _ (by unfold xj_; omega) (by omega) (by omega) (by omega) (by omega)
      have c11 : ra_T (sp_tk I m t w l) m x 11 = ra_T I m x 11 := o _ (by unfold xj_; omega) (by omega) (by omega) (by omega) (by omega)
      rw [c11]
      exact a x q (c6.symm.trans z)
  · by_cases e : x = t
    · rw [e, v6] at z
      exact absurd z (by decide)
    · have c6 : ra_T (sp_tk I m t w l) m x 6 = ra_T I m x 6 := o _ (by unfold xj_; omega) (by omega) (by omega) (by omega) (by omega)
      have c13 : ra_T (sp_tk I m t w l) m x 13 = ra_T I m x 13 := o _ (by unfold xj_; omega) (by omega) (by omega) (by omega) (by omega)
      rw [c13]
      exact b x q (c6.symm.trans z)
  · show ra_L (sp_tk I m t w l) m l' 5 = nI (if l' = l then g l' + sz else g l')
    by_cases e : l' = l
    · rw [if_pos e, e, v5, g1 l hl, esz, nI_add]
    · rw [if_neg e]
      exact (o _ (by unfold xj_; omega) (by omega) (by omega) (by omega) (by omega)).trans (g1 l' q)
  · have : l = 0 ∨ l = 1 ∨ l = 2 ∨ l = 3 ∨ l = 4 := by omega
    rcases this with rfl | rfl | rfl | rfl | rfl
    · show g 0 + sz + g 1 + g 2 + g 3 + g 4 ≤ _; omega
    · show g 0 + (g 1 + sz) + g 2 + g 3 + g 4 ≤ _; omega
    · show g 0 + g 1 + (g 2 + sz) + g 3 + g 4 ≤ _; omega
    · show g 0 + g 1 + g 2 + (g 3 + sz) + g 4 ≤ _; omega
    · show g 0 + g 1 + g 2 + g 3 + (g 4 + sz) ≤ _; omega
theorem xi_tkby (h : ix_ I m n T W P L) (hx : xi_ I m n V) (hT : T < 1000000) {w : Nat} (hw : w < 6) : xi_ (sp_tkby I m n w).2 m n (V + 1) := by
  rcases tkby_3 h (w := w) with e | ⟨t, l, t1, t2, t3, t4, e⟩
  · rw [e]; exact xi_up hx (by omega)
  · rw [e]; exact xi_tk h hx hT t1 hw t2
/-- who is out ends anew -/
theorem xi_11 (h : ix_ I m n T W P L) (hx : xi_ I m n V) (hT : T < 1000000) {t : Nat} (ht : t < n) (ho : ∀ j, xj_ j → j ≠ 200 + 14 * t + 11 → J (m + 1) j = I (m + 1) j) (h0 : J (m + 1) 0 = I (m + 1) 0) (h11 : ra_T J m t 11 = I (m + 1) 0 + I (m + 1) 5) : xi_ J m n V := by
  have hn := ix_4 h
  obtain ⟨a, b, ⟨g, g1, g2⟩, k, k1, k2⟩ := hx
  obtain ⟨ls, hls, hls1, els⟩ := h.1.2.1.2.2.1
  obtain ⟨nw, hnw, enw⟩ := h.2.2.1
  refine ⟨fun x q z => ?_, fun x q z => ?_, ⟨g, fun l q => (ho _ (by unfold xj_; omega) (by omega)).trans (g1 l q), g2⟩, k, k1, (ho 84 (by unfold xj_; omega) (by omega)).trans k2⟩
  · rw [h0]
    by_cases e : x = t
    · rw [e, h11, enw, els, nI_add]
      exact nI_lt (by omega) (by omega)
    · have c6 : ra_T J m x 6 = ra_T I m x 6 := ho _ (by unfold xj_; omega) (by omega)
      have c11 : ra_T J m x 11 = ra_T I m x 11 := ho _ (by unfold xj_; omega) (by omega)
      rw [c11]
      exact a x q (c6.symm.trans z)
  · have c6 : ra_T J m x 6 = ra_T I m x 6 := ho _ (by unfold xj_; omega) (by omega)
    have c13 : ra_T J m x 13 = ra_T I m x 13 := ho _ (by unfold xj_; omega) (by omega)
    rw [c13]
    exact b x q (c6.symm.trans z)
end Xi
