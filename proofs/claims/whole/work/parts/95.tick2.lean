/-! a tick, in the reference and in the class -/
section Tick2
variable {B M M' : mm_T} {I J : Nat → Nat → Int32} {m n T W P L : Nat} {ta tm : Nat → Nat}
def sp_tick (I : Nat → Nat → Int32) (m n : Nat) : Nat → Nat → Int32 := sp_tms (sp_wk 401 (sp_fls (i2_u I (m + 1) 0 (I (m + 1) 0 + 1)) m n ((List.range n).filter (en_ (i2_u I (m + 1) 0 (I (m + 1) 0 + 1)) m))) m n) m (I (m + 1) 84).toNatClampNeg
theorem com_tm (hn : n ≤ 400) {x1 x2 x3 x4 x5 y : Int32} {j : Nat} (hj : 84 ≤ j ∧ j < 200) : sp_comes (i2_u I (m + 1) j y) m n x1 x2 x3 x4 x5 = ((sp_comes I m n x1 x2 x3 x4 x5).1, i2_u (sp_comes I m n x1 x2 x3 x4 x5).2 (m + 1) j y) := by
  have e : ∀ X : Nat → Nat → Int32, i2_u X (m + 1) j y = pt_ (fun a k => decide (a = m + 1 ∧ k = j)) (fun _ _ => y) X := fun X => by
    funext a k
    unfold pt_
    rw [i2_at]
    by_cases q : a = m + 1 ∧ k = j
    · rw [if_pos q, if_pos (decide_eq_true q)]
    · rw [if_neg q, if_neg (show ¬ decide (a = m + 1 ∧ k = j) = true by rw [decide_eq_false q]; decide)]
  rw [e, nt_comes (S := fun a k => decide (a = m + 1 ∧ k = j)) (fun a k u => decide_eq_false (fun q => by unfold U_ at u; omega)) hn, ← e]
theorem ix_nw (h : ix_ I m n T W P L) (hT : T < 1000000) : ix_ (i2_u I (m + 1) 0 (I (m + 1) 0 + 1)) m n (T + 1) W P L := by
  obtain ⟨⟨a1, a2, a3, a4⟩, ⟨b1, b2, b3, b4⟩, c⟩ := id h
  obtain ⟨J, hJ⟩ : ∃ J, J = i2_u I (m + 1) 0 (I (m + 1) 0 + 1) := ⟨_, rfl⟩
  have jo : ∀ a j, (a ≠ m + 1 ∨ j ≠ 0) → J a j = I a j := fun a j q => by rw [hJ, i2_at, if_neg (by omega)]
  have j0 : J (m + 1) 0 = I (m + 1) 0 + 1 := by rw [hJ, i2_us]
  have jT : ∀ t f, ra_T J m t f = ra_T I m t f := fun t f => jo _ _ (by omega)
  rw [← hJ]
  refine ⟨⟨ivT_o a1 (jo _ _ (by omega)) (fun t f _ _ => jT t f) (fun t q => by rw [jT]; exact ix_s h q) (fun t q z => by rw [jT] at z ⊢; exact ix_7 h q z), ivL_o a2 (fun l f _ _ => jo _ _ (by omega)) (fun j q1 q2 => jo _ _ (by omega)), ivW_o a3 (fun t f _ _ _ _ => jT t f) (fun w _ => jo _ _ (by omega)), ivH_o a4 (fun t _ => jT t 4) (fun t _ z => by rw [jT] at z; exact z) (fun t q _ _ _ _ z => by rw [jT]; exact z)⟩, ⟨ivC_o b1 (fun l _ => jo _ _ (by omega)) (fun t _ => jT t 0) (fun t _ z => by rw [jT]; exact z), ivS_o b2 (jo _ _ (by omega)) (fun j q => jo _ _ (by omega)) (fun t _ => by rw [jT]), ivR_o b3 (fun t _ z => by rw [jT] at z; exact z), fun t q1 q2 => (jo _ _ (by omega)).trans (b4 t q1 q2)⟩, ?_⟩
  obtain ⟨⟨x, x1, x2⟩, c2, c3, c4, c5, c6, c7⟩ := c
  exact ⟨⟨x + 1, by omega, by rw [j0, x2, nI_1]⟩, by rw [jo _ _ (by omega)]; exact c2, fun l q => by rw [show ra_L J m l 4 = ra_L I m l 4 from jo _ _ (by omega)]; exact c3 l q, by rw [jo _ _ (by omega)]; exact c4, (jo _ _ (by omega)).trans c5, fun j => ⟨(jo _ _ (by omega)).trans (c6 j).1, (jo _ _ (by omega)).trans (c6 j).2⟩, fun t q => by rw [jo _ _ (by omega)]; exact c7 t q⟩
theorem fls_o (hT : T < 1000000) : ∀ (ts : List Nat) {I : Nat → Nat → Int32} {L : Nat}, ix_ I m n T W P L → L + 410 * ts.length < 1999990000 → (List.range n).filter (en_ I m) = ts → ∀ j, j < 200 → j ≠ 3 → (j < 10 ∨ 84 ≤ j) → sp_fls I m n ts (m + 1) j = I (m + 1) j
  | [], I, L, h, _, _, _, _, _, _ => rfl
  | t :: ts, I, L, h, hL, hts, j, h1, h2, h3 => by
    rw [List.length_cons] at hL
    have hm : t < n ∧ en_ I m t = true := by
      have : t ∈ (List.range n).filter (en_ I m) := by rw [hts]; exact List.mem_cons_self
      rw [List.mem_filter, List.mem_range] at this
      exact this
    show sp_fls (sp_fl I m n t 0) m n ts (m + 1) j = _
    rw [fls_o hT ts (ix_fl (c := 0) h hT (by omega) hm.1 (en_3 hm.2)) (by omega) (hs_tl hts (fun x q => fl_en h hm.1 (en_3 hm.2) q)) j h1 h2 h3]
    exact (fl_o h hm.1 (en_3 hm.2)).2.1 j h1 h2 h3
/-- the parts of a tick, and the invariant along it -/
theorem ix_tk3 (h : ix_ I m n T W P L) (hT : T < 900000) (hP : P < 2147483648) (hL : L + 20000 < 1998900000) : ∃ I1 I2 I3 : Nat → Nat → Int32, I1 = i2_u I (m + 1) 0 (I (m + 1) 0 + 1) ∧ ix_ I1 m n (T + 1) W P L ∧ ((List.range n).filter (en_ I1 m)).length ≤ 48 ∧ I2 = sp_fls I1 m n ((List.range n).filter (en_ I1 m)) ∧ ix_ I2 m n (T + 1) W P (L + 19680) ∧ I3 = sp_wk 401 I2 m n ∧ ix_ I3 m n (T + 1) W P (L + 19728) ∧ I3 (m + 1) 0 = I (m + 1) 0 + 1 ∧ I3 (m + 1) 84 = I (m + 1) 84 ∧ sp_tick I m n = sp_tms I3 m (I (m + 1) 84).toNatClampNeg := by
  have h1 := ix_nw h (by omega)
  have hl := ts_len h1 (p := en_ (i2_u I (m + 1) 0 (I (m + 1) 0 + 1)) m) (fun t _ q => by rw [en_3 q]; decide)
  have h2 := ix_up (ix_fls (by omega) _ h1 (by omega) rfl) (Nat.le_refl _) (Nat.le_refl _) (Nat.le_refl _) (show L + 410 * ((List.range n).filter (en_ (i2_u I (m + 1) 0 (I (m + 1) 0 + 1)) m)).length ≤ L + 19680 by omega)
  have hr := rc2_le h2
  have h3 := ix_up (ix_wk hP 401 h2 (by omega)) (Nat.le_refl _) (Nat.le_refl _) (Nat.le_refl _) (show _ ≤ L + 19728 by omega)
  have o2 : ∀ j, j < 200 → j ≠ 3 → (j < 10 ∨ 84 ≤ j) → sp_fls (i2_u I (m + 1) 0 (I (m + 1) 0 + 1)) m n ((List.range n).filter (en_ (i2_u I (m + 1) 0 (I (m + 1) 0 + 1)) m)) (m + 1) j = i2_u I (m + 1) 0 (I (m + 1) 0 + 1) (m + 1) j := fun j q1 q2 q3 => fls_o (by omega) _ h1 (by omega) rfl j q1 q2 q3
  refine ⟨_, _, _, rfl, h1, hl, rfl, h2, rfl, h3, ?_, ?_, rfl⟩
  · rw [wk_o 401 (ix_rb h2 hP) (by omega) (ix_4 h2), o2 0 (by decide) (by decide) (by decide), i2_us]
  · rw [wk_o 401 (ix_rb h2 hP) (by omega) (ix_4 h2), o2 84 (by decide) (by decide) (by decide), i2_uj (by omega)]
theorem ix_tick (h : ix_ I m n T W P L) (hT : T < 900000) (hP : P < 2147483648) (hL : L + 20000 < 1998900000) {k : Nat} (hk : I (m + 1) 84 = nI k) (hk12 : k ≤ 12) : ∃ n', n ≤ n' ∧ ix_ (sp_tick I m n) m n' (T + 1) W P (L + 20000) ∧ sp_tick I m n (m + 1) 84 = I (m + 1) 84 ∧ sp_tick I m n (m + 1) 0 = I (m + 1) 0 + 1 := by
  obtain ⟨I1, I2, I3, -, -, -, -, -, -, h3, e0, e84, et⟩ := ix_tk3 h hT hP hL
  rw [hk, nI_clamp (by omega)] at et
  obtain ⟨n', q1, q2, q3, q4⟩ := ix_tms h3 (by omega) hP (by omega) k hk12
  rw [et]
  exact ⟨n', q1, ix_up q2 (Nat.le_refl _) (Nat.le_refl _) (Nat.le_refl _) (by omega), q4.trans e84, q3.trans e0⟩
/-! in the reference -/
theorem rc_tms (RK : rf_ok B m) (h : ix_ I m n T W P L) (hT : T < 1000000) (hP : P < 2147483648) (hL : L < 1999999900) {k : Nat} (hk : I (m + 1) 84 = nI k) (hk12 : k ≤ 12) {Q : (Nat → Nat → Int32) → Prop} (K : Q (sp_tms I m k)) : ∀ (j c : Nat), c + j = k → rw_v mt_X11_ticks 68 [some (pv_r m), some (pv_i (nI c)), none, none] [] B (sp_tms I m c) Q
  | 0, c, hc => by
    obtain ⟨n', -, -, -, e84⟩ := ix_tms h hT hP hL c (by omega)
    have : c = k := by omega
    subst this
    exact wq_X11_ticks_68 RK ⟨fun _ => K, fun q => absurd (by rw [e84, hk]; exact Int32.le_refl _) q⟩
  | j + 1, c, hc => by
    obtain ⟨n', hn', hx, e0, e84⟩ := ix_tms h hT hP hL c (by omega)
    have ih := rc_tms RK h hT hP hL hk hk12 K j (c + 1) (by omega)
    rw [tms_s] at ih
    have hn4 := ix_4 hx
    obtain ⟨X, hX⟩ : ∃ X, X = sp_tms I m c := ⟨_, rfl⟩
    rw [← hX] at hx e84 ih ⊢
    refine wq_X11_ticks_68 RK ⟨fun q => absurd q (by rw [e84, hk]; exact nI_ge (by omega) (by omega)), fun _ => ⟨c, ⟨rfl, by omega⟩, fun q I2 h2 => ?_, fun q => ?_⟩⟩
    · have r0 : ∀ f, f < 7 → I2 (m + 1) (85 + 8 * c + f) = X (m + 1) (85 + 8 * c + f) := fun f hf => by rw [h2, i2_uj (by omega)]
      rw [r0 0 (by decide), r0 1 (by decide), r0 2 (by decide), r0 3 (by decide)]
      have hx2 : ix_ I2 m n' T W P (L + c) := by rw [h2]; exact ix_tmo hx (by omega)
      refine rc_comes RK (ix_rb hx2 hP) (ix_lb hx2) (by omega) ?_
      unfold sp_tm1 at ih
      rw [if_pos q, nn_e hx] at ih
      rw [h2, com_tm hn4 (by omega)]
      refine ⟨fun c1 I5 h5 => ?_, fun c1 I6 h6 => ?_⟩
      · simp only at c1 h5
        simp only [if_pos c1] at ih
        rw [i2_uj (j := 85 + 8 * c + 7) (k := 85 + 8 * c + 6) (by omega), comes_t hn4 (by omega)] at h5
        rw [h5]
        exact ih
      · simp only at c1 h6
        simp only [if_neg c1] at ih
        rw [i2_uj (j := 85 + 8 * c + 7) (k := 85 + 8 * c + 5) (by omega), comes_t hn4 (by omega)] at h6
        rw [h6]
        exact ih
    · unfold sp_tm1 at ih
      rw [if_neg q] at ih
      exact ih
theorem rc_tick (RK : rf_ok B m) (h : ix_ I m n T W P L) (hT : T < 900000) (hP : P < 2147483648) (hL : L + 20000 < 1998900000) {k : Nat} (hk : I (m + 1) 84 = nI k) (hk12 : k ≤ 12) {Q : (Nat → Nat → Int32) → Prop} (K : Q (sp_tick I m n)) : rs_v mt_X11_ticks [pv_r m] B I Q := by
  obtain ⟨I1, I2, I3, e1, h1, hl, e2, h2, e3, h3, e0, e84, et⟩ := ix_tk3 h hT hP hL
  rw [hk, nI_clamp (by omega)] at et
  refine wq_X11_ticks_0 RK (fun I1' g1 => ?_)
  rw [g1, ← e1]
  refine rc_fls RK (by omega) n 0 (by omega) h1 (by omega) (fun x q => by omega) ?_
  rw [← e2]
  refine rc_wk RK (ix_rb h2 hP) (ix_lb h2) (by omega) ?_
  rw [← e3]
  exact rc_tms RK h3 (by omega) hP (by omega) (e84.trans hk) hk12 (by rw [← et]; exact K) k 0 (by omega)
/-! in the class -/
theorem re_tmi (h : re_ M I m n ta tm) {k c f : Nat} {x : Int32} (hk : I (m + 1) 84 = nI k) (hk12 : k ≤ 12) (hc : c < k) (hf : 1 ≤ f) (hf8 : f < 8) : re_ (mm_pi M (tm c) f x) (i2_u I (m + 1) (85 + 8 * c + f) x) m n ta tm := by
  obtain ⟨k', a1, a2, a3, a4, a5, a6, a7⟩ := id h.2.1.2.2.2
  have : k' = k := (nI_eq (by omega) (by omega)).mp (a2.symm.trans hk)
  subst this
  obtain ⟨b1, b2, b3, b4, b5⟩ := a4 c hc
  refine re_C h (fx_pi ⟨b2, b3⟩) (fun a j q => by rw [i2_at, if_neg (by omega)]) ⟨k', a1, by rw [i2_uj (by omega)]; exact a2, by rw [mi_pia (by omega)]; exact a3, fun c' q => ?_, a5, by rw [mi_pia (by omega)]; exact a6, a7⟩
  obtain ⟨d1, d2, d3, ⟨l, d4, d5, d6⟩, d7⟩ := a4 c' q
  refine ⟨d1, d2, d3, ⟨l, d4, by unfold ra_C; rw [i2_uj (by omega)]; exact d5, d6⟩, fun f' q1 q2 => ?_⟩
  unfold ra_C
  rw [mi_pi, i2_at]
  by_cases e : c' = c ∧ f' = f
  · rw [if_pos ⟨by rw [e.1], e.2⟩, if_pos ⟨rfl, by omega⟩]
  · rw [if_neg (fun y => e ⟨a5 c' c q hc y.1, y.2⟩), if_neg (by omega)]
    exact d7 f' q1 q2
theorem why_lt (hn : n ≤ 400) {x1 x2 x3 x4 x5 : Int32} (h : ¬ sp_why I m n x1 x2 x3 x4 x5 = 0) : sp_why I m n x1 x2 x3 x4 x5 < 0 := by
  have w4 : ∀ l k, sp_why4 I m n l k = 0 ∨ sp_why4 I m n l k < 0 := fun l k => by
    unfold sp_why4
    split
    · exact Or.inr (by decide)
    · split
      · exact Or.inr (by decide)
      · split
        · exact Or.inr (by decide)
        · split
          · exact Or.inl rfl
          · exact Or.inr (by decide)
  have : sp_why I m n x1 x2 x3 x4 x5 = 0 ∨ sp_why I m n x1 x2 x3 x4 x5 < 0 := by
    unfold sp_why
    split
    · exact Or.inr (by decide)
    · split
      · exact Or.inr (by decide)
      · split
        · exact Or.inr (by decide)
        · exact w4 _ _
  exact this.resolve_left h
theorem ce_fl (h : re_ M I m n ta tm) (hi : ix_ I m n T W P L) (hL : L < 1999980000) {t : Nat} (ht : t < n) (h6 : ra_T I m t 6 = 3) {c : Int32} (hc : c < 100) {Q : mm_T → Prop} (K : ∀ M' tn, re_ M' (sp_fl I m n t c) m n ta tn → Q M') : cs_v mt_X10_failTask [pv_r 5, pv_r (ta t), pv_i c] M Q := by
  obtain ⟨w, k, hw, h9, hk, h3, e9, e3, -⟩ := ix_out hi ht h6
  obtain ⟨r, hr, e7⟩ := ix_7 hi ht (by rw [h6]; decide)
  obtain ⟨tr, htr, -, etr⟩ := hi.1.2.1.2.2.2.2.1
  refine ce_fail h (ix_8 hi) (ix_bl hi) (ix_dv hi) (ix_z hi) (by omega) hi.2.1.2.2.1 hi.1.2.2.2 ht hw h6 h9 h3 hk e7 (by omega) etr htr hc (fun M' tn h' _ => K M' tn ?_)
  unfold sp_fl
  rw [e9, e3]
  exact h'
theorem ce_fls (hT : T < 1000000) {Q : mm_T → Prop} : ∀ (ts : List Nat) {M : mm_T} {I : Nat → Nat → Int32} {tm : Nat → Nat} {L i : Nat}, re_ M I m n ta tm → ix_ I m n T W P L → L + 410 * ts.length < 1999970000 → (List.range n).filter (en_ I m) = ts → i + ts.length ≤ 48 → (∀ M' tn, re_ M' (sp_fls I m n ts) m n ta tn → cw_v mt_X10_oneTick 51 [some (pv_r 5), some (pv_i 0), none] [] M' Q) → cw_v mt_X10_oneTick 12 [some (pv_r 5), some (pv_i (nI i)), none] [] M Q
  | [], M, I, tm, L, i, h, hi, hL, hts, h48, K => by
    obtain ⟨b1, b2⟩ := re_bk h
    refine wc_X10_oneTick_12 (re_m5 h) ⟨fun _ => K M tm h, fun _ => ?_⟩
    rw [b1, h.2.2.2.2.1.1]
    refine ⟨b2, cb_ending h.1.2.1 (en := fun t => ra_T I m t 11) (fun t ht h6 => ?_) ?_⟩
    · exact (h.1.2.2.1.1 t ht).2.2.1.2.2 (ix_out hi ht h6).choose_spec.choose_spec.2.2.2.2.2.2.2
    · rw [show (fun t => decide (ra_T I m t 6 = 3 ∧ ¬ I (m + 1) 0 < ra_T I m t 11)) = en_ I m from rfl, hs_nil hts]
      exact ⟨fun c => absurd rfl c, fun _ => K M tm h⟩
  | t :: ts, M, I, tm, L, i, h, hi, hL, hts, h48, K => by
    rw [List.length_cons] at hL h48
    obtain ⟨b1, b2⟩ := re_bk h
    have hm : t < n ∧ en_ I m t = true := by
      have : t ∈ (List.range n).filter (en_ I m) := by rw [hts]; exact List.mem_cons_self
      rw [List.mem_filter, List.mem_range] at this
      exact this
    have h6 := en_3 hm.2
    refine wc_X10_oneTick_12 (re_m5 h) ⟨fun c => absurd c (show ¬ nI 48 ≤ nI i from nI_ge (by omega) (by omega)), fun _ => ?_⟩
    rw [b1, h.2.2.2.2.1.1]
    refine ⟨b2, cb_ending h.1.2.1 (en := fun t => ra_T I m t 11) (fun t ht h6 => ?_) ?_⟩
    · exact (h.1.2.2.1.1 t ht).2.2.1.2.2 (ix_out hi ht h6).choose_spec.choose_spec.2.2.2.2.2.2.2
    · rw [show (fun t => decide (ra_T I m t 6 = 3 ∧ ¬ I (m + 1) 0 < ra_T I m t 11)) = en_ I m from rfl, hs_hd hts]
      refine ⟨fun _ => ce_fl h hi (by omega) hm.1 h6 (by decide) (fun M1 tn h1 => ?_), fun c => absurd c (by have := (re_ge h hm.1).1; show ¬ ta t = 0; omega)⟩
      rw [nI_1]
      exact ce_fls hT ts h1 (ix_fl hi hT (by omega) hm.1 h6) (by omega) (hs_tl hts (fun x q => fl_en hi hm.1 h6 q)) (by omega) K
theorem ce_wk (hP : P < 2147483648) {Q : mm_T → Prop} : ∀ (k : Nat) {M : mm_T} {I : Nat → Nat → Int32} {L i : Nat}, re_ M I m n ta tm → ix_ I m n T W P L → L + rc2_ I m n < 1999999000 → rc2_ I m n < k → i + rc2_ I m n ≤ 48 → (∀ M', re_ M' (sp_wk k I m n) m n ta tm → cw_v mt_X10_oneTick 89 [some (pv_r 5), some (pv_i 0), none] [] M' Q) → cw_v mt_X10_oneTick 51 [some (pv_r 5), some (pv_i (nI i)), none] [] M Q
  | 0, _, _, _, _, _, _, _, hk, _, _ => by omega
  | k + 1, M, I, L, i, h, hi, hL, hk, h48, K => by
    obtain ⟨b1, b2⟩ := re_bk h
    have hn := ix_4 hi
    unfold sp_wk at K
    refine wc_X10_oneTick_51 (re_m5 h) ⟨fun c => ?_, fun _ => ?_⟩
    · have hi48 : i = 48 := by
        rcases Nat.lt_or_ge i 48 with q | q
        · exact absurd c (show ¬ nI 48 ≤ nI i from nI_ge q (by omega))
        · omega
      have e : sp_nr I m n = none := by
        cases hq : sp_nr I m n with
        | none => rfl
        | some t =>
          obtain ⟨ht, h2⟩ := nr_of hq
          have : 0 < rc2_ I m n := cn_pos (p := fun t => decide (ra_T I m t 6 = 2)) (t := t) (decide_eq_true h2) ht
          omega
      rw [e] at K
      exact K M h
    · rw [b1, h.2.2.2.2.1.1]
      refine ⟨b2, cb_due h.1.2.1 (fun t ht h2 => ?_) (re_0 h) ?_⟩
      · refine (h.1.2.2.1.1 t ht).2.2.1.1 ?_
        rcases hi.1.2.2.1.2.1 t ht with ⟨-, d, hd, e⟩ | ⟨z, -⟩
        · rw [e]; exact nI_nm (by omega)
        · exact absurd h2 z
      · cases hq : sp_nr I m n with
        | none =>
          rw [hq] at K
          exact ⟨fun c => absurd rfl c, fun _ => K M h⟩
        | some t =>
          rw [hq] at K
          obtain ⟨ht, h2⟩ := nr_of hq
          by_cases c : I (m + 1) 0 < ra_T I m t 8
          · simp only [if_pos c] at K ⊢
            exact ⟨fun c2 => absurd trivial c2, fun _ => K M h⟩
          · simp only [if_neg c] at K ⊢
            have g1 := (re_ge h ht).1
            obtain ⟨x, x1, x2⟩ := ix_log hi
            have hn0 := re_neg h ht (f := 8) (by omega)
            have hc := rc2_wk1 (ix_rb hi hP) ht h2
            refine ⟨fun _ => ce_waitAgain hn0 ((i2_ua (by omega)).trans (ix_8 hi)) ((i2_ua (by omega)).trans x2) (by omega) ht (by unfold sgI ra_T; rw [i2_uj (by omega)]; exact sd_3 (Or.inr (Or.inr (Or.inl h2)))) (fun M1 h1 => ?_), fun c2 => absurd c2 (by omega)⟩
            rw [nI_1]
            have h1' : re_ M1 (sp_wk1 I m n t) m n ta tm := re_I h1 fx_rf (fun a j q => by
              have e : sp_wk1 I m n t = i2_u (sp_fr1 (i2_u I (m + 1) (200 + 14 * t + 8) (-1)) m n t) m 11 (I m 11 + 1) := by
                unfold sp_wk1 sp_fr1
                rw [log_cm (by omega) (by omega) (by omega)]
              rw [e, i2_at, if_neg (by omega)])
            exact ce_wk hP k h1' (ix_wk1 hi hP (by omega) ht h2) (by omega) (by omega) (by omega) K
theorem ce_tms (hT : T < 1000000) (hP : P < 2147483648) {I0 : Nat → Nat → Int32} {n0 L0 k : Nat} (h0 : ix_ I0 m n0 T W P L0) (hL : L0 < 1999999900) (hk : I0 (m + 1) 84 = nI k) (hk12 : k ≤ 12) {Q : mm_T → Prop} (K : ∀ M' n' ta', re_ M' (sp_tms I0 m k) m n' ta' tm → Q M') : ∀ (j c : Nat) {M : mm_T} {n : Nat} {ta : Nat → Nat}, c + j = k → re_ M (sp_tms I0 m c) m n ta tm → cw_v mt_X10_oneTick 89 [some (pv_r 5), some (pv_i (nI c)), none] [] M Q
  | 0, c, M, n, ta, hc, h => by
    obtain ⟨n', -, -, -, e84⟩ := ix_tms h0 hT hP hL c (by omega)
    have : c = k := by omega
    subst this
    obtain ⟨k', a1, a2, a3, -⟩ := h.2.1.2.2.2
    refine wc_X10_oneTick_89 (re_m5 h) ⟨fun _ => K M n ta h, fun q => absurd ?_ q⟩
    rw [a3, ← a2, e84, hk]
    exact Int32.le_refl _
  | j + 1, c, M, n, ta, hc, h => by
    obtain ⟨n', -, hx, e0, e84⟩ := ix_tms h0 hT hP hL c (by omega)
    have hne : n = n' := by
      have h4 := re_4 h
      have h4' := ix_4 hx
      exact (nI_eq (by omega) (by omega)).mp ((re_1 h).symm.trans (ix_1 hx))
    subst hne
    have ih := fun {M : mm_T} {n : Nat} {ta : Nat → Nat} => ce_tms hT hP h0 hL hk hk12 K j (c + 1) (M := M) (n := n) (ta := ta) (by omega)
    rw [tms_s] at ih
    obtain ⟨X, hX⟩ : ∃ X, X = sp_tms I0 m c := ⟨_, rfl⟩
    rw [← hX] at h hx e84 ih
    have h4 := re_4 h
    obtain ⟨k', a1, a2, a3, a4, -⟩ := id h.2.1.2.2.2
    have hkk : k' = k := (nI_eq (by omega) (by omega)).mp (a2.symm.trans (e84.trans hk))
    subst hkk
    obtain ⟨b1, b2, b3, ⟨l, b4, b5, b6⟩, b7⟩ := a4 c (by omega)
    obtain ⟨⟨s1, s2, s3, s4, s5, s6, s7, s8, s9, s10, s11⟩, -, ⟨w1, w2, w3⟩, -⟩ := h.1.1
    refine wc_X10_oneTick_89 s1 ⟨fun q => absurd q (by rw [a3]; exact nI_ge (by omega) (by omega)), fun _ => ?_⟩
    rw [s8]
    refine ⟨12, w3, c, ⟨rfl, by omega⟩, ?_⟩
    rw [b1, b7 7 (by decide) (by decide), h.2.2.2.2.1.1]
    refine ⟨b3, fun q => ?_, fun q => ?_⟩
    · refine ih (n := n) (ta := ta) ?_
      unfold sp_tm1
      rw [if_neg (show ¬ X (m + 1) (85 + 8 * c + 7) = X (m + 1) 0 from q)]
      exact h
    · obtain ⟨x, x1, x2⟩ := ix_log hx
      obtain ⟨rm, hrm, -, erm⟩ := hx.1.2.1.2.2.2.2.2.1
      have kl := br_ln h.1.2.1 b4
      rw [b6, show mm_i M (12 + l) 0 = ra_C X m c 0 from kl.2.2.trans b5.symm, b7 1 (by decide) (by decide), b7 2 (by decide) (by decide), b7 3 (by decide) (by decide)]
      have key : ∀ (Y : Nat → Nat → Int32) (M1 : mm_T) (n1 : Nat) (ta1 : Nat → Nat) (x7 : Int32), re_ M1 Y m n1 ta1 tm → (∀ j, 84 ≤ j → j < 200 → Y (m + 1) j = X (m + 1) j) → (∀ M2, re_ M2 (i2_u (i2_u Y (m + 1) (85 + 8 * c + 7) (X (m + 1) (85 + 8 * c + 7) + X (m + 1) (85 + 8 * c + 4))) (m + 1) (if x7 = 0 then 85 + 8 * c + 6 else 85 + 8 * c + 5) (if x7 = 0 then X (m + 1) (85 + 8 * c + 6) + 1 else X (m + 1) (85 + 8 * c + 5) + 1)) m n1 ta1 tm → cw_v mt_X10_oneTick 89 [some (pv_r 5), some (pv_i (nI (c + 1))), none] [] M2 Q) → cs_v mt_X7_ring [pv_r (tm c), pv_i x7] M1 (fun M13 => cw_v mt_X10_oneTick 89 [some (pv_r 5), some (pv_i (nI (c + 1))), none] [] M13 Q) := by
        intro Y M1 n1 ta1 x7 hY hy KK
        have hk1 : Y (m + 1) 84 = nI k' := (hy 84 (by omega) (by omega)).trans (e84.trans hk)
        obtain ⟨k2, c1, c2, c3, c4, -⟩ := id hY.2.1.2.2.2
        have hk2 : k2 = k' := (nI_eq (by omega) (by omega)).mp (c2.symm.trans hk1)
        subst hk2
        obtain ⟨d1, d2, d3, d4, d5⟩ := c4 c (by omega)
        refine wc_X7_ring_0 d3 (fun M3 e3 => ?_)
        rw [d5 7 (by decide) (by decide), d5 4 (by decide) (by decide)] at e3
        have h3 := re_tmi hY hk1 hk12 (c := c) (f := 7) (x := ra_C Y m c 7 + ra_C Y m c 4) (by omega) (by decide) (by decide)
        rw [← e3] at h3
        have y7 : ra_C Y m c 7 + ra_C Y m c 4 = X (m + 1) (85 + 8 * c + 7) + X (m + 1) (85 + 8 * c + 4) := by
          unfold ra_C
          rw [hy _ (by omega) (by omega), hy _ (by omega) (by omega)]
        rw [y7] at h3
        have hk3 : i2_u Y (m + 1) (85 + 8 * c + 7) (X (m + 1) (85 + 8 * c + 7) + X (m + 1) (85 + 8 * c + 4)) (m + 1) 84 = nI k2 := (i2_uj (by omega)).trans hk1
        obtain ⟨k3, g1, g2, g3, g4, -⟩ := id h3.2.1.2.2.2
        have hk4 : k3 = k2 := (nI_eq (by omega) (by omega)).mp (g2.symm.trans hk3)
        subst hk4
        obtain ⟨-, -, -, -, g5⟩ := g4 c (by omega)
        refine ⟨fun q M4 e4 => ?_, fun q M4 e4 => ?_⟩
        · rw [if_pos q, if_pos q] at KK
          have v6 : mm_i M3 (tm c) 6 = X (m + 1) (85 + 8 * c + 6) := by
            rw [g5 6 (by decide) (by decide)]
            unfold ra_C
            rw [i2_uj (by omega)]
            exact hy _ (by omega) (by omega)
          rw [v6] at e4
          have := re_tmi h3 hk3 hk12 (c := c) (f := 6) (x := X (m + 1) (85 + 8 * c + 6) + 1) (by omega) (by decide) (by decide)
          rw [← e4] at this
          exact KK M4 this
        · rw [if_neg q, if_neg q] at KK
          have v5 : mm_i M3 (tm c) 5 = X (m + 1) (85 + 8 * c + 5) := by
            rw [g5 5 (by decide) (by decide)]
            unfold ra_C
            rw [i2_uj (by omega)]
            exact hy _ (by omega) (by omega)
          rw [v5] at e4
          have := re_tmi h3 hk3 hk12 (c := c) (f := 5) (x := X (m + 1) (85 + 8 * c + 5) + 1) (by omega) (by decide) (by decide)
          rw [← e4] at this
          exact KK M4 this
      unfold sp_tm1 at ih
      rw [if_pos (show X (m + 1) (85 + 8 * c + 7) = X (m + 1) 0 from q), nn_e hx] at ih
      refine ⟨kl.1, ce_come h (ix_8 hx) x2 (by omega) (ix_bl hx) (ix_hW hx) hx.2.1.1 (fun q => hx.2.1.2.2.2 n (Nat.le_refl _) q) erm (by omega) (fun z => ?_) (fun z M1 ta1 h1 => ?_)⟩
      · have hlt := why_lt h4 z
        refine ⟨fun _ => key X M n ta 0 h (fun _ _ _ => rfl) (fun M2 h2 => ih (n := n) (ta := ta) ?_), fun y => absurd hlt y⟩
        have ec : sp_comes X m n (X (m + 1) (85 + 8 * c + 0)) (X (m + 1) (85 + 8 * c + 1)) (X (m + 1) (85 + 8 * c + 2)) (X (m + 1) (85 + 8 * c + 3)) (-1) = (sp_why X m n (X (m + 1) (85 + 8 * c + 0)) (X (m + 1) (85 + 8 * c + 1)) (X (m + 1) (85 + 8 * c + 2)) (X (m + 1) (85 + 8 * c + 3)) (-1), X) := by unfold sp_comes; rw [if_neg (show ¬ sp_why X m n (X (m + 1) (85 + 8 * c + 0)) (X (m + 1) (85 + 8 * c + 1)) (X (m + 1) (85 + 8 * c + 2)) (X (m + 1) (85 + 8 * c + 3)) (-1) = 0 from z)]
        rw [ec]
        rw [if_pos rfl, if_pos rfl] at h2
        rw [if_pos (show (sp_why X m n (X (m + 1) (85 + 8 * c + 0)) (X (m + 1) (85 + 8 * c + 1)) (X (m + 1) (85 + 8 * c + 2)) (X (m + 1) (85 + 8 * c + 3)) (-1), X).1 < 0 from hlt), if_pos (show (sp_why X m n (X (m + 1) (85 + 8 * c + 0)) (X (m + 1) (85 + 8 * c + 1)) (X (m + 1) (85 + 8 * c + 2)) (X (m + 1) (85 + 8 * c + 3)) (-1), X).1 < 0 from hlt)]
        exact h2
      · have ec : sp_comes X m n (X (m + 1) (85 + 8 * c + 0)) (X (m + 1) (85 + 8 * c + 1)) (X (m + 1) (85 + 8 * c + 2)) (X (m + 1) (85 + 8 * c + 3)) (-1) = (nI n, sp_com X m n (X (m + 1) (85 + 8 * c + 0)) (X (m + 1) (85 + 8 * c + 1)) (X (m + 1) (85 + 8 * c + 2)) (X (m + 1) (85 + 8 * c + 3)) (-1)) := by unfold sp_comes; rw [if_pos (show sp_why X m n (X (m + 1) (85 + 8 * c + 0)) (X (m + 1) (85 + 8 * c + 1)) (X (m + 1) (85 + 8 * c + 2)) (X (m + 1) (85 + 8 * c + 3)) (-1) = 0 from z)]
        have hpos : ¬ nI n < 0 := nI_pos (by omega)
        refine ⟨fun y => absurd y hpos, fun _ => key _ M1 (n + 1) ta1 1 h1 (fun j q1 q2 => ?_) (fun M2 h2 => ih (n := n + 1) (ta := ta1) ?_)⟩
        · have := comes_t (I := X) (m := m) (n := n) (x1 := X (m + 1) (85 + 8 * c + 0)) (x2 := X (m + 1) (85 + 8 * c + 1)) (x3 := X (m + 1) (85 + 8 * c + 2)) (x4 := X (m + 1) (85 + 8 * c + 3)) (x5 := -1) (j := j) h4 (Or.inr ⟨q1, q2⟩)
          rw [ec] at this
          exact this
        · rw [ec]
          rw [if_neg (by decide), if_neg (by decide)] at h2
          rw [if_neg (show ¬ (nI n, sp_com X m n (X (m + 1) (85 + 8 * c + 0)) (X (m + 1) (85 + 8 * c + 1)) (X (m + 1) (85 + 8 * c + 2)) (X (m + 1) (85 + 8 * c + 3)) (-1)).1 < 0 from hpos), if_neg (show ¬ (nI n, sp_com X m n (X (m + 1) (85 + 8 * c + 0)) (X (m + 1) (85 + 8 * c + 1)) (X (m + 1) (85 + 8 * c + 2)) (X (m + 1) (85 + 8 * c + 3)) (-1)).1 < 0 from hpos)]
          exact h2
theorem ce_tick (h : re_ M I m n ta tm) (hi : ix_ I m n T W P L) (hT : T < 900000) (hP : P < 2147483648) (hL : L + 20000 < 1998900000) {Q : mm_T → Prop} (K : ∀ M' n' ta' tn, re_ M' (sp_tick I m n) m n' ta' tn → Q M') : cs_v mt_X10_oneTick [pv_r 5] M Q := by
  obtain ⟨k, a1, a2, -⟩ := id h.2.1.2.2.2
  obtain ⟨I1, I2, I3, e1, h1, hl, e2, h2, e3, h3, e0, e84, et⟩ := ix_tk3 hi hT hP hL
  rw [a2, nI_clamp (by omega)] at et
  refine wc_X10_oneTick_0 (re_m5 h) (fun M1 g1 => ?_)
  rw [h.2.2.2.2.1.1] at g1
  have r1 := re_now (x := I (m + 1) 0 + 1) h
  rw [← g1, ← e1] at r1
  refine ce_fls (i := 0) (by omega) _ r1 h1 (by omega) rfl (by omega) (fun M2 tn r2 => ?_)
  rw [← e2] at r2
  have hr := rc2_le h2
  refine ce_wk (i := 0) hP 401 r2 h2 (by omega) (by omega) (by omega) (fun M3 r3 => ?_)
  rw [← e3] at r3
  exact ce_tms (by omega) hP h3 (by omega) (e84.trans a2) a1 (fun M4 n' ta' r4 => K M4 n' ta' tn (by rw [et]; exact r4)) k 0 (by omega) r3
end Tick2
