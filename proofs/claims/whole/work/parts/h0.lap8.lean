/-! lapse: the reference's ticks on paper -/
section Lap8
variable {B : mm_T} {I J N G : Nat → Nat → Int32} {m n n' n0 t T W P L X : Nat} {x1 x2 x3 x4 x5 : Int32}
theorem ip_dv (h : ip_ J m n T W P L) : dv_ J m n 0 := by
  obtain ⟨a1, a2, a3, a4, a5, a6⟩ := ix_dv h.2
  refine ⟨ip_1 h, a2, fun t q => ?_, fun t _ q => ?_, ?_, lb_8 h.1⟩
  · have := a3 t q
    rw [offT] at this
    exact this
  · rw [h.1] at q
    exact absurd q (by decide)
  · simp only [offT, off_r] at a5
    exact a5
theorem ip_zr (h : ip_ J m n T W P L) : zr_ J m := fun j => by
  have := ix_z h.2 j
  unfold off_ at this
  rw [i2_ua (by omega), i2_ua (by omega)] at this
  exact this
theorem fp_84 (h : ip_ J m n T W P L) (ht : t < n) (h6 : ra_T J m t 6 = 3) : sp_fl J m n t 0 (m + 1) 84 = J (m + 1) 84 := by
  have o2 := (fl_o (c := 0) h.2 ht (offT.trans h6)).2.1 84 (by omega) (by omega) (by omega)
  rw [off_r, fl_row off_r] at o2
  exact o2
theorem fp_3 (h : ip_ J m n T W P L) (hT : T < 1000000) (hL : L < 1999990000) (ht : t < n) (h6 : ra_T J m t 6 = 3) {x : Nat} (hx : x < n) (q : ra_T (sp_fl J m n t 0) m x 6 = 3) : x ≠ t ∧ ra_T J m x 6 = 3 ∧ ra_T (sp_fl J m n t 0) m x 11 = ra_T J m x 11 := by
  obtain ⟨e1, e2, e3, e4, o1, o2, -⟩ := fp_eff h hT hL ht h6
  have hxt : x ≠ t := fun z => by
    rw [z] at q
    by_cases y : ac_ J m t
    · rw [e1 y] at q; exact absurd q (by decide)
    · rw [(e2 y).1] at q; exact absurd q (by decide)
  refine ⟨hxt, ?_, o1 x 11 hx hxt (by decide) (by decide)⟩
  by_cases z : ra_T J m x 6 = 1
  · obtain ⟨b, b1, b2, -⟩ := h.2.1.2.2.2 x hx (offT.trans z)
    rw [offT] at b2
    rcases (e4 x b hx z b2 (by omega)).1 with y | y <;> (rw [y] at q; exact absurd q (by decide))
  · rw [← e3 x hx hxt z]
    exact q
theorem rc_flsP (RK : rf_ok B m) (hT : T < 1000000) (hL : L < 1999990000) (hX : X + 1 < 2147483648) {Q : fI → Prop} : ∀ (k t : Nat) {J : fI}, t + k = n → li_ I J m n0 n T W P L → J (m + 1) 0 = nI (X + 1) → (∀ x, x < n → ra_T J m x 6 = 3 → nI X < ra_T J m x 11) → (∀ x, x < t → ra_T J m x 6 = 3 → J (m + 1) 0 < ra_T J m x 11) → (∀ J', li_ I J' m n0 n T W P L → J' (m + 1) 0 = J (m + 1) 0 → J' (m + 1) 84 = J (m + 1) 84 → (∀ x, x < n → ra_T J' m x 6 = 3 → J' (m + 1) 0 < ra_T J' m x 11) → fq_ m J J' → rs_v mt_X11_wakes [pv_r m] B J' (fun I1 => rw_v mt_X11_ticks 68 [some (pv_r m), some (pv_i 0), none, none] [] B I1 Q)) → rw_v mt_X11_ticks 12 [some (pv_r m), some (pv_i (nI t)), none, none] [] B J Q
  | 0, t, J, ht, h, h0, hbo, hlt, K => by
    have : t = n := by omega
    subst this
    exact wq_X11_ticks_12 RK ⟨fun _ => K J h rfl rfl hlt ⟨py_rf, hi_rf⟩, fun c => absurd (nI_end (ip_1 h.1)) c⟩
  | k + 1, t, J, ht, h, h0, hbo, hlt, K => by
    have hn := ip_4 h.1
    have htn : t < n := by omega
    have nx : (ra_T J m t 6 = 3 → J (m + 1) 0 < ra_T J m t 11) → rw_v mt_X11_ticks 12 [some (pv_r m), some (pv_i (nI (t + 1))), none, none] [] B J Q := fun hh => rc_flsP RK hT hL hX k (t + 1) (by omega) h h0 hbo (fun x q => by
      rcases Nat.lt_or_ge x t with z | z
      · exact hlt x z
      · rw [show x = t by omega]; exact hh) K
    refine wq_X11_ticks_12 RK ⟨fun c => absurd c (nI_done (ip_1 h.1) hn htn), fun _ => ⟨t, ⟨rfl, by omega⟩, fun c => nx (fun q => absurd q c), fun c => ⟨fun c2 => nx (fun _ => c2), fun c2 => ?_⟩⟩⟩
    have c : ra_T J m t 6 = 3 := c
    have c2 : ¬ J (m + 1) 0 < ra_T J m t 11 := c2
    obtain ⟨w, k', hw, h9, hk, h3, e9, e3, -⟩ := ix_out h.1.2 htn (offT.trans c)
    rw [offT] at h9 h3 e9 e3
    have h11 : J (m + 1) 0 = ra_T J m t 11 := by
      rcases h.1.2.1.2.2.1.1 t htn with ⟨-, w', k2, e, -, -, -, -, -, he, ee⟩ | z
      · rw [offT] at ee
        have b1 := hbo t htn c
        rw [ee, nI_ltI (by omega) (by omega)] at b1
        rw [h0, ee, nI_ltI (by omega) (by omega)] at c2
        rw [h0, ee]
        congr 1
        omega
      · rw [offT] at z
        exact absurd c z.1
    have hcn : hc_ J m n ≤ n := cn_le _ _
    refine rc_fail RK (ip_dv h.1) (ip_zr h.1) (by omega) h9 hw h3 hk c rfl htn ?_
    have e : (sp_fail J m n t w k' 0).2 = sp_fl J m n t 0 := by unfold sp_fl; rw [e9, e3]
    rw [e]
    have s0 : sp_fl J m n t 0 (m + 1) 0 = J (m + 1) 0 := (fp_eff h.1 hT hL htn c).2.2.2.2.2.1 0 (by decide) (by decide)
    have f3 : ∀ x, x < n → ra_T (sp_fl J m n t 0) m x 6 = 3 → x ≠ t ∧ ra_T J m x 6 = 3 ∧ ra_T (sp_fl J m n t 0) m x 11 = ra_T J m x 11 := fun x hx q => fp_3 h.1 hT hL htn c hx q
    refine rc_flsP RK hT hL hX k (t + 1) (by omega) (li_fl h hT hL htn c h11) (s0.trans h0) (fun x hx q => ?_) (fun x hx q => ?_) (fun J' g1 g2 g3 g4 g5 => K J' g1 (g2.trans s0) (g3.trans (fp_84 h.1 htn c)) g4 (fq_tr ⟨py_fl h.1.1, hi_fp h.1 htn c⟩ g5))
    · obtain ⟨a, b, d⟩ := f3 x hx q
      rw [d]
      exact hbo x hx b
    · obtain ⟨a, b, d⟩ := f3 x (by omega) q
      rw [d, s0]
      exact hlt x (by omega) b
theorem rc_tickP (RK : rf_ok B m) (hT : T < 900000) (hP : P < 2147483648) (hL : L < 1999990000) (hX : X + 1 < 2147483648) {k : Nat} (hk : k ≤ 12) (h : li_ I J m n0 n T W P L) (h0 : J (m + 1) 0 = nI X) (h84 : J (m + 1) 84 = nI k) (hb : ∀ x, x < n → ra_T J m x 6 = 3 → J (m + 1) 0 < ra_T J m x 11) {Q : fI → Prop} (K : ∀ J' n', li_ I J' m n0 n' (T + 1) W P L → J' (m + 1) 0 = nI (X + 1) → J' (m + 1) 84 = nI k → bd_ J' m n' → fq_ m J J' → Q J') : rs_v mt_X11_ticks [pv_r m] B J Q := by
  refine wq_X11_ticks_0 RK (fun I1 e1 => ?_)
  rw [h0, nI_1] at e1
  have h1 := li_0 h (by omega) h0 hX
  rw [← e1] at h1
  have eT : ∀ x f, ra_T I1 m x f = ra_T J m x f := fun x f => by rw [e1]; exact i2_uj (by omega)
  have r0 : I1 (m + 1) 0 = nI (X + 1) := by rw [e1, i2_us]
  have r84 : I1 (m + 1) 84 = nI k := by rw [e1, i2_uj (by omega)]; exact h84
  refine rc_flsP RK (by omega) hL hX n 0 (by omega) h1 r0 (fun x hx q => ?_) (fun x q => by omega) (fun J2 g1 g2 g3 g4 g5 => ?_)
  · rw [eT] at q ⊢
    rw [← h0]
    exact hb x hx q
  · have hn := ip_4 g1.1
    have hbJ := ip_rb g1.1 hP
    have hc2 : rc2_ J2 m n < 401 := by
      have := cn_le (fun t => decide (ra_T J2 m t 6 = 2)) n
      unfold rc2_
      omega
    obtain ⟨w1, w2, w3, w4⟩ := li_wk hP hL 401 g1 hc2
    refine rc_wk RK hbJ (lb_8 g1.1.1) (by omega) ?_
    have q0 : sp_wk 401 J2 m n (m + 1) 0 = nI (X + 1) := by rw [w2, g2, r0]
    refine rc_tmsP RK (by omega) hP hL hk k 0 (by omega) w1 ?_ ⟨fun x hx q => ?_, fun x hx q => ?_⟩ (fun J' n' a1 a2 a3 a4 a5 => K J' n' a1 (a4.trans q0) a2 a3 ?_)
    · rw [wk_o 401 hbJ (by omega) hn, g3]
      exact r84
    · obtain ⟨b1, b2⟩ := w4 x q
      rw [b2, w2]
      exact g4 x hx b1
    · rw [w2]
      exact w3 x hx q
    · have f1 : fq_ m J I1 := by rw [e1]; exact fq_u (by omega)
      have f2 : fq_ m J2 (sp_wk 401 J2 m n) := ⟨fun a j q1 q2 => wk_tf 401 hbJ g1.1.1 a j q1 (by omega), fun j q => wk_o 401 hbJ (by omega) hn⟩
      exact fq_tr f1 (fq_tr g5 (fq_tr f2 a5))
/-- the reference's lapse, up to its counters -/
theorem rc_lap27 (RK : rf_ok B m) (hP : P < 2147483648) (hL : L < 1999990000) {x k : Nat} (hx1 : 1 ≤ x) (hx : x ≤ 99) (hk : k ≤ 12) {x2 : Int32} {X0 : Nat} (hX0 : X0 < 2000000) {Q : Int32 → fI → Prop} : ∀ (j i : Nat) {J : fI} {n T : Nat}, i + j = x → T + j < 900000 → li_ I J m n0 n T W P L → J (m + 1) 0 = nI (X0 + i) → J (m + 1) 84 = nI k → (∀ x, x < n → ra_T J m x 6 = 3 → J (m + 1) 0 < ra_T J m x 11) → (1 ≤ i → bd_ J m n) → (∀ J' n' T', li_ I J' m n0 n' T' W P L → J' (m + 1) 0 = nI (X0 + x) → bd_ J' m n' → fq_ m J J' → Q (if x2 = 0 then J' m 9 else if x2 = 1 then J' m 10 else J' m 11) (ed_ J' m)) → rw_i mt_X11_lapse 27 [some (pv_r m), some (pv_i (nI x)), some (pv_i x2), some (pv_i (nI i))] [] B J Q
  | 0, i, J, n, T, hi, hT, h, h0, h84, hb1, hb, K => by
    have : i = x := by omega
    subst this
    have K := K J n T h h0 (hb hx1) ⟨py_rf, hi_rf⟩
    refine wq_X11_lapse_27 RK ⟨fun _ => ⟨fun c => ⟨fun c2 => rc_ends RK ?_, fun c2 => rc_ends RK ?_⟩, fun c => rc_ends RK ?_⟩, fun c => absurd (Int32.le_refl _) c⟩
    · rw [if_neg c, if_neg c2] at K
      exact K
    · rw [if_neg c, if_pos c2] at K
      exact K
    · rw [if_pos c] at K
      exact K
  | j + 1, i, J, n, T, hi, hT, h, h0, h84, hb1, hb, K => by
    refine wq_X11_lapse_27 RK ⟨fun c => absurd c (nI_ge (by omega) (by omega)), fun _ => rc_tickP RK (by omega) hP hL (by omega) hk h h0 h84 hb1 (fun J' n' a1 a2 a3 a4 a5 => ?_)⟩
    rw [nI_1]
    exact rc_lap27 RK hP hL hx1 hx hk hX0 j (i + 1) (by omega) (by omega) a1 a2 a3 a4.1 (fun _ => a4) (fun J'' n'' T'' b1 b2 b3 b4 => K J'' n'' T'' b1 b2 b3 (fq_tr a5 b4))
end Lap8
