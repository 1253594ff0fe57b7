/-! tick -/
section Pub5
variable {B M M' : mm_T} {I J E : Nat → Nat → Int32} {m n T W P L : Nat} {ta tm : Nat → Nat} {S : Nat → Nat → Bool}
theorem nt_fl (hS : uf_ S m) (h : ix_ I m n T W P L) {t : Nat} (ht : t < n) (h6 : ra_T I m t 6 = 3) {c : Int32} : sp_fl (pt_ S E I) m n t c = pt_ S E (sp_fl I m n t c) := by
  obtain ⟨w, k, hw, h9, hk, h3, e9, e3, -⟩ := ix_out h ht h6
  unfold sp_fl
  rw [nt_T (uf_us hS), nt_T (uf_us hS), e9, nt_fail (uf_us hS) hw]
theorem nt_en (hS : uf_ S m) : en_ (pt_ S E I) m = en_ I m := by
  funext t
  unfold en_
  rw [nt_T (uf_us hS), nt_T (uf_us hS), uf_at hS (by omega) (by omega)]
theorem nt_fls (hS : uf_ S m) (hT : T < 1000000) : ∀ (ts : List Nat) {I : Nat → Nat → Int32} {L : Nat}, ix_ I m n T W P L → L + 410 * ts.length < 1999990000 → (List.range n).filter (en_ I m) = ts → sp_fls (pt_ S E I) m n ts = pt_ S E (sp_fls I m n ts)
  | [], _, _, _, _, _ => rfl
  | t :: ts, I, L, h, hL, hts => by
    rw [List.length_cons] at hL
    have hm : t < n ∧ en_ I m t = true := by
      have : t ∈ (List.range n).filter (en_ I m) := by rw [hts]; exact List.mem_cons_self
      rw [List.mem_filter, List.mem_range] at this
      exact this
    show sp_fls (sp_fl (pt_ S E I) m n t 0) m n ts = pt_ S E (sp_fls (sp_fl I m n t 0) m n ts)
    rw [nt_fl hS h hm.1 (en_3 hm.2), nt_fls hS hT ts (ix_fl (c := 0) h hT (by omega) hm.1 (en_3 hm.2)) (by omega) (hs_tl hts (fun x q => fl_en h hm.1 (en_3 hm.2) q))]
theorem nt_tm1 (hS : uf_ S m) (h : ix_ I m n T W P L) {c : Nat} : sp_tm1 (pt_ S E I) m c = pt_ S E (sp_tm1 I m c) := by
  have r : ∀ j, pt_ S E I (m + 1) j = I (m + 1) j := fun j => uf_at hS (by omega) (by omega)
  have h4 := ix_4 h
  unfold sp_tm1
  rw [nn_e h, nn_e (ix_pt (E := E) h hS), r, r, r, r, r, r, r, r, r]
  by_cases c1 : I (m + 1) (85 + 8 * c + 7) = I (m + 1) 0
  · rw [if_pos c1, if_pos c1, nt_comes (uf_us hS) h4]
    simp only []
    rw [uf_u hS (by omega) (by omega), uf_u hS (by omega) (by omega)]
  · rw [if_neg c1, if_neg c1]
theorem nt_tms (hS : uf_ S m) (h : ix_ I m n T W P L) (hT : T < 1000000) (hP : P < 2147483648) (hL : L < 1999999900) : ∀ (k : Nat), k ≤ 12 → sp_tms (pt_ S E I) m k = pt_ S E (sp_tms I m k)
  | 0, _ => rfl
  | k + 1, hk => by
    obtain ⟨n', -, hx, -⟩ := ix_tms h hT hP hL k (by omega)
    rw [tms_s, tms_s, nt_tms hS h hT hP hL k (by omega), nt_tm1 hS hx]
theorem nt_tick (hS : uf_ S m) (h : ix_ I m n T W P L) (hT : T < 900000) (hP : P < 2147483648) (hL : L + 20000 < 1998900000) {k : Nat} (hk : tmk_ I m k) : sp_tick (pt_ S E I) m n = pt_ S E (sp_tick I m n) := by
  have r : ∀ j, pt_ S E I (m + 1) j = I (m + 1) j := fun j => uf_at hS (by omega) (by omega)
  obtain ⟨I1, I2, I3, e1, h1, hl, e2, h2, e3, h3, e0, e84, et⟩ := ix_tk3 h hT hP hL
  rw [et, hk.2, nI_clamp (by have := hk.1; omega)]
  unfold sp_tick
  rw [r, r, uf_u hS (by omega) (by omega), ← e1, nt_en hS, nt_fls hS (by omega) _ h1 (by omega) rfl, ← e2, nt_wk (uf_us hS) 401 (ix_rb h2 hP), ← e3, hk.2, nI_clamp (by have := hk.1; omega)]
  exact nt_tms hS h3 (by omega) hP (by omega) k hk.1
def lj_ (j : Nat) : Nat := 20000 * j
theorem lj_s {j : Nat} : lj_ (j + 1) = lj_ j + 20000 := rfl
theorem lj_le {j : Nat} (h : j ≤ 99) : lj_ j ≤ 1980000 := Nat.mul_le_mul_left 20000 h
def sp_tks (m : Nat) : Nat → fI → fI
  | 0, I => I
  | k + 1, I => sp_tks m k (sp_tick I m (nn_ I m))
theorem ix_tks (hP : P < 2147483648) {k : Nat} : ∀ (j : Nat) {I : fI} {n T L : Nat}, ix_ I m n T W P L → T + j < 900000 → L + lj_ j < 1998900000 → tmk_ I m k → ∃ n', ix_ (sp_tks m j I) m n' (T + j) W P (L + lj_ j)
  | 0, I, n, T, L, h, _, _, _ => ⟨n, h⟩
  | j + 1, I, n, T, L, h, hT, hL, hk => by
    rw [lj_s] at hL
    have hL1 : L + 20000 < 1998900000 := Nat.lt_of_le_of_lt (Nat.add_le_add_left (Nat.le_add_left 20000 (lj_ j)) L) hL
    have hL2 : L + 20000 + lj_ j < 1998900000 := by rw [Nat.add_assoc, Nat.add_comm 20000]; exact hL
    obtain ⟨n1, -, h1, e84, e0⟩ := ix_tick h (by omega) hP hL1 hk.2 hk.1
    obtain ⟨n2, h2⟩ := ix_tks hP (k := k) j h1 (by omega) hL2 ⟨hk.1, e84.trans hk.2⟩
    refine ⟨n2, ?_⟩
    show ix_ (sp_tks m j (sp_tick I m (nn_ I m))) m n2 (T + (j + 1)) W P (L + lj_ (j + 1))
    rw [nn_e h, lj_s]
    exact ix_up h2 (by omega) (Nat.le_refl _) (Nat.le_refl _) (by rw [Nat.add_assoc, Nat.add_comm 20000]; exact Nat.le_refl _)
theorem ce_tks (hP : P < 2147483648) {k x : Nat} (hx : x < 100) {Q : Int32 → mm_T → Prop} : ∀ (j c : Nat) {M : mm_T} {I : fI} {n T L : Nat} {ta tm : Nat → Nat}, c + j = x → re_ M I m n ta tm → ix_ I m n T W P L → T + j < 900000 → L + lj_ j < 1998900000 → tmk_ I m k → (∀ M' n' ta' tn, re_ M' (sp_tks m j I) m n' ta' tn → Q (sp_tks m j I (m + 1) 0) M') → cw_i mt_X10_tick 20 [some (pv_r 5), some (pv_i (nI x)), some (pv_i (nI c))] [] M Q
  | 0, c, M, I, n, T, L, ta, tm, hc, h, hi, hT, hL, hk, K => by
    refine wc_X10_tick_20 (re_m5 h) ⟨fun _ => ?_, fun q => absurd (nI_le (by omega) (by omega)) q⟩
    rw [h.2.2.2.2.1.1]
    exact K _ _ _ _ h
  | j + 1, c, M, I, n, T, L, ta, tm, hc, h, hi, hT, hL, hk, K => by
    rw [lj_s] at hL
    have hL1 : L + 20000 < 1998900000 := Nat.lt_of_le_of_lt (Nat.add_le_add_left (Nat.le_add_left 20000 (lj_ j)) L) hL
    have hL2 : L + 20000 + lj_ j < 1998900000 := by rw [Nat.add_assoc, Nat.add_comm 20000]; exact hL
    obtain ⟨n1, -, h1, e84, e0⟩ := ix_tick hi (by omega) hP hL1 hk.2 hk.1
    refine wc_X10_tick_20 (re_m5 h) ⟨fun q => absurd q (nI_ge (by omega) (by omega)), fun _ => ce_tick h hi (by omega) hP hL1 (fun M' n' ta' tn h' => ?_)⟩
    have K : ∀ M' n' ta' tn, re_ M' (sp_tks m j (sp_tick I m (nn_ I m))) m n' ta' tn → Q (sp_tks m j (sp_tick I m (nn_ I m)) (m + 1) 0) M' := K
    rw [nn_e hi] at K
    rw [nI_1]
    have en : n' = n1 := by
      have a := re_4 h'
      have b := ix_4 h1
      exact (nI_eq (by omega) (by omega)).mp ((re_1 h').symm.trans (ix_1 h1))
    subst en
    exact ce_tks hP hx j (c + 1) (by omega) h' h1 (by omega) hL2 ⟨hk.1, e84.trans hk.2⟩ K
theorem rc_tks (hS : uf_ S m) (RK : rf_ok B m) (hP : P < 2147483648) {k x : Nat} (hx : x < 100) {Q : Int32 → fI → Prop} : ∀ (j c : Nat) {I : fI} {n T L : Nat}, c + j = x → ix_ I m n T W P L → T + j < 900000 → L + lj_ j < 1998900000 → tmk_ I m k → Q (sp_tks m j I (m + 1) 0) (pt_ S E (sp_tks m j I)) → rw_i mt_X11_tick 19 [some (pv_r m), some (pv_i (nI x)), some (pv_i (nI c))] [] B (pt_ S E I) Q
  | 0, c, I, n, T, L, hc, hi, hT, hL, hk, K => by
    refine wq_X11_tick_19 RK ⟨fun _ => ?_, fun q => absurd (nI_le (by omega) (by omega)) q⟩
    rw [uf_at hS (by omega) (by omega)]
    exact K
  | j + 1, c, I, n, T, L, hc, hi, hT, hL, hk, K => by
    rw [lj_s] at hL
    have hL1 : L + 20000 < 1998900000 := Nat.lt_of_le_of_lt (Nat.add_le_add_left (Nat.le_add_left 20000 (lj_ j)) L) hL
    have hL2 : L + 20000 + lj_ j < 1998900000 := by rw [Nat.add_assoc, Nat.add_comm 20000]; exact hL
    obtain ⟨n1, -, h1, e84, e0⟩ := ix_tick hi (by omega) hP hL1 hk.2 hk.1
    have hJ := ix_pt (E := E) hi hS
    refine wq_X11_tick_19 RK ⟨fun q => absurd q (nI_ge (by omega) (by omega)), fun _ => rc_tick RK hJ (by omega) hP hL1 ((uf_at hS (by omega) (by omega)).trans hk.2) hk.1 ?_⟩
    have K : Q (sp_tks m j (sp_tick I m (nn_ I m)) (m + 1) 0) (pt_ S E (sp_tks m j (sp_tick I m (nn_ I m)))) := K
    rw [nn_e hi] at K
    rw [nI_1, nt_tick hS hi (by omega) hP hL1 hk]
    exact rc_tks hS RK hP hx j (c + 1) (by omega) h1 (by omega) hL2 ⟨hk.1, e84.trans hk.2⟩ K
def ap_tick (I : fI) (m : Nat) (x1 : Int32) : Int32 × fI := if 1 ≤ x1 ∧ x1 ≤ 99 then (sp_tks m x1.toNatClampNeg I (m + 1) 0, sp_tks m x1.toNatClampNeg I) else (-2, sp_ref I m)
theorem sm_tick (h : ix_ I m n T W P L) (hl : lim_ T W P L) {k : Nat} (hk : tmk_ I m k) {x1 : Int32} : sm_ I m n T W P L (ap_tick I m x1) (fun M Q => cs_i mt_X10_tick [pv_r 5, pv_i x1] M Q) (fun B J Q => rs_i mt_X11_tick [pv_r m, pv_i x1] B J Q) := by
  obtain ⟨l1, l2, l3, l4⟩ := hl
  by_cases c : 1 ≤ x1 ∧ x1 ≤ 99
  · obtain ⟨x, hx, rfl⟩ := i32_in (N := 99) (by decide) ⟨Int32.le_trans (by decide) c.1, c.2⟩
    rw [show ap_tick I m (nI x) = (sp_tks m x I (m + 1) 0, sp_tks m x I) by unfold ap_tick; rw [if_pos c, nI_clamp (by omega)]]
    have hlj := lj_le hx
    obtain ⟨n', h'⟩ := ix_tks (by omega) x h (by omega) (by omega) hk
    refine ⟨⟨n', ix_up h' (by omega) (by omega) (by omega) (by omega)⟩, fun M ta tm Q hr K => ?_, fun S E B Q hS RK K => ?_⟩
    · exact wc_X10_tick_0 (re_m5 hr) ⟨fun q => absurd c.1 (Int32.not_le.mpr q), fun _ => ⟨fun _ => ce_tks (P := P) (by omega) (by omega) x 0 (by omega) hr h (by omega) (by omega) hk K, fun q => absurd c.2 q⟩⟩
    · exact wq_X11_tick_0 RK ⟨fun _ => rc_tks hS RK (P := P) (by omega) (by omega) x 0 (by omega) h (by omega) (by omega) hk K, fun q => absurd c q⟩
  · rw [show ap_tick I m x1 = (-2, sp_ref I m) from if_neg c]
    refine ⟨ix_rx h, fun M ta tm Q hr K => ?_, fun S E B Q hS RK K => ?_⟩
    · exact wc_X10_tick_0 (re_m5 hr) ⟨fun _ => cr_x hr (by decide) K, fun q1 => ⟨fun q2 => absurd ⟨Int32.not_lt.mp q1, q2⟩ c, fun _ => cr_x hr (by decide) K⟩⟩
    · exact wq_X11_tick_0 RK ⟨fun q => absurd q c, fun _ => rr_x hS (ix_8 h) K⟩
end Pub5
