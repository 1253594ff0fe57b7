/-! cancel -/
section Pub9
variable {B M M' : mm_T} {I J E : Nat → Nat → Int32} {m n T W P L : Nat} {ta tm : Nat → Nat} {S : Nat → Nat → Bool}
def sp_gone (I : fI) (m t : Nat) : fI := sp_log (i2_u (i2_u I (m + 1) (200 + 14 * t + 6) 6) (m + 1) (200 + 14 * t + 8) (-1)) m 6 t (-1) 0
theorem gone_o {t a j : Nat} (q1 : a ≠ m + 1 ∨ (j ≠ 200 + 14 * t + 6 ∧ j ≠ 200 + 14 * t + 8)) (q2 : a ≠ m + 6) (q3 : a ≠ m ∨ j ≠ 6) : sp_gone I m t a j = I a j := by
  unfold sp_gone
  rw [sp_log_o q2 q3, i2_at, if_neg (by omega), i2_at, if_neg (by omega)]
theorem gone_6 {t x : Nat} : ra_T (sp_gone I m t) m x 6 = if x = t then 6 else ra_T I m x 6 := by
  unfold ra_T sp_gone
  rw [sp_log_r, i2_uj (by omega), i2_at]
  by_cases z : x = t
  · rw [if_pos ⟨rfl, by omega⟩, if_pos z]
  · rw [if_neg (by omega), if_neg z]
theorem gone_dv (h : ix_ I m n T W P L) (hL : L < 1999999000) {t : Nat} (ht : t < n) (h5 : ¬ ra_T I m t 6 = 5) : dv_ (sp_gone I m t) m n (L + 1) := by
  obtain ⟨v1, v2, v3, v4, v5, v6⟩ := ix_dv h
  refine ⟨(gone_o (by omega) (by omega) (by omega)).trans v1, v2, fun x q => by rw [show ra_T (sp_gone I m t) m x 4 = ra_T I m x 4 from gone_o (by omega) (by omega) (by omega)]; exact v3 x q, fun x q => cb_o (v4 x q) (gone_o (by omega) (by omega) (by omega)) (gone_o (by omega) (by omega) (by omega)), ?_, ?_⟩
  · rw [gone_o (by omega) (by omega) (by omega), v5]
    congr 1
    refine cn_eq (fun x q => ?_)
    rw [gone_6]
    by_cases z : x = t
    · rw [if_pos z, z]
      rw [decide_eq_false h5]
      decide
    · rw [if_neg z]
  · unfold sp_gone
    exact lb_log (lb_o v6 (i2_ua (by omega) |>.trans (i2_ua (by omega))) (i2_ua (by omega) |>.trans (i2_ua (by omega))) (Nat.le_refl _)) (by omega)
def ap_cancel (I : fI) (m n : Nat) (x1 : Int32) : Int32 × fI := if 0 ≤ x1 ∧ x1 ≤ nI n - 1 then (if ra_T I m x1.toNatClampNeg 6 ≤ 2 then (nI (sp_dr 401 (sp_gone I m x1.toNatClampNeg) m n [x1.toNatClampNeg] 101).2, ra_cls (sp_dr 401 (sp_gone I m x1.toNatClampNeg) m n [x1.toNatClampNeg] 101).1 m n 5) else (-3, sp_ref I m)) else (-2, sp_ref I m)
theorem le2_3 {x : Int32} (h : x ≤ 2) : x ≤ 3 := Int32.le_trans h (by decide)
theorem sm_cancel (h : ix_ I m n T W P L) (hl : lim_ T W P L) {x1 : Int32} : sm_ I m n T W P L (ap_cancel I m n x1) (fun M Q => cs_i mt_X10_cancel [pv_r 5, pv_i x1] M Q) (fun B J Q => rs_i mt_X11_cancel [pv_r m, pv_i x1] B J Q) := by
  obtain ⟨l1, l2, l3, l4⟩ := hl
  have h4 := ix_4 h
  have nJ : ∀ {S E}, uf_ S m → pt_ S E I (m + 1) 1 = nI n := fun hS => (uf_at hS (by omega) (by omega)).trans (ix_1 h)
  by_cases c : 0 ≤ x1 ∧ x1 ≤ nI n - 1
  · obtain ⟨t, ht, rfl⟩ := (i32_tk h4).mp c
    by_cases d : ra_T I m t 6 ≤ 2
    · rw [show ap_cancel I m n (nI t) = (nI (sp_dr 401 (sp_gone I m t) m n [t] 101).2, ra_cls (sp_dr 401 (sp_gone I m t) m n [t] 101).1 m n 5) by unfold ap_cancel; rw [if_pos c, nI_clamp (by omega), if_pos d]]
      have n5 : ¬ ra_T I m t 6 = 5 := fun z => by rw [z] at d; exact absurd d (by decide)
      have n3 : ¬ ra_T I m t 6 = 3 := fun z => by rw [z] at d; exact absurd d (by decide)
      have dA := gone_dv h (by omega) ht n5
      obtain ⟨A, hA⟩ : ∃ A, A = sp_gone I m t := ⟨_, rfl⟩
      have ao : ∀ a j, (a ≠ m + 1 ∨ (j ≠ 200 + 14 * t + 6 ∧ j ≠ 200 + 14 * t + 8)) → a ≠ m + 6 → (a ≠ m ∨ j ≠ 6) → A a j = I a j := fun a j q1 q2 q3 => by rw [hA]; exact gone_o q1 q2 q3
      have A6 : ∀ x, x < n → ra_T A m x 6 = if x = t then 6 else ra_T I m x 6 := fun x _ => by rw [hA]; exact gone_6
      have A4 : ∀ x, x < n → ra_T A m x 4 = ra_T I m x 4 := fun x _ => ao _ _ (by omega) (by omega) (by omega)
      have A8 : A m 8 = 0 := (ao _ _ (by omega) (by omega) (by omega)).trans (ix_8 h)
      have zA : zr_ A m := zr_o (ix_z h) (fun j => ao _ _ (by omega) (by omega) (by omega)) (fun j => ao _ _ (by omega) (by omega) (by omega))
      have blA : bl_ A m n := fun x q => by rw [A4 x q]; exact ix_bl h x q
      rw [← hA] at dA ⊢
      have hcA : hc_ A m n ≤ 48 := by
        refine Nat.le_trans ?_ (Nat.le_trans (hc_le (ix_tv h)) h.2.1.2.2.1)
        refine cn_sub (fun x q z => ?_)
        have z := of_decide_eq_true z
        rw [A6 x q] at z
        by_cases y : x = t
        · rw [if_pos y] at z; exact absurd z (by decide)
        · rw [if_neg y] at z; exact decide_eq_true z
      have T8 : ra_T A m t 8 = -1 := by
        rw [hA]
        unfold sp_gone ra_T
        rw [sp_log_r, i2_us]
      have WA : ivW A m n := by
        obtain ⟨w1, w2, w3⟩ := h.1.2.2.1
        have e : ∀ x f, 9 ≤ f → f < 14 → ra_T A m x f = ra_T I m x f := fun x f _ _ => ao _ _ (by omega) (by omega) (by omega)
        have eW : ∀ w, w < 6 → ra_W A m w 0 = ra_W I m w 0 := fun w q => ao _ _ (by omega) (by omega) (by omega)
        refine ⟨fun x q => ?_, fun x q => ?_, fun w q => ?_⟩
        · rw [A6 x q, e x 9 (by omega) (by omega), e x 10 (by omega) (by omega), e x 11 (by omega) (by omega)]
          by_cases y : x = t
          · rw [if_pos y]
            rcases w1 x q with ⟨z, -⟩ | ⟨-, z⟩
            · rw [y] at z; exact absurd z n3
            · exact Or.inr ⟨by decide, z⟩
          · rw [if_neg y]
            rcases w1 x q with ⟨z, w, k, en, z1, z2, z3, z4⟩ | z
            · exact Or.inl ⟨z, w, k, en, z1, z2, (eW w z1).trans z3, z4⟩
            · exact Or.inr z
        · rw [A6 x q]
          by_cases y : x = t
          · rw [if_pos y, y, T8]
            exact Or.inr ⟨by decide, rfl⟩
          · rw [if_neg y, show ra_T A m x 8 = ra_T I m x 8 from ao _ _ (by omega) (by omega) (by omega)]
            exact w2 x q
        · rw [eW w q]
          rcases w3 w q with z | ⟨x, z1, z2, z3, z4⟩
          · exact Or.inl z
          · have : x ≠ t := fun y => n3 (by rw [← y]; exact z3)
            exact Or.inr ⟨x, z1, z2, by rw [A6 x z1, if_neg this]; exact z3, (e x 9 (by omega) (by omega)).trans z4⟩
      have SA : ivS A m n := ivS_o h.2.1.2.1 (ao _ _ (by omega) (by omega) (by omega)) (fun j q => ao _ _ (by omega) (by omega) (by omega)) (fun x q => by
        rw [A6 x q]
        by_cases y : x = t
        · rw [if_pos y, y]
          exact ⟨fun z => absurd z (by decide), fun z => absurd z n5⟩
        · rw [if_neg y])
      have hx : ix_ (ra_cls (sp_dr 401 A m n [t] 101).1 m n 5) m n T W P (L + 401) := ix_drag h ht (le2_3 d) (v := 6) (Or.inr rfl) A6 (fun x f _ _ => ao _ _ (by omega) (by omega) (by omega)) (fun x q z => by
        rw [show ra_T A m x 7 = ra_T I m x 7 from ao _ _ (by omega) (by omega) (by omega)]
        rw [A6 x q] at z
        by_cases y : x = t
        · rw [if_pos y] at z; exact absurd z (by decide)
        · rw [if_neg y] at z; exact ix_7 h q z) WA (fun l f _ _ => ao _ _ (by omega) (by omega) (by omega)) (fun j _ _ => ao _ _ (by omega) (by omega) (by omega)) SA dA zA A8 (fun x _ => ao _ _ (by omega) (by omega) (by omega)) (Nat.le_refl _) (by omega)
      refine ⟨⟨n, ix_up hx (by omega) (by omega) (by omega) (by omega)⟩, fun M ta tm Q hr K => ?_, fun S E B Q hS RK K => ?_⟩
      · obtain ⟨x, y1, y2⟩ := ix_log h
        refine wc_X10_cancel_0 (re_m5 hr) (ce_taskAt hr (fun t' ht' e => ?_) (fun q => absurd c q))
        have : t = t' := (nI_eq (by omega) (by omega)).mp e
        subst this
        have g := re_ge hr ht
        refine ⟨fun _ => ⟨g.2, ce_loose hr h ht ?_⟩, fun q => absurd q (by omega)⟩
        rw [if_pos d, (re_bk hr).1]
        refine ⟨fun _ => ⟨(re_bk hr).2, ce_change hr (s := 6) (v := 6) ht rfl (by decide) (fun _ z => absurd z (by decide)) (fun M1 h1 => ?_)⟩, fun q => absurd q (by decide)⟩
        have h1' := re_neg h1 ht (f := 8) (by omega)
        refine ce_note h1' (by rw [i2_ua (by omega), i2_ua (by omega)]; exact ix_8 h) (by rw [i2_ua (by omega), i2_ua (by omega)]; exact y2) (by omega) ht (x3 := -1) (Or.inl ⟨rfl, rfl⟩) (fun M2 h2 => ?_)
        have h2 : re_ M2 A m n ta tm := by rw [hA]; exact h2
        refine ce_gather h2 blA (fun M3 tn3 h3 t3 f3 => wc_X10_setAside_0 (re_m5 h3) ?_)
        have hin : ∀ q, q ∈ [t] → q < n := fun q z => by
          have y : q = t := by simpa using z
          rw [y]
          exact ht
        refine ce_set7 401 (lv := [t]) (s := 0) h3 A8 blA f3 (fun x q => ?_) hin dA zA (by omega) (by omega) (by omega) (by decide) (fun M4 tn4 h4' _ => ?_)
        · rw [Bool.eq_iff_iff]
          constructor
          · intro z
            unfold lost_ bhl_ at z
            rw [Bool.and_eq_true, decide_eq_true_eq, decide_eq_true_eq, A4 x q] at z
            obtain ⟨z1, z2, z3⟩ := z
            have z1' := z1
            rw [A6 x q] at z1'
            have hne : x ≠ t := fun y => by rw [if_pos y] at z1'; exact absurd z1' (by decide)
            rw [if_neg hne] at z1'
            obtain ⟨p, hp, ep, sp⟩ := h.1.2.2.2 x q z1'
            rw [ep, nI_clamp (by omega), A6 p (by omega)] at z3
            by_cases y : p = t
            · exact sp_p_t z1 ((A4 x q).trans ep) (by rw [y]; simp)
            · rw [if_neg y] at z3
              rcases z3 with z3 | z3
              · rw [z3] at sp
                exact absurd sp (by decide)
              · rw [z3] at sp
                exact absurd sp (by decide)
          · intro z
            obtain ⟨z1, p, hp, z2⟩ := sp_p_of z
            have hp : p = t := by simpa using hp
            unfold lost_ bhl_
            rw [Bool.and_eq_true, decide_eq_true_eq, decide_eq_true_eq]
            refine ⟨z1, by rw [z2]; exact nI_nm (by omega), Or.inr ?_⟩
            rw [z2, nI_clamp (by omega), hp, A6 t ht, if_pos rfl]
        · rw [show (0 : Int32) + nI (sp_dr 401 A m n [t] 101).2 = nI (sp_dr 401 A m n [t] 101).2 from Int32.zero_add _]
          exact K _ _ _ _ (re_cls h4')
      · have hJ := ix_pt (E := E) h hS
        have eA : sp_gone (pt_ S E I) m t = pt_ S E A := by
          rw [hA]
          unfold sp_gone
          rw [uf_u hS (by omega) (by omega), uf_u hS (by omega) (by omega), nt_log (uf_us hS)]
        have po : ∀ a j, m ≤ a → a ≤ m + 12 → pt_ S E A a j = A a j := fun a j q1 q2 => uf_at hS q1 q2
        have dP : dv_ (pt_ S E A) m n (L + 1) := by
          have := gone_dv hJ (by omega) ht (by rw [nt_T (uf_us hS)]; exact n5)
          rwa [eA] at this
        have zP : zr_ (pt_ S E A) m := zr_o zA (fun j => po _ _ (by omega) (by omega)) (fun j => po _ _ (by omega) (by omega))
        have hP : hc_ (pt_ S E A) m n ≤ 48 := by rw [hc_o (fun x _ => nt_T (uf_us hS))]; exact hcA
        refine wq_X11_cancel_0 RK ⟨fun _ => ⟨t, ⟨rfl, by omega⟩, ?_⟩, fun q => absurd (by rw [nJ hS]; exact c) q⟩
        refine ⟨fun _ I2 e2 I3 e3 => ?_, fun q => absurd (by rw [uf_at hS (by omega) (by omega)]; exact d) q⟩
        rw [e2] at e3
        refine rc_log RK (b := L) (by rw [e3]; exact lb_o (ix_lb hJ) (by rw [i2_ua (by omega), i2_ua (by omega)]) (by rw [i2_ua (by omega), i2_ua (by omega)]) (Nat.le_refl _)) (by omega) rfl (by omega) ?_
        rw [show sp_log I3 m 6 t (-1) 0 = sp_gone (pt_ S E I) m t by unfold sp_gone; rw [e3], eA]
        refine rc_drags RK dP zP (by omega) rfl ht ?_
        unfold sp_drags
        rw [nt_dr (uf_us hS)]
        have n2 : pt_ S E (sp_dr 401 A m n [t] 101).1 (m + 1) 1 = nI n := by
          rw [uf_at hS (by omega) (by omega)]
          have := ix_1 hx
          rwa [cl_o (by omega)] at this
        refine rc_closes RK n2 h4 ?_
        rw [nt_cls (uf_us hS) 5 (by omega)]
        exact K
    · rw [show ap_cancel I m n (nI t) = (-3, sp_ref I m) by unfold ap_cancel; rw [if_pos c, nI_clamp (by omega), if_neg d]]
      refine ⟨ix_rx h, fun M ta tm Q hr K => ?_, fun S E B Q hS RK K => ?_⟩
      · refine wc_X10_cancel_0 (re_m5 hr) (ce_taskAt hr (fun t' ht' e => ?_) (fun q => absurd c q))
        have : t = t' := (nI_eq (by omega) (by omega)).mp e
        subst this
        have g := re_ge hr ht
        refine ⟨fun _ => ⟨g.2, ce_loose hr h ht ?_⟩, fun q => absurd q (by omega)⟩
        rw [if_neg d]
        exact ⟨fun q => absurd rfl q, fun _ => cr_x hr (by decide) K⟩
      · refine wq_X11_cancel_0 RK ⟨fun _ => ⟨t, ⟨rfl, by omega⟩, fun q => absurd (by rw [uf_at hS (by omega) (by omega)] at q; exact q) d, fun _ => rr_x hS (ix_8 h) K⟩, fun q => absurd (by rw [nJ hS]; exact c) q⟩
  · rw [show ap_cancel I m n x1 = (-2, sp_ref I m) from if_neg c]
    refine ⟨ix_rx h, fun M ta tm Q hr K => ?_, fun S E B Q hS RK K => ?_⟩
    · exact wc_X10_cancel_0 (re_m5 hr) (ce_taskAt hr (fun t ht e => absurd ((i32_tk h4).mpr ⟨t, ht, e⟩) c) (fun _ => ⟨fun q => absurd rfl q, fun _ => cr_x hr (by decide) K⟩))
    · exact wq_X11_cancel_0 RK ⟨fun q => absurd (by rw [nJ hS] at q; exact q) c, fun _ => rr_x hS (ix_8 h) K⟩
end Pub9
