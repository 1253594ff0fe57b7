/-! one step, side by side -/
section One
variable {B M M' : mm_T} {I J E : Nat → Nat → Int32} {m n k T W P L V : Nat} {ta tm : Nat → Nat} {S : Nat → Nat → Bool}
def so_ (I : fI) (m n k T W P L V : Nat) (r : Int32 × Nat × fI) : Prop :=
  r.2.1 < 2147483648 ∧ (∃ n', ix_ r.2.2 m n' (T + 1) (W + 1) (P + 50400) (L + 20000) ∧ xi_ r.2.2 m n' (V + 1)) ∧
  (∀ M ta tm Q, re_ M I m n ta tm → mm_l M 98 0 = lN k → (∀ M' n' ta' tn, re_ M' r.2.2 m n' ta' tn → mm_l M' 98 0 = lN r.2.1 → Q r.1 M') → ds_i mt_X10_oneStep [pv_r 5] M Q) ∧
  ∀ S E B Q, uf_ S m → rf_ok B m → Q r.1 (lN r.2.1) (pt_ S E r.2.2) → zs_i mt_X11_stepsOne [pv_r m] B m (lN k) (pt_ S E I) Q
/-- the worker's task, or none -/
theorem wk_t (h : ix_ I m n T W P L) {w : Nat} (hw : w < 6) : ra_W I m w 0 = -1 ∨ ∃ t, t < n ∧ ra_W I m w 0 = nI t ∧ ra_T I m t 6 = 3 ∧ ra_T I m t 9 = nI w := h.1.2.2.1.2.2 w hw
theorem re_wt (h : re_ M I m n ta tm) {w : Nat} (hw : w < 6) : mm_k M (86 + w) = (9, 5) ∧ mm_r M (86 + w) 1 = rft ta (ra_W I m w 0) := ⟨(h.1.1.2.2.1.2.1 w hw).2.1, (h.2.1.2.2.1 w hw).1⟩
theorem done_0 {pb : Int32} (hb : rb_ I m n pb) {t w : Nat} (ht : t < n) (hw : w < 6) : sp_done I m n t w (m + 1) 0 = I (m + 1) 0 := by
  have hn := hb.2.1
  obtain ⟨A, hA⟩ : ∃ A, A = i2_u (sp_lw (i2_u (sp_log I m 2 t (nI w) 0) (m + 1) (60 + 4 * w + 2) (I (m + 1) (60 + 4 * w + 2) + 1)) m t w) (m + 1) (200 + 14 * t + 12) (I (m + 1) 0) := ⟨_, rfl⟩
  have Ao : ∀ j, j ≠ 60 + 4 * w + 2 → j ≠ 60 + 4 * w → j ≠ 200 + 14 * t + 9 → j ≠ 200 + 14 * t + 10 → j ≠ 200 + 14 * t + 11 → j ≠ 200 + 14 * t + 12 → A (m + 1) j = I (m + 1) j := fun j q1 q2 q3 q4 q5 q6 => by
    rw [hA, i2_uj q6, sp_lw_o (by omega), i2_uj q1, sp_log_r]
  have hbA : rb_ (i2_u A (m + 1) (200 + 14 * t + 6) 4) m n pb := rb_T6 (rb_o hb (Ao _ (by omega) (by omega) (by omega) (by omega) (by omega) (by omega)) (fun x q => Ao _ (by omega) (by omega) (by omega) (by omega) (by omega) (by omega)) (fun l q => Ao _ (by omega) (by omega) (by omega) (by omega) (by omega) (by omega)))
  have e : sp_done I m n t w = ra_cls (sp_frs (i2_u A (m + 1) (200 + 14 * t + 6) 4) m n (sp_hs (i2_u A (m + 1) (200 + 14 * t + 6) 4) m n (nI t))) m n 5 := by rw [hA]; rfl
  rw [e, cl_o (by omega), frs_o (fun x q => (hs_lt q).1) hbA (Or.inr ⟨fun x _ => by omega, by omega⟩) (by omega) (by omega), i2_uj (by omega)]
  exact Ao 0 (by omega) (by omega) (by omega) (by omega) (by omega) (by omega)
theorem so_s1 (h : ix_ I m n T W P L) (hx : xi_ I m n V) (hk : k < 2147483648) (hT : T < 100000) (hW : W < 100000000) (hP : P + 50400 < 2147483648) (hL0 : L + 20000 < 1997900000) : so_ I m n k T W P L V (s1_ I m n k) := by
  have hL : L + 20000 < 1998900000 := Nat.lt_of_lt_of_le hL0 (by decide)
  have h4 := ix_4 h
  obtain ⟨y, y1, y2⟩ := ix_log h
  obtain ⟨k1, e1⟩ : ∃ k1, k1 = dr_n k := ⟨_, rfl⟩
  obtain ⟨k2, e2⟩ : ∃ k2, k2 = dr_n k1 := ⟨_, rfl⟩
  obtain ⟨k3, e3⟩ : ∃ k3, k3 = dr_n k2 := ⟨_, rfl⟩
  obtain ⟨k4, e4⟩ : ∃ k4, k4 = dr_n k3 := ⟨_, rfl⟩
  obtain ⟨k5, e5⟩ : ∃ k5, k5 = dr_n k4 := ⟨_, rfl⟩
  have b1 : k1 < 2147483648 := by rw [e1]; exact dr_lt
  have b2 : k2 < 2147483648 := by rw [e2]; exact dr_lt
  have b3 : k3 < 2147483648 := by rw [e3]; exact dr_lt
  have b4 : k4 < 2147483648 := by rw [e4]; exact dr_lt
  have b5 : k5 < 2147483648 := by rw [e5]; exact dr_lt
  obtain ⟨a, ea⟩ : ∃ a, a = k1 / 64 % 10 := ⟨_, rfl⟩
  have ha : a < 10 := by rw [ea]; exact Nat.mod_lt _ (by decide)
  obtain ⟨w, ew⟩ : ∃ w, w = k2 / 64 % 6 := ⟨_, rfl⟩
  have hw : w < 6 := by rw [ew]; exact Nat.mod_lt _ (by decide)
  have L3 : (3 : Int32) ≤ nI a ↔ 3 ≤ a := nI_leI (a := 3) (by decide) (by omega)
  have L5 : (5 : Int32) ≤ nI a ↔ 5 ≤ a := nI_leI (a := 5) (by decide) (by omega)
  have L7 : (7 : Int32) ≤ nI a ↔ 7 ≤ a := nI_leI (a := 7) (by decide) (by omega)
  have L8 : (8 : Int32) ≤ nI a ↔ 8 ≤ a := nI_leI (a := 8) (by decide) (by omega)
  have E7 : nI a = (7 : Int32) ↔ a = 7 := nI_eq (b := 7) (by omega) (by decide)
  have E8 : nI a = (8 : Int32) ↔ a = 8 := nI_eq (b := 8) (by omega) (by decide)
  have E9 : nI a = (9 : Int32) ↔ a = 9 := nI_eq (b := 9) (by omega) (by decide)
  have J1 : ∀ {S E}, uf_ S m → ix_ (pt_ S E I) m n T W P L := fun hS => ix_pt h hS
  have pW : ∀ {S E}, uf_ S m → pt_ S E I (m + 1) (60 + 4 * w) = ra_W I m w 0 := fun hS => uf_at hS (by omega) (by omega)
  unfold s1_
  rw [← e1, ← e2, ← e3, ← e4, ← e5, ← ea, ← ew]
  by_cases c3 : a < 3
  · rw [if_pos c3]
    obtain ⟨x1, f1⟩ : ∃ x1, x1 = nI (k2 / 64 % 5) := ⟨_, rfl⟩
    obtain ⟨x2, f2⟩ : ∃ x2, x2 = nI (k3 / 64 % 10) := ⟨_, rfl⟩
    obtain ⟨x3, f3⟩ : ∃ x3, x3 = nI (k4 / 64 % 20 + 1) := ⟨_, rfl⟩
    obtain ⟨x4, f4⟩ : ∃ x4, x4 = nI (k5 / 64 % 10000) := ⟨_, rfl⟩
    rw [← f1, ← f2, ← f3, ← f4]
    obtain ⟨n', q1, q2, q3⟩ := xi_comes h hx (by omega) (by omega) (by omega) (x1 := x1) (x2 := x2) (x3 := x3) (x4 := x4) (x5 := -1)
    refine ⟨b5, ⟨n', ix_up q2 (by omega) (by omega) (by omega) (by omega), xi_up q3 (by omega)⟩, fun M ta tm Q hr hz K => ?_, fun S E B Q hS RK K => ?_⟩
    · refine wd_X10_oneStep_0 (re_m5 hr) ?_
      rw [(re_98 hr).1]
      refine ⟨(re_98 hr).2, cd_next (y := 10) (re_98 hr).2 hz hk (by decide) (by decide) ?_⟩
      rw [← e1, ← ea]
      refine ⟨fun q => absurd (L3.mp q) (by omega), fun _ => ?_⟩
      have h2 : re_ (mm_pl M 98 0 (lN k1)) I m n ta tm := re_pl hr
      have z2 : mm_l (mm_pl M 98 0 (lN k1)) 98 0 = lN k1 := ml_pl
      obtain ⟨M2, m2⟩ : ∃ M2, M2 = mm_pl M 98 0 (lN k1) := ⟨_, rfl⟩
      rw [← m2] at h2 z2 ⊢
      rw [(re_98 h2).1]
      refine ⟨(re_98 h2).2, cd_next (y := 5) (re_98 h2).2 z2 b1 (by decide) (by decide) ?_⟩
      rw [← e2, ← f1]
      have h3 : re_ (mm_pl M2 98 0 (lN k2)) I m n ta tm := re_pl h2
      have z3 : mm_l (mm_pl M2 98 0 (lN k2)) 98 0 = lN k2 := ml_pl
      obtain ⟨M3, m3⟩ : ∃ M3, M3 = mm_pl M2 98 0 (lN k2) := ⟨_, rfl⟩
      rw [← m3] at h3 z3 ⊢
      rw [(re_98 h3).1]
      refine ⟨(re_98 h3).2, cd_next (y := 10) (re_98 h3).2 z3 b2 (by decide) (by decide) ?_⟩
      rw [← e3, ← f2]
      have h5 : re_ (mm_pl M3 98 0 (lN k3)) I m n ta tm := re_pl h3
      have z5 : mm_l (mm_pl M3 98 0 (lN k3)) 98 0 = lN k3 := ml_pl
      obtain ⟨M5, m5⟩ : ∃ M5, M5 = mm_pl M3 98 0 (lN k3) := ⟨_, rfl⟩
      rw [← m5] at h5 z5 ⊢
      rw [(re_98 h5).1]
      refine ⟨(re_98 h5).2, cd_next (y := 20) (re_98 h5).2 z5 b3 (by decide) (by decide) ?_⟩
      rw [← e4]
      have h6 : re_ (mm_pl M5 98 0 (lN k4)) I m n ta tm := re_pl h5
      have z6 : mm_l (mm_pl M5 98 0 (lN k4)) 98 0 = lN k4 := ml_pl
      obtain ⟨M6, m6⟩ : ∃ M6, M6 = mm_pl M5 98 0 (lN k4) := ⟨_, rfl⟩
      rw [← m6] at h6 z6 ⊢
      rw [(re_98 h6).1]
      refine ⟨(re_98 h6).2, cd_next (y := 10000) (re_98 h6).2 z6 b4 (by decide) (by decide) ?_⟩
      rw [← e5, ← f4, nI_1, ← f3]
      have h7 : re_ (mm_pl M6 98 0 (lN k5)) I m n ta tm := re_pl h6
      have z7 : mm_l (mm_pl M6 98 0 (lN k5)) 98 0 = lN k5 := ml_pl
      obtain ⟨M7, m7⟩ : ∃ M7, M7 = mm_pl M6 98 0 (lN k5) := ⟨_, rfl⟩
      rw [← m7] at h7 z7 ⊢
      obtain ⟨rm, hrm, -, erm⟩ := h.1.2.1.2.2.2.2.2.1
      refine ce_come h7 (ix_8 h) y2 (by omega) (ix_bl h) (ix_hW h) h.2.1.1 (fun q => h.2.1.2.2.2 n (Nat.le_refl _) q) erm (by omega) (fun z hSS => ?_) (fun z M' ta' h' hSS => ?_)
      · have e : sp_comes I m n x1 x2 x3 x4 (-1) = (sp_why I m n x1 x2 x3 x4 (-1), I) := if_neg z
        rw [e] at K
        have K : ∀ M' n' ta' tn, re_ M' I m n' ta' tn → mm_l M' 98 0 = lN k5 → Q (if sp_why I m n x1 x2 x3 x4 (-1) < 0 then 0 else 1) M' := K
        have lt := why_lt h4 z
        rw [if_pos lt] at K
        exact ⟨fun _ => K M7 n ta tm h7 z7, fun q => absurd lt q⟩
      · have e : sp_comes I m n x1 x2 x3 x4 (-1) = (nI n, sp_com I m n x1 x2 x3 x4 (-1)) := if_pos z
        rw [e] at K
        have K : ∀ M' n' ta' tn, re_ M' (sp_com I m n x1 x2 x3 x4 (-1)) m n' ta' tn → mm_l M' 98 0 = lN k5 → Q (if nI n < 0 then 0 else 1) M' := K
        have ge : ¬ nI n < 0 := nI_pos (by omega)
        rw [if_neg ge] at K
        exact ⟨fun q => absurd q ge, fun _ => K M' (n + 1) ta' tm h' ((ms_98 h7 hSS).trans z7)⟩
    · refine wz_X11_stepsOne_0 RK (rc_draw (y := 10) RK hk (by decide) (by decide) ?_)
      rw [← e1, ← ea]
      refine ⟨fun q => absurd (L3.mp q) (by omega), fun _ => rc_draw (y := 5) RK b1 (by decide) (by decide) ?_⟩
      rw [← e2, ← f1]
      refine rc_draw (y := 10) RK b2 (by decide) (by decide) ?_
      rw [← e3, ← f2]
      refine rc_draw (y := 20) RK b3 (by decide) (by decide) ?_
      rw [← e4]
      refine rc_draw (y := 10000) RK b4 (by decide) (by decide) ?_
      rw [← e5, ← f4, nI_1, ← f3]
      have RZ : rf_ok (mm_pl B m 14 (lN k5)) m := RK
      refine rc_comes RZ (ix_rb (J1 hS) (by omega)) (ix_lb (J1 hS)) (by omega) ?_
      rw [nt_comes (uf_us hS) h4]
      have K : Q (if (sp_comes I m n x1 x2 x3 x4 (-1)).1 < 0 then 0 else 1) (lN k5) (pt_ S E (sp_comes I m n x1 x2 x3 x4 (-1)).2) := K
      refine ⟨fun q => ?_, fun q => ?_⟩
      · have q : (sp_comes I m n x1 x2 x3 x4 (-1)).1 < 0 := q
        rw [if_pos q] at K
        exact K
      · have q : ¬ (sp_comes I m n x1 x2 x3 x4 (-1)).1 < 0 := q
        rw [if_neg q] at K
        exact K
  · rw [if_neg c3]
    by_cases c5 : a < 5
    · rw [if_pos c5]
      -- the class up to taking
      have cls : ∀ {M ta tm} {Q : Int32 → mm_T → Prop}, re_ M I m n ta tm → mm_l M 98 0 = lN k → (∀ M3, re_ M3 I m n ta tm → mm_l M3 98 0 = lN k2 → cs_i mt_X10_takeIfCan [pv_r 5, pv_i (nI w)] M3 (fun v88 M87 => mm_S fr_C M3 M87 → ((((v88 < 0) → Q 0 M87) ∧ ((¬ v88 < 0) → Q 1 M87))))) → ds_i mt_X10_oneStep [pv_r 5] M Q := fun {M ta tm Q} hr hz KK => by
        refine wd_X10_oneStep_0 (re_m5 hr) ?_
        rw [(re_98 hr).1]
        refine ⟨(re_98 hr).2, cd_next (y := 10) (re_98 hr).2 hz hk (by decide) (by decide) ?_⟩
        rw [← e1, ← ea]
        refine ⟨fun _ => ⟨fun q => absurd (L5.mp q) (by omega), fun _ => ?_⟩, fun q => absurd (L3.mpr (by omega)) q⟩
        have h2 : re_ (mm_pl M 98 0 (lN k1)) I m n ta tm := re_pl hr
        have z2 : mm_l (mm_pl M 98 0 (lN k1)) 98 0 = lN k1 := ml_pl
        obtain ⟨M2, m2⟩ : ∃ M2, M2 = mm_pl M 98 0 (lN k1) := ⟨_, rfl⟩
        rw [← m2] at h2 z2 ⊢
        rw [(re_98 h2).1]
        refine ⟨(re_98 h2).2, cd_next (y := 6) (re_98 h2).2 z2 b1 (by decide) (by decide) ?_⟩
        rw [← e2, ← ew]
        exact KK _ (re_pl h2) ml_pl
      have ref : ∀ {S E B} {Q : Int32 → Int64 → fI → Prop}, uf_ S m → rf_ok B m → (¬ ra_W I m w 0 = -1 → Q 0 (lN k2) (pt_ S E I)) → (ra_W I m w 0 = -1 → rs_i mt_X11_takesBy [pv_r m, pv_i (nI w)] (mm_pl B m 14 (lN k2)) (pt_ S E I) (fun v12 I11 => (((v12 = (-1 : Int32)) → Q 0 (lN k2) I11) ∧ ((¬ v12 = (-1 : Int32)) → Q 1 (lN k2) I11)))) → zs_i mt_X11_stepsOne [pv_r m] B m (lN k) (pt_ S E I) Q := fun {S E B Q} hS RK K1 K2 => by
        refine wz_X11_stepsOne_0 RK (rc_draw (y := 10) RK hk (by decide) (by decide) ?_)
        rw [← e1, ← ea]
        refine ⟨fun _ => ⟨fun _ => ⟨fun _ => rc_draw (y := 6) RK b1 (by decide) (by decide) ?_, fun q => absurd (E9.mp q) (by omega)⟩, fun q => absurd (E8.mp q) (by omega)⟩, fun q => absurd (L3.mpr (by omega)) q⟩
        rw [← e2, ← ew]
        refine ⟨fun _ => ⟨w, ⟨rfl, hw⟩, fun q => absurd (L5.mp q) (by omega), fun _ => ?_⟩, fun q => absurd (E7.mp q) (by omega)⟩
        rw [pW hS]
        exact ⟨K1, K2⟩
      by_cases d : ra_W I m w 0 = -1
      · rw [if_pos d]
        refine ⟨b2, ⟨n, ?_, xi_tkby h hx (by omega) hw⟩, fun M ta tm Q hr hz K => cls hr hz (fun M3 h3 z3 => ?_), fun S E B Q hS RK K => ref hS RK (fun q => absurd d q) (fun _ => ?_)⟩
        · rcases tkby_3 h (w := w) with e | ⟨t, l, t1, t2, t3, t4, e⟩
          · rw [e]; exact ix_up h (by omega) (by omega) (by omega) (by omega)
          · rw [e]; exact ix_up (ix_tk h (by omega) (by omega) (by omega) (by omega) t1 t2 (by omega) t3 t4 d) (by omega) (by omega) (by omega) (by omega)
        · refine ce_take h3 (ix_8 h) y2 (by omega) (ix_rk h) (ix_wz h) (ix_hW h) (fun q => absurd (in_5 hw) q) (fun w' hw' e q => ?_) (fun w' hw' e q M1 h1 hSS => ?_)
          · rw [← (nI_eq (by omega) (by omega)).mp e] at q
            exact absurd d q
          · rw [← (nI_eq (by omega) (by omega)).mp e] at h1 ⊢
            have zz := (ms_98 h3 hSS).trans z3
            have K : ∀ M' n' ta' tn, re_ M' (sp_tkby I m n w).2 m n' ta' tn → mm_l M' 98 0 = lN k2 → Q (if (sp_tkby I m n w).1 = -1 then 0 else 1) M' := K
            have K := K M1 n ta tm h1 zz
            rcases tkby_3 h (w := w) with e | ⟨t, l, t1, t2, t3, t4, e⟩
            · rw [e] at K ⊢
              exact ⟨fun _ => K, fun q => absurd (show (-1 : Int32) < 0 by decide) q⟩
            · rw [e] at K ⊢
              have K : Q (if nI t = -1 then 0 else 1) M1 := K
              rw [if_neg (nI_nm (by omega))] at K
              exact ⟨fun q => absurd q (show ¬ nI t < 0 from nI_pos (by omega)), fun _ => K⟩
        · have RZ : rf_ok (mm_pl B m 14 (lN k2)) m := RK
          have hJ := J1 (E := E) hS
          refine rc_tkby RZ (ix_1 hJ) h4 (ix_lb hJ) (by omega) (fun l hl => ?_) hw rfl ?_
          · obtain ⟨⟨a, a1, a2, a3⟩, -⟩ := hJ.1.2.1.1 l hl
            rw [a3]
            exact nI_ne0 (by omega) (by omega)
          · rw [nt_tkby (uf_us hS) hw]
            have K : Q (if (sp_tkby I m n w).1 = -1 then 0 else 1) (lN k2) (pt_ S E (sp_tkby I m n w).2) := K
            refine ⟨fun q => ?_, fun q => ?_⟩
            · rw [if_pos q] at K; exact K
            · rw [if_neg q] at K; exact K
      · rw [if_neg d]
        refine ⟨b2, ⟨n, ix_up h (by omega) (by omega) (by omega) (by omega), xi_up hx (by omega)⟩, fun M ta tm Q hr hz K => cls hr hz (fun M3 h3 z3 => ?_), fun S E B Q hS RK K => ref hS RK (fun _ => K) (fun q => absurd q d)⟩
        refine ce_take h3 (ix_8 h) y2 (by omega) (ix_rk h) (ix_wz h) (ix_hW h) (fun q => absurd (in_5 hw) q) (fun w' hw' e q hSS => ⟨fun _ => K _ _ _ _ h3 z3, fun y => absurd (by decide) y⟩) (fun w' hw' e q M1 h1 => ?_)
        rw [← (nI_eq (by omega) (by omega)).mp e] at q
        exact absurd q d
    · rw [if_neg c5]
      by_cases c7 : a < 7
      · rw [if_pos c7]
        -- done
        have cls : ∀ {M ta tm} {Q : Int32 → mm_T → Prop}, re_ M I m n ta tm → mm_l M 98 0 = lN k → (∀ M3, re_ M3 I m n ta tm → mm_l M3 98 0 = lN k2 → (((mm_r M3 (86 + w) 1 = 0) → (((mm_r M3 (86 + w) 1 = 0) → (((mm_r M3 (86 + w) 1 = 0) → Q 0 M3) ∧ ((¬ mm_r M3 (86 + w) 1 = 0) → Q 1 M3))) ∧ ((¬ mm_r M3 (86 + w) 1 = 0) → cs_v mt_X10_failTask [pv_r 5, pv_r (mm_r M3 (86 + w) 1), pv_i (0 : Int32)] M3 (fun M66 => mm_S fr_C M3 M66 → ((((mm_r M3 (86 + w) 1 = 0) → Q 0 M66) ∧ ((¬ mm_r M3 (86 + w) 1 = 0) → Q 1 M66))))))) ∧ ((¬ mm_r M3 (86 + w) 1 = 0) → cs_v mt_X10_completeTask [pv_r 5, pv_r (mm_r M3 (86 + w) 1)] M3 (fun M76 => mm_S fr_C M3 M76 → ((((mm_r M3 (86 + w) 1 = 0) → Q 0 M76) ∧ ((¬ mm_r M3 (86 + w) 1 = 0) → Q 1 M76))))))) → ds_i mt_X10_oneStep [pv_r 5] M Q := fun {M ta tm Q} hr hz KK => by
          refine wd_X10_oneStep_0 (re_m5 hr) ?_
          rw [(re_98 hr).1]
          refine ⟨(re_98 hr).2, cd_next (y := 10) (re_98 hr).2 hz hk (by decide) (by decide) ?_⟩
          rw [← e1, ← ea]
          have h2 : re_ (mm_pl M 98 0 (lN k1)) I m n ta tm := re_pl hr
          have z2 : mm_l (mm_pl M 98 0 (lN k1)) 98 0 = lN k1 := ml_pl
          obtain ⟨M2, m2⟩ : ∃ M2, M2 = mm_pl M 98 0 (lN k1) := ⟨_, rfl⟩
          rw [← m2] at h2 z2 ⊢
          refine ⟨fun _ => ⟨fun _ => ⟨fun q => absurd (L8.mp q) (by omega), fun _ => ?_⟩, fun q => absurd (L5.mpr (by omega)) q⟩, fun q => absurd (L3.mpr (by omega)) q⟩
          rw [(re_98 h2).1]
          refine ⟨(re_98 h2).2, cd_next (y := 6) (re_98 h2).2 z2 b1 (by decide) (by decide) ?_⟩
          rw [← e2, ← ew]
          have h3 : re_ (mm_pl M2 98 0 (lN k2)) I m n ta tm := re_pl h2
          have z3 : mm_l (mm_pl M2 98 0 (lN k2)) 98 0 = lN k2 := ml_pl
          obtain ⟨M3, m3⟩ : ∃ M3, M3 = mm_pl M2 98 0 (lN k2) := ⟨_, rfl⟩
          rw [← m3] at h3 z3 ⊢
          refine ce_workerAt h3 (fun w' hw' e => ?_) (fun q => absurd (in_5 hw) q)
          have : w = w' := (nI_eq (by omega) (by omega)).mp e
          subst this
          intro _
          obtain ⟨K1, K2⟩ := KK M3 h3 z3
          exact ⟨fun q => absurd (L7.mp q) (by omega), fun _ => ⟨fun _ => ⟨(re_wt h3 hw).1, K1, fun y => ⟨fun q => absurd (L7.mp q) (by omega), fun _ => K2 y⟩⟩, fun q => absurd q (by omega)⟩⟩
        have ref : ∀ {S E B} {Q : Int32 → Int64 → fI → Prop}, uf_ S m → rf_ok B m → (ra_W I m w 0 = -1 → Q 0 (lN k2) (pt_ S E I)) → (¬ ra_W I m w 0 = -1 → rs_v mt_X11_isDoneNow [pv_r m, pv_i (ra_W I m w 0)] (mm_pl B m 14 (lN k2)) (pt_ S E I) (fun I8 => Q 1 (lN k2) I8)) → zs_i mt_X11_stepsOne [pv_r m] B m (lN k) (pt_ S E I) Q := fun {S E B Q} hS RK K1 K2 => by
          refine wz_X11_stepsOne_0 RK (rc_draw (y := 10) RK hk (by decide) (by decide) ?_)
          rw [← e1, ← ea]
          refine ⟨fun _ => ⟨fun _ => ⟨fun _ => rc_draw (y := 6) RK b1 (by decide) (by decide) ?_, fun q => absurd (E9.mp q) (by omega)⟩, fun q => absurd (E8.mp q) (by omega)⟩, fun q => absurd (L3.mpr (by omega)) q⟩
          rw [← e2, ← ew]
          refine ⟨fun _ => ⟨w, ⟨rfl, hw⟩, fun _ => ?_, fun q => absurd (L5.mpr (by omega)) q⟩, fun q => absurd (E7.mp q) (by omega)⟩
          rw [pW hS]
          exact ⟨fun q => ⟨fun _ => K2 q, fun q => absurd (E7.mp q) (by omega)⟩, K1⟩
        rcases wk_t h hw with d | ⟨t, t1, t2, t3, t4⟩
        · rw [if_pos d]
          refine ⟨b2, ⟨n, ix_up h (by omega) (by omega) (by omega) (by omega), xi_up hx (by omega)⟩, fun M ta tm Q hr hz K => cls hr hz (fun M3 h3 z3 => ?_), fun S E B Q hS RK K => ref hS RK (fun _ => K) (fun q => absurd d q)⟩
          rw [(re_wt h3 hw).2, d, rft_0]
          exact ⟨fun _ => ⟨fun _ => ⟨fun _ => K _ _ _ _ h3 z3, fun y => absurd rfl y⟩, fun y => absurd rfl y⟩, fun y => absurd rfl y⟩
        · rw [if_neg (show ¬ ra_W I m w 0 = -1 by rw [t2]; exact nI_nm (by omega)), t2, nI_clamp (by omega)]
          refine ⟨b2, ⟨n, ix_up (ix_done h (by omega) (by omega) t1 hw t3 t4) (by omega) (by omega) (by omega) (by omega), xi_up (xi_g hx (xg_done (ix_rb h (by omega)) t1 hw) ?_) (by omega)⟩, fun M ta tm Q hr hz K => cls hr hz (fun M3 h3 z3 => ?_), fun S E B Q hS RK K => ref hS RK (fun q => absurd q (by rw [t2]; exact nI_nm (by omega))) (fun _ => ?_)⟩
          · exact done_0 (ix_rb h (by omega)) t1 hw
          · have g := re_ge h3 t1
            rw [(re_wt h3 hw).2, t2, rft_n (by omega)]
            exact ⟨fun y => absurd y (by omega), fun _ => ce_complete h3 (ix_8 h) (ix_bl h) (ix_rb h (by omega)) (ix_lb h) (by omega) h.2.1.2.2.1 t1 hw t3 t4 (fun M' h' hSS => ⟨fun y => absurd y (by omega), fun _ => K _ _ _ _ h' ((ms_98 h3 hSS).trans z3)⟩)⟩
          · have RZ : rf_ok (mm_pl B m 14 (lN k2)) m := RK
            have hJ := J1 (E := E) hS
            rw [t2]
            refine rc_done RZ (ix_rb hJ (by omega)) (ix_lb hJ) (by omega) (w := w) ((nt_T (uf_us hS)).trans t4) hw rfl t1 ?_
            rw [nt_done (uf_us hS) (ix_rb h (by omega)) hw]
            exact K
      · rw [if_neg c7]
        by_cases d7 : a = 7
        · rw [if_pos d7]
          -- fail
          obtain ⟨c, ec⟩ : ∃ c, c = k3 / 64 % 99 + 1 := ⟨_, rfl⟩
          have hc : c < 100 := by
            have := Nat.mod_lt (k3 / 64) (show 99 > 0 by decide)
            omega
          rw [← ec]
          have cls : ∀ {M ta tm} {Q : Int32 → mm_T → Prop}, re_ M I m n ta tm → mm_l M 98 0 = lN k → (∀ M3, re_ M3 I m n ta tm → mm_l M3 98 0 = lN k3 → (((mm_r M3 (86 + w) 1 = 0) → Q 0 M3) ∧ ((¬ mm_r M3 (86 + w) 1 = 0) → cs_v mt_X10_failTask [pv_r 5, pv_r (mm_r M3 (86 + w) 1), pv_i (nI c)] M3 (fun M53 => mm_S fr_C M3 M53 → ((((mm_r M3 (86 + w) 1 = 0) → Q 0 M53) ∧ ((¬ mm_r M3 (86 + w) 1 = 0) → Q 1 M53))))))) → ds_i mt_X10_oneStep [pv_r 5] M Q := fun {M ta tm Q} hr hz KK => by
            refine wd_X10_oneStep_0 (re_m5 hr) ?_
            rw [(re_98 hr).1]
            refine ⟨(re_98 hr).2, cd_next (y := 10) (re_98 hr).2 hz hk (by decide) (by decide) ?_⟩
            rw [← e1, ← ea]
            have h2 : re_ (mm_pl M 98 0 (lN k1)) I m n ta tm := re_pl hr
            have z2 : mm_l (mm_pl M 98 0 (lN k1)) 98 0 = lN k1 := ml_pl
            obtain ⟨M2, m2⟩ : ∃ M2, M2 = mm_pl M 98 0 (lN k1) := ⟨_, rfl⟩
            rw [← m2] at h2 z2 ⊢
            refine ⟨fun _ => ⟨fun _ => ⟨fun q => absurd (L8.mp q) (by omega), fun _ => ?_⟩, fun q => absurd (L5.mpr (by omega)) q⟩, fun q => absurd (L3.mpr (by omega)) q⟩
            rw [(re_98 h2).1]
            refine ⟨(re_98 h2).2, cd_next (y := 6) (re_98 h2).2 z2 b1 (by decide) (by decide) ?_⟩
            rw [← e2, ← ew]
            have h3 : re_ (mm_pl M2 98 0 (lN k2)) I m n ta tm := re_pl h2
            have z3 : mm_l (mm_pl M2 98 0 (lN k2)) 98 0 = lN k2 := ml_pl
            obtain ⟨M3, m3⟩ : ∃ M3, M3 = mm_pl M2 98 0 (lN k2) := ⟨_, rfl⟩
            rw [← m3] at h3 z3 ⊢
            refine ce_workerAt h3 (fun w' hw' e => ?_) (fun q => absurd (in_5 hw) q)
            have : w = w' := (nI_eq (by omega) (by omega)).mp e
            subst this
            intro _
            refine ⟨fun _ => ?_, fun q => absurd (L7.mpr (by omega)) q⟩
            rw [(re_98 h3).1]
            refine ⟨(re_98 h3).2, cd_next (y := 99) (re_98 h3).2 z3 b2 (by decide) (by decide) ?_⟩
            rw [← e3, nI_1, ← ec]
            have h5 : re_ (mm_pl M3 98 0 (lN k3)) I m n ta tm := re_pl h3
            have z5 : mm_l (mm_pl M3 98 0 (lN k3)) 98 0 = lN k3 := ml_pl
            obtain ⟨M5, m5⟩ : ∃ M5, M5 = mm_pl M3 98 0 (lN k3) := ⟨_, rfl⟩
            rw [← m5] at h5 z5 ⊢
            obtain ⟨K1, K2⟩ := KK M5 h5 z5
            exact ⟨fun _ => ⟨(re_wt h5 hw).1, fun y => ⟨fun _ => ⟨fun _ => K1 y, fun y' => absurd y y'⟩, fun y' => absurd y y'⟩, fun y => ⟨fun _ => ⟨fun y' => absurd y' y, fun _ => K2 y⟩, fun q => absurd (L7.mpr (by omega)) q⟩⟩, fun q => absurd q (by omega)⟩
          have ref : ∀ {S E B} {Q : Int32 → Int64 → fI → Prop}, uf_ S m → rf_ok B m → (ra_W I m w 0 = -1 → Q 0 (lN k3) (pt_ S E I)) → (¬ ra_W I m w 0 = -1 → rs_i mt_X11_failsNow [pv_r m, pv_i (ra_W I m w 0), pv_i (nI c)] (mm_pl B m 14 (lN k3)) (pt_ S E I) (fun _ I8 => Q 1 (lN k3) I8)) → zs_i mt_X11_stepsOne [pv_r m] B m (lN k) (pt_ S E I) Q := fun {S E B Q} hS RK K1 K2 => by
            refine wz_X11_stepsOne_0 RK (rc_draw (y := 10) RK hk (by decide) (by decide) ?_)
            rw [← e1, ← ea]
            refine ⟨fun _ => ⟨fun _ => ⟨fun _ => rc_draw (y := 6) RK b1 (by decide) (by decide) ?_, fun q => absurd (E9.mp q) (by omega)⟩, fun q => absurd (E8.mp q) (by omega)⟩, fun q => absurd (L3.mpr (by omega)) q⟩
            rw [← e2, ← ew]
            refine ⟨fun q => absurd (E7.mpr d7) q, fun _ => rc_draw (y := 99) RK b2 (by decide) (by decide) ?_⟩
            rw [← e3, nI_1, ← ec]
            refine ⟨w, ⟨rfl, hw⟩, fun _ => ?_, fun q => absurd (L5.mpr (by omega)) q⟩
            rw [pW hS]
            exact ⟨fun q => ⟨fun y => absurd (E7.mpr d7) y, fun _ => K2 q⟩, K1⟩
          rcases wk_t h hw with d | ⟨t, t1, t2, t3, t4⟩
          · rw [if_pos d]
            refine ⟨b3, ⟨n, ix_up h (by omega) (by omega) (by omega) (by omega), xi_up hx (by omega)⟩, fun M ta tm Q hr hz K => cls hr hz (fun M3 h3 z3 => ?_), fun S E B Q hS RK K => ref hS RK (fun _ => K) (fun q => absurd d q)⟩
            rw [(re_wt h3 hw).2, d, rft_0]
            exact ⟨fun _ => K _ _ _ _ h3 z3, fun y => absurd rfl y⟩
          · rw [if_neg (show ¬ ra_W I m w 0 = -1 by rw [t2]; exact nI_nm (by omega)), t2, nI_clamp (by omega)]
            refine ⟨b3, ⟨n, ix_up (ix_fl h (by omega) (by omega) t1 t3) (by omega) (by omega) (by omega) (by omega), xi_up (xi_g hx (xg_fl h t1 t3 (by omega)) ((fl_o h t1 t3).2.1 0 (by decide) (by decide) (by decide))) (by omega)⟩, fun M ta tm Q hr hz K => cls hr hz (fun M3 h3 z3 => ?_), fun S E B Q hS RK K => ref hS RK (fun q => absurd q (by rw [t2]; exact nI_nm (by omega))) (fun _ => ?_)⟩
            · have g := re_ge h3 t1
              rw [(re_wt h3 hw).2, t2, rft_n (by omega)]
              exact ⟨fun y => absurd y (by omega), fun _ => ce_fl h3 h (by omega) t1 t3 (show nI c < nI 100 from nI_lt hc (by decide)) (fun M' tn h' hSS => ⟨fun y => absurd y (by omega), fun _ => K _ _ _ _ h' ((ms_98 h3 hSS).trans z3)⟩)⟩
            · have RZ : rf_ok (mm_pl B m 14 (lN k3)) m := RK
              have hJ := J1 (E := E) hS
              rw [t2]
              obtain ⟨w0, kk, hw0, e0, hkk, h3, ew0, ek, -⟩ := ix_out h t1 t3
              have hcc := Nat.le_trans (hc_le (ix_tv hJ)) hJ.2.1.2.2.1
              have ww : w0 = w := (nI_eq (by omega) (by omega)).mp (e0.symm.trans t4)
              refine rc_fail RZ (ix_dv hJ) (ix_z hJ) (by omega) (w := w) (k := kk) ((nt_T (uf_us hS)).trans t4) hw ((nt_T (uf_us hS)).trans h3) hkk ((nt_T (uf_us hS)).trans t3) rfl t1 ?_
              rw [nt_fail (uf_us hS) hw]
              have e : sp_fl I m n t (nI c) = (sp_fail I m n t w kk (nI c)).2 := by
                unfold sp_fl
                rw [ew0, ek, ww]
              rw [← e]
              exact K
        · rw [if_neg d7]
          by_cases d8 : a = 8
          · rw [if_pos d8]
            obtain ⟨n', q1, q2, q3⟩ := xi_tick h hx (by omega) (by omega) hL
            obtain ⟨kk, kk1, kk2⟩ := hx.2.2.2
            refine ⟨b1, ⟨n', ix_up q2 (by omega) (by omega) (by omega) (by omega), xi_up q3 (by omega)⟩, fun M ta tm Q hr hz K => ?_, fun S E B Q hS RK K => ?_⟩
            · refine wd_X10_oneStep_0 (re_m5 hr) ?_
              rw [(re_98 hr).1]
              refine ⟨(re_98 hr).2, cd_next (y := 10) (re_98 hr).2 hz hk (by decide) (by decide) ?_⟩
              rw [← e1, ← ea]
              have h2 : re_ (mm_pl M 98 0 (lN k1)) I m n ta tm := re_pl hr
              have z2 : mm_l (mm_pl M 98 0 (lN k1)) 98 0 = lN k1 := ml_pl
              obtain ⟨M2, m2⟩ : ∃ M2, M2 = mm_pl M 98 0 (lN k1) := ⟨_, rfl⟩
              rw [← m2] at h2 z2 ⊢
              exact ⟨fun _ => ⟨fun _ => ⟨fun _ => ⟨fun y => absurd (E8.mpr d8) y, fun _ => ce_tick h2 h (by omega) (by omega) hL (fun M' n' ta' tn h' hSS => K _ _ _ _ h' ((ms_98 h2 hSS).trans z2))⟩, fun y => absurd (L8.mpr (by omega)) y⟩, fun q => absurd (L5.mpr (by omega)) q⟩, fun q => absurd (L3.mpr (by omega)) q⟩
            · have RZ : rf_ok (mm_pl B m 14 (lN k1)) m := RK
              have hJ := J1 (E := E) hS
              refine wz_X11_stepsOne_0 RK (rc_draw (y := 10) RK hk (by decide) (by decide) ?_)
              rw [← e1, ← ea]
              refine ⟨fun _ => ⟨fun q => absurd (E8.mpr d8) q, fun _ => rc_tick RZ hJ (by omega) (by omega) hL (k := kk) ((uf_at hS (by omega) (by omega)).trans kk2) kk1 ?_⟩, fun q => absurd (L3.mpr (by omega)) q⟩
              rw [nt_tick hS h (by omega) (by omega) hL ⟨kk1, kk2⟩]
              exact K
          · rw [if_neg d8]
            have d9 : a = 9 := by omega
            obtain ⟨t, et⟩ : ∃ t, t = k2 / 64 % 400 := ⟨_, rfl⟩
            have ht4 : t < 400 := by rw [et]; exact Nat.mod_lt _ (by decide)
            obtain ⟨p, ep⟩ : ∃ p, p = k3 / 64 % 10 := ⟨_, rfl⟩
            have hp : p < 10 := by rw [ep]; exact Nat.mod_lt _ (by decide)
            rw [← et, ← ep]
            have cls : ∀ {M ta tm} {Q : Int32 → mm_T → Prop}, re_ M I m n ta tm → mm_l M 98 0 = lN k → (∀ M3, re_ M3 I m n ta tm → mm_l M3 98 0 = lN k3 → cs_i mt_X10_raiseIfCan [pv_r 5, pv_i (nI t), pv_i (nI p)] M3 (fun v20 M19 => mm_S fr_C M3 M19 → ((((v20 < 0) → Q 0 M19) ∧ ((¬ v20 < 0) → Q 1 M19))))) → ds_i mt_X10_oneStep [pv_r 5] M Q := fun {M ta tm Q} hr hz KK => by
              refine wd_X10_oneStep_0 (re_m5 hr) ?_
              rw [(re_98 hr).1]
              refine ⟨(re_98 hr).2, cd_next (y := 10) (re_98 hr).2 hz hk (by decide) (by decide) ?_⟩
              rw [← e1, ← ea]
              have h2 : re_ (mm_pl M 98 0 (lN k1)) I m n ta tm := re_pl hr
              have z2 : mm_l (mm_pl M 98 0 (lN k1)) 98 0 = lN k1 := ml_pl
              obtain ⟨M2, m2⟩ : ∃ M2, M2 = mm_pl M 98 0 (lN k1) := ⟨_, rfl⟩
              rw [← m2] at h2 z2 ⊢
              refine ⟨fun _ => ⟨fun _ => ⟨fun _ => ⟨fun _ => ?_, fun q => absurd (E8.mp q) (by omega)⟩, fun y => absurd (L8.mpr (by omega)) y⟩, fun q => absurd (L5.mpr (by omega)) q⟩, fun q => absurd (L3.mpr (by omega)) q⟩
              rw [(re_98 h2).1]
              refine ⟨(re_98 h2).2, cd_next (y := 400) (re_98 h2).2 z2 b1 (by decide) (by decide) ?_⟩
              rw [← e2, ← et]
              have h3 : re_ (mm_pl M2 98 0 (lN k2)) I m n ta tm := re_pl h2
              have z3 : mm_l (mm_pl M2 98 0 (lN k2)) 98 0 = lN k2 := ml_pl
              obtain ⟨M3, m3⟩ : ∃ M3, M3 = mm_pl M2 98 0 (lN k2) := ⟨_, rfl⟩
              rw [← m3] at h3 z3 ⊢
              rw [(re_98 h3).1]
              refine ⟨(re_98 h3).2, cd_next (y := 10) (re_98 h3).2 z3 b2 (by decide) (by decide) ?_⟩
              rw [← e3, ← ep]
              exact KK _ (re_pl h3) ml_pl
            have ref : ∀ {S E B} {Q : Int32 → Int64 → fI → Prop}, uf_ S m → rf_ok B m → (t < n → ra_T I m t 6 ≤ 2 → ¬ ra_T I m t 1 = nI p → Q 1 (lN k3) (pt_ S E (i2_u I (m + 1) (200 + 14 * t + 1) (nI p)))) → (¬ (t < n ∧ ra_T I m t 6 ≤ 2 ∧ ¬ ra_T I m t 1 = nI p) → Q 0 (lN k3) (pt_ S E I)) → zs_i mt_X11_stepsOne [pv_r m] B m (lN k) (pt_ S E I) Q := fun {S E B Q} hS RK K1 K2 => by
              have pT : ∀ f, pt_ S E I (m + 1) (200 + 14 * t + f) = ra_T I m t f := fun f => uf_at hS (by omega) (by omega)
              refine wz_X11_stepsOne_0 RK (rc_draw (y := 10) RK hk (by decide) (by decide) ?_)
              rw [← e1, ← ea]
              refine ⟨fun _ => ⟨fun _ => ⟨fun q => absurd (E9.mpr d9) q, fun _ => rc_draw (y := 400) RK b1 (by decide) (by decide) ?_⟩, fun q => absurd (E8.mp q) (by omega)⟩, fun q => absurd (L3.mpr (by omega)) q⟩
              rw [← e2, ← et]
              refine rc_draw (y := 10) RK b2 (by decide) (by decide) ?_
              rw [← e3, ← ep, ix_1 (J1 (E := E) hS)]
              refine ⟨fun c => ?_, fun c => K2 (fun y => c ((i32_tk h4).mpr ⟨t, y.1, rfl⟩))⟩
              obtain ⟨t', ht', ett⟩ := (i32_tk h4).mp c
              have : t = t' := (nI_eq (by omega) (by omega)).mp ett
              subst this
              refine ⟨t, ⟨rfl, by omega⟩, ?_⟩
              rw [pT 6, pT 1]
              refine ⟨fun c6 => ⟨fun c1 I29 e29 => ?_, fun c1 => K2 (fun y => y.2.2 c1)⟩, fun c6 => K2 (fun y => c6 y.2.1)⟩
              rw [e29, uf_u hS (by omega) (by omega)]
              exact K1 ht' c6 c1
            by_cases d : t < n ∧ ra_T I m t 6 ≤ 2 ∧ ¬ ra_T I m t 1 = nI p
            · rw [if_pos d]
              refine ⟨b3, ⟨n, ix_up (ix_ri h d.1 hp) (by omega) (by omega) (by omega) (by omega), xi_up (xi_g hx (xg_eq h4 (fun j q => i2_uj (by unfold xj_ at q; omega))) (i2_uj (by omega))) (by omega)⟩, fun M ta tm Q hr hz K => cls hr hz (fun M3 h3 z3 => ?_), fun S E B Q hS RK K => ref hS RK (fun _ _ _ => K) (fun q => absurd d q)⟩
              refine wc_X10_raiseIfCan_0 (re_m5 h3) (ce_taskAt h3 (fun t' ht' e => ?_) (fun q => absurd ((i32_tk h4).mpr ⟨t, d.1, rfl⟩) q))
              have : t = t' := (nI_eq (by omega) (by omega)).mp e
              subst this
              have g := re_ge h3 ht'
              refine ⟨fun q => absurd q (by omega), fun _ => ⟨fun q => absurd q (nI_pos (by omega)), fun _ => ⟨fun _ => ⟨g.2, ce_loose h3 h ht' ?_⟩, fun q => absurd (show nI p ≤ nI 9 from nI_le (by omega) (by decide)) q⟩⟩⟩
              rw [if_pos d.2.1, (h3.1.2.2.1.1 t ht').2.1.1]
              refine ⟨fun q => absurd q (by decide), fun _ => ⟨fun _ M9 e9 hSS => ?_, fun q => absurd q d.2.2⟩⟩
              have h1 := re_ri (x := nI p) h3 ht'
              rw [← e9] at h1
              exact ⟨fun q => absurd q (by decide), fun _ => K _ _ _ _ h1 ((ms_98 h3 hSS).trans z3)⟩
            · rw [if_neg d]
              refine ⟨b3, ⟨n, ix_up h (by omega) (by omega) (by omega) (by omega), xi_up hx (by omega)⟩, fun M ta tm Q hr hz K => cls hr hz (fun M3 h3 z3 => ?_), fun S E B Q hS RK K => ref hS RK (fun y1 y2 y3 => absurd ⟨y1, y2, y3⟩ d) (fun _ => K)⟩
              have fin : ∀ (v : Int32), v < 0 → mm_S fr_C M3 M3 → (v < 0 → Q 0 M3) ∧ (¬ v < 0 → Q 1 M3) := fun v hv _ => ⟨fun _ => K _ _ _ _ h3 z3, fun y => absurd hv y⟩
              refine wc_X10_raiseIfCan_0 (re_m5 h3) (ce_taskAt h3 (fun t' ht' e => ?_) (fun q => ⟨fun _ => fin (-2) (by decide), fun y => absurd rfl y⟩))
              have : t = t' := (nI_eq (by omega) (by omega)).mp e
              subst this
              have g := re_ge h3 ht'
              refine ⟨fun q => absurd q (by omega), fun _ => ⟨fun q => absurd q (nI_pos (by omega)), fun _ => ⟨fun _ => ⟨g.2, ce_loose h3 h ht' ?_⟩, fun q => absurd (show nI p ≤ nI 9 from nI_le (by omega) (by decide)) q⟩⟩⟩
              rw [(h3.1.2.2.1.1 t ht').2.1.1]
              by_cases d1 : ra_T I m t 6 ≤ 2
              · rw [if_pos d1]
                exact ⟨fun q => absurd q (by decide), fun _ => ⟨fun q => absurd ⟨ht', d1, q⟩ d, fun _ => fin (-3) (by decide)⟩⟩
              · rw [if_neg d1]
                exact ⟨fun _ => fin (-3) (by decide), fun q => absurd rfl q⟩
end One
