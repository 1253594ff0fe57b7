/-! THE CLASS: failing, taking -/
section Fai
variable {M M' : mm_T} {I J : Nat → Nat → Int32} {m n : Nat} {ta tm : Nat → Nat}
theorem bl_cmm {j t : Nat} {x y : Int32} (h : j ≠ 8) : sp_bl (i2_u I m j y) m t x = i2_u (sp_bl I m t x) m j y := by
  have r8 : i2_u I m j y m 8 = I m 8 := i2_uj (Ne.symm h)
  have r4 : i2_u I m j y (m + 4) t = I (m + 4) t := i2_ua (by omega)
  unfold sp_bl
  rw [r8, r4]
  split
  · unfold ra_blame
    split
    · exact i2_cm (Or.inl (by omega))
    · rw [i2_cm (a := m) (b := m + 1) (Or.inl (by omega)), i2_cm (a := m) (b := m + 5) (Or.inl (by omega)), i2_cm (a := m) (b := m + 4) (Or.inl (by omega))]
  · exact i2_cm (Or.inl (by omega))
theorem log_bl {t : Nat} {x1 x3 x4 c : Int32} : sp_log (sp_bl I m t c) m x1 t x3 x4 = sp_bl (sp_log I m x1 t x3 x4) m t c := by
  have r8 : sp_log I m x1 t x3 x4 m 8 = I m 8 := sp_log_o (by omega) (by omega)
  have r4 : sp_log I m x1 t x3 x4 (m + 4) t = I (m + 4) t := sp_log_o (by omega) (by omega)
  unfold sp_bl
  rw [r8, r4]
  split
  · unfold ra_blame
    split
    · exact log_cm (by omega) (by omega) (by omega)
    · rw [log_cm (a := m + 4) (by omega) (by omega) (by omega), log_cm (a := m + 5) (by omega) (by omega) (by omega), log_cm (a := m + 1) (by omega) (by omega) (by omega)]
  · exact log_cm (by omega) (by omega) (by omega)
/-- what the class has done ahead of the choice -/
def sp_g8 (I : Nat → Nat → Int32) (m t w : Nat) (c : Int32) : Nat → Nat → Int32 := sp_log (sp_bl (i2_u (i2_u (sp_lw I m t w) (m + 1) (60 + 4 * w + 3) (I (m + 1) (60 + 4 * w + 3) + 1)) (m + 1) (200 + 14 * t + 7) (I (m + 1) (200 + 14 * t + 7) + 1)) m t c) m 3 t (nI w) c
theorem f8_g8 {t w : Nat} {c : Int32} (hw : w < 6) : sp_f8 I m t w c = i2_u (sp_g8 I m t w c) m 9 (I m 9 + 1) := by
  unfold sp_f8 sp_g8
  have e1 : ∀ X : Nat → Nat → Int32, sp_lw (i2_u X m 9 (I m 9 + 1)) m t w = i2_u (sp_lw X m t w) m 9 (I m 9 + 1) := fun X => by
    unfold sp_lw
    rw [i2_cm (a := m) (b := m + 1) (Or.inl (by omega)), i2_cm (a := m) (b := m + 1) (Or.inl (by omega)), i2_cm (a := m) (b := m + 1) (Or.inl (by omega)), i2_cm (a := m) (b := m + 1) (Or.inl (by omega))]
  rw [e1, log_cm (a := m) (by omega) (by omega) (by omega), bl_cmm (by omega), log_bl]
  rw [lw_cm (j := 60 + 4 * w + 3) (by omega) (by omega) (by omega) (by omega), lw_cm (j := 200 + 14 * t + 7) (by omega) (by omega) (by omega) (by omega)]
  rw [i2_cm (a := m + 1) (b := m + 1) (j := 200 + 14 * t + 7) (k := 60 + 4 * w + 3) (Or.inr (by omega))]
theorem rest_eq : ∀ r, r < 9 → (if (0 : Int32) < (if (8 : Int32) < nI (r + 1) - 1 then 8 else nI (r + 1) - 1) then (if (8 : Int32) < nI (r + 1) - 1 then 8 else nI (r + 1) - 1) else 0) = nI (r + 1) - 1 := by decide +kernel
theorem re_8 (h : re_ M I m n ta tm) {t : Nat} (ht : t < n) : mm_i M (ta t) 8 = ra_T I m t 7 := (h.1.2.2.1.1 t ht).2.1.2.2.2.2.2.1
theorem re_rules (h : re_ M I m n ta tm) : mm_r M 6 3 = 11 ∧ ak_ M 11 0 6 ∧ ∀ k, k < 6 → mm_i M 11 k = I (m + 1) (4 + k) := ⟨(br_S h.1.2.1).2.2.2.2.2.2.2.2.2.1, (br_S h.1.2.1).2.2.2.2.2.2.2.2.2.2.1, h.1.2.1.2.2.2.1⟩
theorem re_bk (h : re_ M I m n ta tm) : mm_r M 5 0 = 6 ∧ mm_k M 6 = (0, 4) := ⟨h.1.1.1.2.1, (br_S h.1.2.1).1⟩
theorem ce_fail (h : re_ M I m n ta tm) (h8 : I m 8 = 0) (hbl : bl_ I m n) {b : Nat} (hd : dv_ I m n b) (hz : zr_ I m) (hb : b < 1999990000) (hR : ivR I m n) (hH : ivH I m n) {t w k r tr : Nat} (ht : t < n) (hw : w < 6) (h6 : ra_T I m t 6 = 3) (h9 : ra_T I m t 9 = nI w) (h3 : ra_T I m t 3 = nI k) (hk : k < 10000) (h7 : ra_T I m t 7 = nI r) (hr : r < 10) (htr : I (m + 1) 7 = nI tr) (htr2 : tr < 10) {c : Int32} (hc : c < 100) {P : mm_T → Prop} (K : ∀ M' tn, re_ M' (sp_fail I m n t w k c).2 m n ta tn → (sp_fail I m n t w k c).1 = ra_T (sp_fail I m n t w k c).2 m t 6 → P M') : cs_v mt_X10_failTask [pv_r 5, pv_r (ta t), pv_i c] M P := by
  have h4 := re_4 h
  obtain ⟨g1, g2⟩ := re_ge h ht
  obtain ⟨v1, v2, v3, v4, v5, v6⟩ := id hd
  obtain ⟨L, hL1, hL2⟩ := v6 h8
  refine wc_X10_failTask_0 (re_m5 h) ⟨g2, ce_letGo h ht hw h9 (fun M1 h1 => ⟨fun q => absurd q (by omega), fun _ => ⟨(h1.1.1.2.2.1.2.1 w hw).2.1, fun M2 e2 M3 e3 => ?_⟩⟩)⟩
  have w3 : mm_i M1 (86 + w) 4 = I (m + 1) (60 + 4 * w + 3) := (h1.2.1.2.2.1 w hw).2.2.2.trans (sp_lw_o (by omega))
  rw [w3] at e2
  have h2 := re_wi (f := 3) (x := I (m + 1) (60 + 4 * w + 3) + 1) h1 hw (by omega)
  rw [← e2] at h2
  have w7 : mm_i M2 (ta t) 8 = I (m + 1) (200 + 14 * t + 7) := by
    rw [re_8 h2 ht]
    unfold ra_T
    rw [i2_uj (by omega), sp_lw_o (by omega)]
  rw [w7] at e3
  have h3' := re_ti (x := I (m + 1) (200 + 14 * t + 7) + 1) h2 ht (j := 8) (f := 7) (by omega)
  rw [← e3] at h3'
  have o1 : ∀ a j, a ≠ m + 1 → i2_u (i2_u (sp_lw I m t w) (m + 1) (60 + 4 * w + 3) (I (m + 1) (60 + 4 * w + 3) + 1)) (m + 1) (200 + 14 * t + 7) (I (m + 1) (200 + 14 * t + 7) + 1) a j = I a j := fun a j q => by rw [i2_ua q, i2_ua q, sp_lw_o (Or.inl q)]
  refine ce_addCause h3' ((o1 _ _ (by omega)).trans h8) ht (cb_o (v4 t ht) (o1 _ _ (by omega)) (o1 _ _ (by omega))) (fun M4 h4' => ?_)
  have o2 : ∀ a j, a ≠ m + 1 → a ≠ m + 4 → a ≠ m + 5 → sp_bl (i2_u (i2_u (sp_lw I m t w) (m + 1) (60 + 4 * w + 3) (I (m + 1) (60 + 4 * w + 3) + 1)) (m + 1) (200 + 14 * t + 7) (I (m + 1) (200 + 14 * t + 7) + 1)) m t c a j = I a j := fun a j q1 q2 q3 => by rw [sp_bl_o (Or.inl q1) q2 q3, o1 a j q1]
  refine ce_note h4' ((o2 _ _ (by omega) (by omega) (by omega)).trans h8) ((o2 _ _ (by omega) (by omega) (by omega)).trans hL2) (by omega) ht (x3 := nI w) (Or.inr ⟨w, hw, rfl, rfl⟩) (fun M5 h5 => ?_)
  have h5 : re_ M5 (sp_f8 I m t w c) m n ta tm := re_I h5 fx_rf (fun a j q => by
    rw [f8_g8 hw, i2_at, if_neg (by omega)]
    rfl)
  obtain ⟨F, hF⟩ : ∃ F, F = sp_f8 I m t w c := ⟨_, rfl⟩
  have d8 : dv_ F m n (b + 1) := by rw [hF]; exact f8_dv hd hw (by omega)
  have fo : ∀ a j, (a ≠ m + 1 ∨ (j ≠ 200 + 14 * t + 7 ∧ j ≠ 60 + 4 * w + 3 ∧ j ≠ 60 + 4 * w ∧ j ≠ 200 + 14 * t + 9 ∧ j ≠ 200 + 14 * t + 10 ∧ j ≠ 200 + 14 * t + 11 ∧ j ≠ 200 + 14 * t + 13)) → (a ≠ m ∨ (j ≠ 9 ∧ j ≠ 6)) → a ≠ m + 6 → a ≠ m + 4 → a ≠ m + 5 → F a j = I a j := fun a j q1 q2 q3 q4 q5 => by rw [hF]; exact f8_o q1 q2 q3 q4 q5
  have f7 : F (m + 1) (200 + 14 * t + 7) = nI (r + 1) := by
    rw [hF, f8_7 hw, show I (m + 1) (200 + 14 * t + 7) = nI r from h7, nI_1]
  rw [← hF] at h5
  unfold sp_fail at K
  rw [show I (m + 1) (200 + 14 * t + 7) + 1 = nI (r + 1) by rw [show I (m + 1) (200 + 14 * t + 7) = nI r from h7, nI_1], htr, ← hF] at K
  obtain ⟨b1, b2⟩ := re_bk h5
  obtain ⟨r1, r2, r3⟩ := re_rules h5
  have e8 : mm_i M5 (ta t) 8 = nI (r + 1) := (re_8 h5 ht).trans f7
  have e7 : mm_i M5 11 3 = nI tr := by rw [r3 3 (by decide), fo _ _ (by omega) (by omega) (by omega) (by omega) (by omega)]; exact htr
  rw [b1, r1, e8, e7]
  have FT6 : ∀ t', t' < n → ra_T F m t' 6 = ra_T I m t' 6 := fun t' _ => fo _ _ (by omega) (by omega) (by omega) (by omega) (by omega)
  have F8 : F m 8 = 0 := (fo _ _ (by omega) (by omega) (by omega) (by omega) (by omega)).trans h8
  refine ⟨b2, 6, r2, by decide, fun c1 => ?_, fun c1 => ?_⟩
  · have hrt : r + 1 < tr := (nI_ltI (by omega) (by omega)).mp c1
    rw [if_neg (fun q => by rw [nI_leI (by omega) (by omega)] at q; omega)] at K
    refine wc_X10_restOf_0 (re_m5 h5) ?_
    rw [b1, r1]
    refine ⟨b2, 6, r2, by decide, fun M6 e6 => ?_⟩
    rw [rest_eq r (by omega), r3 2 (by decide), h5.2.2.2.2.1.1] at e6
    have h6' := re_ti (x := F (m + 1) 0 + F (m + 1) (4 + 2) <<< (nI (r + 1) - 1 &&& 31)) h5 ht (j := 9) (f := 8) (by omega)
    rw [← e6] at h6'
    obtain ⟨b3, b4⟩ := re_bk h6'
    rw [b3]
    refine ⟨b4, ce_change h6' (s := 2) (v := 2) ht rfl (by decide) (fun q => ?_) (fun M7 h7' => K M7 tm ?_ ?_)⟩
    · have : sgI (i2_u F (m + 1) (200 + 14 * t + 8) (F (m + 1) 0 + F (m + 1) (4 + 2) <<< (nI (r + 1) - 1 &&& 31))) m t = 3 := by
        unfold sgI ra_T
        rw [i2_uj (by omega)]
        exact (FT6 t ht).trans h6
      rw [this] at q
      exact absurd q (by decide)
    · have e : sp_f2 F m t = i2_u (i2_u F (m + 1) (200 + 14 * t + 8) (F (m + 1) 0 + F (m + 1) (4 + 2) <<< (nI (r + 1) - 1 &&& 31))) (m + 1) (200 + 14 * t + 6) 2 := by
        unfold sp_f2
        rw [f7, i2_cm (Or.inr (by omega))]
      show re_ M7 (sp_f2 F m t) m n ta tm
      rw [e]
      exact h7'
    · show (2 : Int32) = ra_T (sp_f2 F m t) m t 6
      unfold sp_f2 ra_T
      rw [i2_uj (by omega), i2_us]
  · have hrt : tr ≤ r + 1 := by
      rcases Nat.lt_or_ge (r + 1) tr with q | q
      · exact absurd (nI_lt q (by omega)) c1
      · exact q
    rw [if_pos (nI_le hrt (by omega))] at K
    have e3 : mm_i M5 (ta t) 5 = nI k := by
      rw [(h5.1.2.2.1.1 t ht).2.1.2.2.1, show ra_T F m t 3 = ra_T I m t 3 from fo _ _ (by omega) (by omega) (by omega) (by omega) (by omega)]
      exact h3
    have F3 : ra_T F m t 3 = nI k := (fo _ _ (by omega) (by omega) (by omega) (by omega) (by omega)).trans h3
    rw [h5.1.1.1.2.2.2.2.2.2.2.2.1, e3]
    refine ⟨(re_k h5).1, ce_add h5 hk ht F3 (fun M6 h6' => ?_)⟩
    obtain ⟨G, hG⟩ : ∃ G, G = i2_u F (m + 3) k (F (m + 3) k + 1) := ⟨_, rfl⟩
    rw [← hG] at h6'
    have go : ∀ a j, a ≠ m + 3 → G a j = F a j := fun a j q => by rw [hG, i2_ua q]
    have dG : dv_ G m n (b + 1) := dv_o d8 (go _ _ (by omega)) (go _ _ (by omega)) (fun t' _ => ⟨go _ _ (by omega), go _ _ (by omega)⟩) (go _ _ (by omega)) (lb_o d8.2.2.2.2.2 (go _ _ (by omega)) (go _ _ (by omega)) (Nat.le_refl _)) (fun _ _ q => cb_o q (go _ _ (by omega)) (go _ _ (by omega)))
    have zG : zr_ G m := zr_o hz (fun j => (go _ _ (by omega)).trans (fo _ _ (by omega) (by omega) (by omega) (by omega) (by omega))) (fun j => (go _ _ (by omega)).trans (fo _ _ (by omega) (by omega) (by omega) (by omega) (by omega)))
    have G8 : G m 8 = 0 := (go _ _ (by omega)).trans F8
    have GT : ∀ t' f, t' < n → (f = 4 ∨ f = 6) → ra_T G m t' f = ra_T I m t' f := fun t' f _ hf => (go _ _ (by omega)).trans (fo _ _ (by omega) (by omega) (by omega) (by omega) (by omega))
    rw [h6'.1.1.1.2.2.2.2.2.1]
    refine ⟨h6'.1.1.2.2.2.2.2.1.1, ce_clearF h6' (fun M7 tn7 h7' t7 f7' => ?_)⟩
    rw [h7'.1.1.1.2.2.2.2.2.1]
    refine ⟨h7'.1.1.2.2.2.2.2.1.1, ce_appF h7' f7' (by decide) (re_ge h7' ht).2 (fun M8 tn8 h8' t8 f8' => ?_)⟩
    refine wc_X10_setAside_0 (re_m5 h8') (wc_X10_setAside_7 (re_m5 h8') ⟨fun q => absurd q (by decide), fun _ => ?_⟩)
    have hro := re_ro h8' f8'
    have e1 : mm_i M8 83 1 = nI 1 := hro.2.2.2.2.2.1
    have et : mm_r M8 84 0 = ta t := hro.2.2.2.2.2.2.1 0 (ta t) rfl
    rw [h8'.1.1.1.2.2.2.2.2.1, e1]
    refine ⟨hro.1, fun q => absurd q (by decide), fun _ => wc_X10_setAside_27 (re_m5 h8') ?_⟩
    rw [h8'.1.1.1.2.2.2.2.2.1, h8'.1.1.1.2.1, hro.2.1, e1]
    refine ⟨hro.1, fun q => absurd q (by decide), fun _ => ⟨48, hro.2.2.1, 0, ⟨rfl, by decide⟩, (br_S h8'.1.2.1).1, ?_⟩⟩
    rw [et]
    have hst : sd_ (sgI G m t) = true := sd_3 (Or.inr (Or.inr (Or.inr ((GT t 6 ht (Or.inr rfl)).trans h6))))
    refine ce_fall1 h8' G8 dG (by omega) ht hst (Or.inl hc) (fun M9 h9' => ?_)
    have es : sp_stp G m t c = sp_ga G m t c := by unfold sp_stp; rw [if_pos hc]
    rw [es] at h9'
    obtain ⟨A, hA⟩ : ∃ A, A = sp_ga G m t c := ⟨_, rfl⟩
    rw [← hA] at h9'
    have n5 : ¬ ra_T G m t 6 = 5 := by rw [GT t 6 ht (Or.inr rfl), h6]; decide
    have n1 : ¬ ra_T G m t 6 = 1 := by rw [GT t 6 ht (Or.inr rfl), h6]; decide
    have dA : dv_ A m n (b + 2) := by rw [hA]; exact dv_ga dG (by omega) ht n5
    have zA : zr_ A m := by rw [hA]; exact zr_o zG (fun _ => sp_ga_o (by omega) (by omega) (by omega)) (fun _ => sp_ga_o (by omega) (by omega) (by omega))
    have A8 : A m 8 = 0 := by rw [hA]; exact (sp_ga_o (by omega) (by omega) (by omega)).trans G8
    have A6 : ∀ t', t' < n → ra_T A m t' 6 = if t' = t then 5 else ra_T I m t' 6 := fun t' q => by
      rw [hA, ga_s (by omega) (by omega)]
      split
      · rfl
      · exact GT t' 6 q (Or.inr rfl)
    have A4 : ∀ t', t' < n → ra_T A m t' 4 = ra_T I m t' 4 := fun t' q => by
      rw [hA]
      exact (sp_ga_o (by omega) (by omega) (by omega)).trans (GT t' 4 q (Or.inl rfl))
    have blA : bl_ A m n := fun t' q => by rw [A4 t' q]; exact hbl t' q
    have hcA : hc_ A m n = hc_ I m n := by
      rw [hA, hc_ga h4 ht n1]
      exact hc_o (fun t' q => GT t' 6 q (Or.inr rfl))
    have hcI : hc_ I m n < 48 := by
      have hlt := cn_lt (p := fun t => decide (ra_T I m t 6 = 1)) (q := ra_st I m (-1)) (t := t) (n := n) (fun i _ q => decide_eq_true ⟨Or.inl rfl, by rw [of_decide_eq_true q]; decide⟩) ht (decide_eq_false (by rw [h6]; decide)) (decide_eq_true ⟨Or.inl rfl, by rw [h6]; decide⟩)
      unfold ivR at hR
      unfold hc_
      omega
    have hro9 := re_ro h9' f8'
    refine wc_X10_setAside_27 (re_m5 h9') ?_
    rw [h9'.1.1.1.2.2.2.2.2.1, show mm_i M9 83 1 = nI 1 from hro9.2.2.2.2.2.1]
    refine ⟨hro9.1, fun _ => ce_gather h9' blA (fun M10 tn10 h10 t10 f10 => ?_), fun q => absurd (by decide) q⟩
    refine ce_set7 401 (lv := [t]) (s := 1) h10 A8 blA f10 (fun t' q => ?_) (fun q z => by have : q = t := by simpa using z
                                                                                           rw [this]; exact ht) dA zA (by omega) (by omega) (by omega) (by decide) (fun M11 tn11 h11 t11 => K M11 tn11 ?_ ?_)
    · rw [Bool.eq_iff_iff]
      constructor
      · intro z
        unfold lost_ bhl_ at z
        rw [Bool.and_eq_true, decide_eq_true_eq, decide_eq_true_eq, A4 t' q] at z
        obtain ⟨z1, z2, z3⟩ := z
        have z1' := z1
        rw [A6 t' q] at z1'
        have hne : t' ≠ t := fun y => by rw [if_pos y] at z1'; exact absurd z1' (by decide)
        rw [if_neg hne] at z1'
        obtain ⟨p, hp, ep, sp⟩ := hH t' q z1'
        rw [ep, nI_clamp (by omega), A6 p (by omega)] at z3
        by_cases y : p = t
        · exact sp_p_t z1 ((A4 t' q).trans ep) (by rw [y]; simp)
        · rw [if_neg y] at z3
          rcases z3 with z3 | z3
          · rw [z3] at sp
            exact absurd sp (by decide)
          · rw [z3] at sp
            exact absurd sp (by decide)
      · intro z
        obtain ⟨z1, p, hp, z2⟩ := sp_p_of z
        have hp : p = t := by simpa using hp
        unfold lost_ bhl_
        rw [Bool.and_eq_true, decide_eq_true_eq, decide_eq_true_eq]
        refine ⟨z1, by rw [z2]; exact nI_nm (by omega), Or.inl ?_⟩
        rw [z2, nI_clamp (by omega), hp, A6 t ht, if_pos rfl]
    · show re_ M11 (sp_f5 F m n t k c) m n ta tn11
      unfold sp_f5 sp_drags
      rw [if_pos F8, ← hG, ← hA]
      exact re_cls h11
    · show (5 : Int32) = ra_T (sp_f5 F m n t k c) m t 6
      unfold sp_f5 sp_drags
      rw [if_pos F8, ← hG, ← hA]
      have e5 : ra_T A m t 6 = 5 := by rw [A6 t ht, if_pos rfl]
      unfold ra_T
      rw [cl_o (by omega), dr_o 401 (Or.inr ⟨fun t' q z => ?_, by omega, by omega⟩) h4 (by omega) (by omega) (by omega) (by omega)]
      · exact e5.symm
      · have : t' ≠ t := fun y => by rw [y, e5] at z; exact absurd z (by decide)
        omega
end Fai
