/-! the run on paper in the class: waking, serving, the next tick -/
section Rcl3
variable {M M' : mm_T} {I J N : Nat → Nat → Int32} {m n Pb t w X : Nat} {en : Nat → Int32} {ta tm tc : Nat → Nat} {pb : Int32}
theorem wk1_wt (hb : rb_ J m n pb) (ht : t < n) {j : Nat} : sp_wk1 J m n t (m + 1) j = if j = 200 + 14 * t + 8 then -1 else sp_wt J m n t (m + 1) j := by
  unfold sp_wk1
  rw [sp_log_r, i2_ua (by omega), wt_u8 hb ht, i2_at]
  by_cases z : j = 200 + 14 * t + 8
  · rw [if_pos z, if_pos ⟨rfl, z⟩]
  · rw [if_neg z, if_neg (fun q => z q.2)]
theorem cB_wk1 (h : cB_ M I (sp_wt J m n t) m n ta tm en) (hb : rb_ J m n pb) (ht : t < n) : cB_ M I (sp_wk1 J m n t) m n ta tm en := by
  have e : ∀ j, j ≠ 200 + 14 * t + 8 → sp_wk1 J m n t (m + 1) j = sp_wt J m n t (m + 1) j := fun j q => (wk1_wt hb ht).trans (if_neg q)
  have eT : ∀ x f, f ≠ 8 → f < 14 → ra_T (sp_wk1 J m n t) m x f = ra_T (sp_wt J m n t) m x f := fun x f _ _ => e _ (by omega)
  refine cB_step h fx_rf (br_o h.1.2.1 (fun _ _ => rfl) (fun _ _ _ => rfl) (fun _ _ _ _ _ => rfl) (fun _ => rfl) (fun _ _ => rfl) rfl (fun _ _ _ _ => rfl) (fun _ _ => rfl) (fun j _ => e _ (by omega)) (fun l f _ _ => e _ (by omega)) (fun x f _ q => eT x f (by omega) (by omega))) (fun j q1 q2 q3 => e _ (by omega)) (fun x _ q => ?_) (fun x _ q => ?_) (fun x _ q => ?_)
  · have e6 : sgI (sp_wk1 J m n t) m x = sgI (sp_wt J m n t) m x := eT x 6 (by decide) (by decide)
    rw [← e6]; exact q
  · rw [eT x 6 (by decide) (by decide)] at q
    exact q
  · rw [eT x 6 (by decide) (by decide)] at q
    refine ⟨q, e _ (fun z => ?_)⟩
    have : x = t := by omega
    rw [this, wt_6 hb ht, if_pos rfl] at q
    exact absurd q (by decide)
theorem ce_wkd {P : mm_T → Prop} : ∀ (j i k : Nat) {M : mm_T} {J : fI}, i + j = 48 → cB_ M I J m n ta tm en → pp_ J m n Pb → mm_i M 17 3 + mm_i M 17 4 = J (m + 1) 0 → rc2_ J m n ≤ j → rc2_ J m n < k → (∀ M', cB_ M' I (sp_wk k J m n) m n ta tm en → fx_ bI_ bR_ M M' → P M') → cw_v mt_X8_wakeDue 2 [some (pv_r 17), some (pv_i (nI i)), none] [] M P
  | 0, i, k, M, J, hi, h, hp, hv, hj, hk, K => by
    have : i = 48 := by omega
    subst this
    have hn : sp_nr J m n = none := by
      cases e : sp_nr J m n with
      | none => rfl
      | some t =>
        obtain ⟨t1, t2⟩ := nr_of e
        have := cn_pos (p := fun t => decide (ra_T J m t 6 = 2)) (decide_eq_true t2) t1
        unfold rc2_ at hj
        omega
    have K := K M
    cases k with
    | zero => omega
    | succ k =>
      unfold sp_wk at K
      rw [hn] at K
      exact wc_X8_wakeDue_2 (re_17 h.1.1).1 ⟨fun _ => K h fx_rf, fun q => absurd (Int32.le_refl _) q⟩
  | j + 1, i, 0, M, J, hi, h, hp, hv, hj, hk, K => by omega
  | j + 1, i, k + 1, M, J, hi, h, hp, hv, hj, hk, K => by
    have r17 := re_17 h.1.1
    obtain ⟨qb, -, hb⟩ := pp_rb hp
    refine wc_X8_wakeDue_2 r17.1 ⟨fun q => absurd q (i48 (by omega)), fun _ => ?_⟩
    rw [r17.2.1, hv]
    refine ⟨(br_S h.1.2.1).1, cb_due h.1.2.1 h.2.2.1 (pB_0 h.1) ?_⟩
    unfold sp_wk at K
    cases e : sp_nr J m n with
    | none =>
      rw [e] at K
      exact ⟨fun c => absurd rfl c, fun _ => K M h fx_rf⟩
    | some t =>
      rw [e] at K
      simp only at K ⊢
      obtain ⟨t1, t2⟩ := nr_of e
      by_cases c : J (m + 1) 0 < ra_T J m t 8
      · rw [if_pos c] at K ⊢
        exact ⟨fun c => absurd rfl c, fun _ => K M h fx_rf⟩
      · rw [if_neg c] at K ⊢
        refine ⟨fun _ => ⟨by rw [r17.2.1]; exact (br_S h.1.2.1).1, ?_⟩, fun c => absurd c (by have := tc_31 (I := I) (m := m) (t := t); omega)⟩
        rw [r17.2.1]
        refine cB_wt h hb t1 (Or.inr t2) (fun M1 h1 f1 => ?_)
        rw [nI_1]
        have hc := rc2_wk1 hb t1 t2
        refine ce_wkd j (i + 1) k (by omega) (cB_wk1 h1 hb t1) (pp_wk1 hp t1 t2) ?_ (by omega) (by omega) (fun M' h' f' => K M' h' (fx_tr f1 f'))
        rw [f1.2.2.1 17 3 (by unfold bI_; omega), f1.2.2.1 17 4 (by unfold bI_; omega), hv]
        exact (wk1_o hb t1 (by omega) (by omega) (by omega)).symm
theorem i6 {i : Nat} (h : i < 6) : ¬ (6 : Int32) ≤ nI i := by
  show ¬ nI 6 ≤ nI i
  exact nI_ge h (by decide)
theorem ce_svf {x0 id la : Int32} {e : Nat → Int32} (hw6 : w ≤ 6) {P : mm_T → Prop} : ∀ (j i : Nat) {M : mm_T} {J : fI} {en : Nat → Int32}, i + j = 6 → cB_ M I J m n ta tm en → cF_ M x0 (J (m + 1) 0 - x0) (nI w - nI (ou_ J m n)) id la e → ou_ J m n ≤ w → w - ou_ J m n ≤ j → (∀ M', cB_ M' I (fsv m n (w - ou_ J m n) J en).1 m n ta tm (fsv m n (w - ou_ J m n) J en).2 → cF_ M' x0 (J (m + 1) 0 - x0) (nI w - nI (ou_ (fsv m n (w - ou_ J m n) J en).1 m n)) id la e → P M') → cw_v mt_X8_serveFree 2 [some (pv_r 17), some (pv_i (nI i)), none] [] M P
  | 0, i, M, J, en, hi, h, hF, hou, hj, K => by
    have : i = 6 := by omega
    subst this
    rw [show w - ou_ J m n = 0 by omega] at K
    exact wc_X8_serveFree_2 (re_17 h.1.1).1 ⟨fun _ => K M h hF, fun q => absurd (Int32.le_refl _) q⟩
  | j + 1, i, M, J, en, hi, h, hF, hou, hj, K => by
    have r17 := re_17 h.1.1
    have ef : nI w - nI (ou_ J m n) = nI (w - ou_ J m n) := by
      have := sub_nI (a := w - ou_ J m n) (b := ou_ J m n)
      rw [show w - ou_ J m n + ou_ J m n = w by omega] at this
      exact this
    refine wc_X8_serveFree_2 r17.1 ⟨fun q => absurd q (i6 (by omega)), fun _ => ?_⟩
    rw [hF.2.2.1, ef, r17.2.1]
    by_cases c : w - ou_ J m n = 0
    · rw [c] at K ⊢
      exact ⟨fun _ => K M h hF, fun q => absurd (Int32.le_refl _) q⟩
    · obtain ⟨f, hf⟩ : ∃ f, w - ou_ J m n = f + 1 := ⟨w - ou_ J m n - 1, by omega⟩
      rw [hf] at K ⊢
      unfold fsv at K
      refine ⟨fun q => absurd q (nI_nle (by omega) (by omega)), fun _ => ⟨(br_S h.1.2.1).1, pB_serve h.1 (fun e1 => ?_) (fun l t M2 e1 l5 e3 t1 t2 t3 g1 g2 k1 k2 f2 h2 => ?_)⟩⟩
      · rw [e1] at K
        exact ⟨fun c => absurd rfl c, fun _ => K M h hF⟩
      · rw [e1] at K
        simp only [e3] at K
        refine ⟨fun _ => ⟨k1, fun M7 e7 M11 e11 => ?_⟩, fun c => absurd c (by omega)⟩
        have f2' : fx_ bI_ bR_ M M2 := fx_up f2 (bI_aw l5 g1 g2) (fun a j q => q)
        have F2 := cF_o hF f2'
        have hou' := ou_srv (n := n) l5 t1 t3
        have e0 : sp_srv J m t l (m + 1) 0 = J (m + 1) 0 := srv_o (by omega)
        have sz : mm_i M2 (tc_n I m t) 4 = ra_T J m t 2 := by
          have := (h2.2.1.2.2.2.2.1 t t1 (sd_3 (Or.inr (Or.inr (Or.inr (by show ra_T (sp_srv J m t l) m t 6 = 3; rw [srv_6 l5, if_pos rfl]))))) ).2.1
          rw [srv_T l5 (by decide) (by decide)] at this
          exact this
        rw [F2.1, F2.2.1, show x0 + (J (m + 1) 0 - x0) = J (m + 1) 0 by grind, sz] at e7
        have i11 : ∀ a j, mm_i M11 a j = if a = 17 ∧ j = 5 then nI (f + 1) - 1 else if a = tc_n I m t ∧ j = 12 then J (m + 1) 0 + ra_T J m t 2 else mm_i M2 a j := fun a j => by
          rw [e11, pi_at, e7, pi_at, pi_at, if_neg (show ¬ (17 = tc_n I m t ∧ 5 = 12) by omega), F2.2.2.1, ef, hf]
        have R11 : ∀ a j, mm_r M11 a j = mm_r M2 a j := fun a j => by rw [e11, e7]; rfl
        have K11 : ∀ a, mm_k M11 a = mm_k M2 a := fun a => by rw [e11, e7]; rfl
        have f11 : fx_ (fun a j => (a = 17 ∧ j = 5) ∨ (a = tc_n I m t ∧ j = 12)) (fun _ _ => False) M2 M11 := by
          rw [e11, e7]
          exact fx_tr (fx_pi (Or.inr ⟨rfl, rfl⟩)) (fx_pi (Or.inl ⟨rfl, rfl⟩))
        have tn : ∀ x, 31 ≤ tc_n I m x := fun x => tc_31
        have o11 : ∀ a j, ¬ ((a = 17 ∧ j = 5) ∨ (a = tc_n I m t ∧ j = 12)) → mm_i M11 a j = mm_i M2 a j := f11.2.2.1
        have inj := h2.2.1.2.2.2.2.2
        have s6 : ∀ x, ra_T (sp_srv J m t l) m x 6 = if x = t then 3 else ra_T J m x 6 := fun x => srv_6 l5
        have sd' : ∀ x, sd_ (sgI (sp_srv J m t l) m x) = true → sd_ (sgI J m x) = true := fun x q => by
          by_cases z : x = t
          · rw [z]; exact sd_3 (Or.inl t3)
          · have e6 : sgI (sp_srv J m t l) m x = sgI J m x := (s6 x).trans (if_neg z)
            rw [← e6]; exact q
        have st' : ∀ x, ra_T (sp_srv J m t l) m x 6 = 3 → sd_ (sgI (sp_srv J m t l) m x) = true := fun x q => sd_3 (Or.inr (Or.inr (Or.inr q)))
        have c11 : cB_ M11 I (sp_srv J m t l) m n ta tm (fun x => if x = t then J (m + 1) 0 + ra_T J m t 2 else en x) := by
          refine ⟨⟨re_z h2.1 (fx_up f11 (fun a j q => by unfold zI_; omega) (fun _ _ q => q.elim)), br_o h2.2.1 (fun a _ => K11 a) (fun a j _ => R11 a j) (fun l j _ _ _ => o11 _ _ (by omega)) (fun j => o11 _ _ (by omega)) (fun j _ => o11 _ _ (by omega)) (o11 _ _ (by omega)) (fun x j _ _ => o11 _ _ (by have := tn x; omega)) (fun x _ => R11 _ _) (fun _ _ => rfl) (fun _ _ _ _ => rfl) (fun _ _ _ _ => rfl), h2.2.2.1, h2.2.2.2.1, h2.2.2.2.2⟩, fun x hx q => ?_, fun x hx q => ?_, fun x hx q => ?_, fun x hx q => ?_⟩
          · rw [i11, if_neg (show ¬ (tc_n I m x = 17 ∧ 12 = 5) by omega)]
            by_cases z : x = t
            · simp only [if_pos z]
              rw [z]
              exact if_pos ⟨rfl, trivial⟩
            · simp only [if_neg z]
              rw [if_neg (fun y => z (inj x t hx t1 (st' x q) (st' t ((s6 t).trans (if_pos rfl))) y.1)), f2'.2.2.1 _ _ (by have := tn x; unfold bI_; omega)]
              rw [s6, if_neg z] at q
              exact h.2.1 x hx q
          · rw [o11 _ _ (by have := tn x; omega), f2'.2.2.1 _ _ (by have := tn x; unfold bI_; omega), srv_T l5 (by decide) (by decide)]
            rw [s6] at q
            by_cases z : x = t
            · rw [if_pos z] at q
              exact absurd q (by decide)
            · rw [if_neg z] at q
              exact h.2.2.1 x hx q
          · rw [R11, f2'.2.2.2.1 _ _ (by have := tn x; unfold bR_; omega), srv_T l5 (by decide) (by decide)]
            rcases h.2.2.2.1 x hx (sd' x q) with z | ⟨y, y1, y2, y3, y4, y5⟩
            · exact Or.inl z
            · have y6 := h.2.2.2.2 x hx (sd' x q)
              refine Or.inr ⟨y, y1, y2, y3, by rw [K11, f2'.2.1]; exact y4, ?_⟩
              rw [o11 _ _ (by omega), f2'.2.2.1 _ _ (by unfold bI_; omega)]
              exact y5
          · rw [R11, f2'.2.2.2.1 _ _ (by have := tn x; unfold bR_; omega)]
            exact h.2.2.2.2 x hx (sd' x q)
        have F11 : cF_ M11 x0 (sp_srv J m t l (m + 1) 0 - x0) (nI w - nI (ou_ (sp_srv J m t l) m n)) id la e := by
          rw [e0, hou']
          refine ⟨(o11 17 3 (by omega)).trans F2.1, (o11 17 4 (by omega)).trans F2.2.1, ?_, (o11 17 6 (by omega)).trans F2.2.2.2.1, (o11 17 7 (by omega)).trans F2.2.2.2.2.1, fun l hl => (o11 30 l (by have := tn t; omega)).trans (F2.2.2.2.2.2 l hl)⟩
          rw [i11, if_pos ⟨rfl, rfl⟩, ← hf, ← ef, ← nI_1]
          grind
        rw [nI_1]
        have hf' : w - ou_ (sp_srv J m t l) m n = f := by omega
        rw [e0] at F11
        refine ce_svf hw6 j (i + 1) (by omega) c11 (by rw [e0]; exact F11) (by omega) (by omega) ?_
        rw [hf', e0]
        exact K
end Rcl3
