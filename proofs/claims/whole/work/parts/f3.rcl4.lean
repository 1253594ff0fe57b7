/-! the run on paper in the class: the loop -/
section Rcl4
variable {M M' : mm_T} {I J N : Nat → Nat → Int32} {m n Pb t w X : Nat} {en : Nat → Int32} {ta tm tc : Nat → Nat} {pb : Int32}
theorem ce_nxt (h : cB_ M I J m n ta tm en) {P : Int32 → mm_T → Prop} (K : P (nx_ J m n en) M) : cs_i mt_X8_nextTick [pv_r 17] M P := by
  have r17 := re_17 h.1.1
  have e1 : bs_ (iof_ J m 3 none) (fun a c => decide (en a < en c)) n = bu_ J m n en := bs_eq (fun t _ => by unfold iof_; exact Bool.and_true _) (fun _ _ _ _ => rfl)
  have e2 : bs_ (iof_ J m 2 none) (fun a c => decide (ra_T J m a 8 < ra_T J m c 8)) n = sp_nr J m n := bs_eq (fun t _ => by unfold iof_; exact Bool.and_true _) (fun _ _ _ _ => rfl)
  have i6 : ∀ {t x} {s : Int32}, t < n → iof_ J m s none t = true → s = x → ra_T J m t 6 = x := fun _ q z => by
    unfold iof_ at q
    rw [Bool.and_true] at q
    exact (of_decide_eq_true q).trans z
  refine wc_X8_nextTick_0 r17.1 ?_
  rw [r17.2.1]
  refine ⟨(br_S h.1.2.1).1, cb_least h.1.2.1 (x1 := 3) (by decide) (o := none) (fun l q => by cases q) (od := en) (fun t ht q => ?_) (pB_0 h.1) ?_⟩
  · have q := i6 ht q rfl
    have g := br_tc h.1.2.1 ht (sd_3 (Or.inr (Or.inr (Or.inr q))))
    have g7 : mm_i M (tc_n I m t) 7 = 3 := g.2.2.1.trans q
    unfold ordv
    rw [g7, if_neg (by decide), if_pos rfl]
    exact h.2.1 t ht q
  rw [e1, r17.2.1]
  refine ⟨(br_S h.1.2.1).1, cb_least h.1.2.1 (x1 := 2) (by decide) (o := none) (fun l q => by cases q) (od := fun t => ra_T J m t 8) (fun t ht q => ?_) (pB_0 h.1) ?_⟩
  · have q := i6 ht q rfl
    have g := br_tc h.1.2.1 ht (sd_3 (Or.inr (Or.inr (Or.inl q))))
    have g7 : mm_i M (tc_n I m t) 7 = 2 := g.2.2.1.trans q
    unfold ordv
    rw [g7, if_pos rfl]
    exact h.2.2.1 t ht q
  rw [e2]
  have tn : ∀ x, ¬ tc_n I m x = 0 := fun x => by have := tc_31 (I := I) (m := m) (t := x); omega
  unfold nx_ at K
  cases b1 : bu_ J m n en with
  | none =>
    rw [b1] at K
    refine ⟨fun c => absurd rfl c, fun _ => ?_⟩
    cases b2 : sp_nr J m n with
    | none =>
      rw [b2] at K
      exact ⟨fun c => absurd rfl c, fun _ => K⟩
    | some b =>
      rw [b2] at K
      obtain ⟨q1, q2⟩ := nr_of b2
      have g := br_tc h.1.2.1 q1 (sd_3 (Or.inr (Or.inr (Or.inl q2))))
      refine ⟨fun _ => ⟨g.1, ?_⟩, fun c => absurd c (tn b)⟩
      show P (mm_i M (tc_n I m b) 9) M
      rw [h.2.2.1 b q1 q2]
      exact K
  | some a =>
    rw [b1] at K
    have a1 := bs_lt b1
    have a2 := of_decide_eq_true a1.2
    have ga := br_tc h.1.2.1 a1.1 (sd_3 (Or.inr (Or.inr (Or.inr a2))))
    refine ⟨fun _ => ?_, fun c => absurd c (tn a)⟩
    cases b2 : sp_nr J m n with
    | none =>
      rw [b2] at K
      refine ⟨fun c => absurd rfl c, fun _ => ⟨ga.1, ?_⟩⟩
      show P (mm_i M (tc_n I m a) 12) M
      rw [h.2.1 a a1.1 a2]
      exact K
    | some b =>
      rw [b2] at K
      obtain ⟨q1, q2⟩ := nr_of b2
      have g := br_tc h.1.2.1 q1 (sd_3 (Or.inr (Or.inr (Or.inl q2))))
      refine ⟨fun _ => ⟨ga.1, g.1, ?_⟩, fun c => absurd c (tn b)⟩
      show P (if mm_i M (tc_n I m b) 9 < mm_i M (tc_n I m a) 12 then mm_i M (tc_n I m b) 9 else mm_i M (tc_n I m a) 12) M
      rw [h.2.1 a a1.1 a2, h.2.2.1 b q1 q2]
      exact K
def cR_ (M : mm_T) (r : Int32 × Int32 × Int32 × (Nat → Int32)) : Prop := mm_i M 17 4 = r.1 ∧ mm_i M 17 7 = r.2.1 ∧ mm_i M 17 6 = r.2.2.1 ∧ ∀ l, l < 5 → mm_i M 30 l = r.2.2.2 l
theorem ce_run92 (hw : 1 ≤ w) (hw6 : w ≤ 6) {X0 a1 : Nat} {x2 x3 : Int32} {P : mm_T → Prop} : ∀ (f i : Nat) {M : mm_T} {J : fI} {en : Nat → Int32} {la id : Int32} {e : Nat → Int32} {X : Nat}, i + f = 97 → cB_ M I J m n ta tm en → pp_ J m n Pb → J (m + 1) 0 = nI X → X ≤ 1000000000 + 20 * i → cF_ M (nI X0) (J (m + 1) 0 - nI X0) (nI w - nI (ou_ J m n)) id la e → pr_ (fcs J m n (dl_ J m n en)) m n Pb w en X → nu_ (sp_wk 401 (fcs J m n (dl_ J m n en)) m n) m n + 1 ≤ f → (∀ M', re_ M' I m n ta tm → cR_ M' (frw m n w (nI X0) f (fcs J m n (dl_ J m n en)) en (lst_ la (dl_ J m n en)) id (emp_ J m (J (m + 1) 0 - nI X0) e (dl_ J m n en))) → P M') → cw_v mt_X8_run 92 [some (pv_r 17), some (pv_r a1), some (pv_i x2), some (pv_i x3), some (pv_i (nI i)), none] [] M P
  | 0, i, M, J, en, la, id, e, X, hi, h, hp, h0, hXb, hF, hr, hn, K => by omega
  | f + 1, i, M, J, en, la, id, e, X, hi, h, hp, h0, hXb, hF, hr, hn, K => by
    have r17 := re_17 h.1.1
    have hX : X + 20 < 2147483648 := by omega
    have h5 := h
    refine wc_X8_run_92 r17.1 ⟨fun q => absurd q (show ¬ nI 96 < nI i from nI_nlt (by omega) (by omega)), fun _ => ?_⟩
    refine wc_X8_completeEnding_0 r17.1 (ce_end (i := 0) (dl_ J m n en) h hp hF rfl (by have := dl_48 (en := en) h.1.2.1; omega) (fun M1 c1 F1 => ?_))
    obtain ⟨F, eF⟩ : ∃ F, F = fcs J m n (dl_ J m n en) := ⟨_, rfl⟩
    rw [← eF] at c1 F1 hr hn K
    have hFp := hr.1
    have F0 : F (m + 1) 0 = J (m + 1) 0 := hr.2.1.trans h0.symm
    rw [← F0] at F1
    have hrc : rc2_ F m n ≤ 48 := Nat.le_trans (cn_sub (fun x _ q => decide_eq_true ⟨Or.inl rfl, by rw [of_decide_eq_true q]; decide⟩)) (st48 c1.1.2.1)
    refine wc_X8_wakeDue_0 (re_17 c1.1.1).1 (ce_wkd 48 0 401 rfl c1 hFp (by rw [F1.1, F1.2.1]; grind) hrc (by omega) (fun M3 c3 f3 => ?_))
    obtain ⟨pw, pw2, pw3, pw4, pw5⟩ := pr_wk hr
    have F3 := cF_o F1 f3
    have W0 : sp_wk 401 F m n (m + 1) 0 = F (m + 1) 0 := pw.2.1.trans hr.2.1.symm
    have F3' : cF_ M3 (nI X0) (sp_wk 401 F m n (m + 1) 0 - nI X0) (nI w - nI (ou_ (sp_wk 401 F m n) m n)) id (lst_ la (dl_ J m n en)) (emp_ J m (J (m + 1) 0 - nI X0) e (dl_ J m n en)) := by
      rw [W0, pw2, ← F0]
      exact F3
    refine wc_X8_serveFree_0 (re_17 c3.1.1).1 (ce_svf hw6 6 0 rfl c3 F3' pw.2.2.2 (by omega) (fun M5 c5 F5 => ?_))
    have c5 : cB_ M5 I (sv_ m n w F en).1 m n ta tm (sv_ m n w F en).2 := c5
    have F5 : cF_ M5 (nI X0) (sp_wk 401 F m n (m + 1) 0 - nI X0) (nI w - nI (ou_ (sv_ m n w F en).1 m n)) id (lst_ la (dl_ J m n en)) (emp_ J m (J (m + 1) 0 - nI X0) e (dl_ J m n en)) := F5
    rw [W0] at F5
    refine ce_nxt c5 ?_
    show (¬ vx_ m n w F en = -1 → _) ∧ (vx_ m n w F en = -1 → _)
    rcases pr_nx hr hX hw with ⟨v1, v2⟩ | ⟨Y, v1, v2, v3, v4, v5, v6, v7, v8, -⟩
    · refine ⟨fun c => absurd v1 c, fun _ => K M5 c5.1.1 ?_⟩
      rw [frw_e v1]
      exact ⟨F5.2.1, F5.2.2.2.2.1, F5.2.2.2.1, F5.2.2.2.2.2⟩
    · have vn : ¬ vx_ m n w F en = -1 := by
        rw [v1]
        exact nI_nm (by omega)
      refine ⟨fun _ M10 e10 M12 e12 => ?_, fun c => absurd c vn⟩
      rw [frw_s vn] at K
      have sr := (pr_sv hr hX).1
      have ouw := sr.2.2.2
      have ef : nI w - nI (ou_ (sv_ m n w F en).1 m n) = nI (w - ou_ (sv_ m n w F en).1 m n) := by
        have := sub_nI (a := w - ou_ (sv_ m n w F en).1 m n) (b := ou_ (sv_ m n w F en).1 m n)
        rw [show w - ou_ (sv_ m n w F en).1 m n + ou_ (sv_ m n w F en).1 m n = w by omega] at this
        exact this
      have f12 : fx_ (fun a _ => a = 17 ∨ a = 30) (fun _ _ => False) M5 M12 := by
        rw [e12, e10]
        exact fx_tr (fx_pi (Or.inl rfl)) (fx_pi (Or.inl rfl))
      have c12 : cB_ M12 I (n4_ m n w F en) m n ta tm (sv_ m n w F en).2 := cB_0 (cB_f c5 f12)
      have o4 : ou_ (n4_ m n w F en) m n = ou_ (sv_ m n w F en).1 m n := ou_eq (fun x _ => by
        rw [show ra_T (n4_ m n w F en) m x 6 = ra_T (sv_ m n w F en).1 m x 6 from i2_uj (by omega)])
      have F12 : cF_ M12 (nI X0) (n4_ m n w F en (m + 1) 0 - nI X0) (nI w - nI (ou_ (n4_ m n w F en) m n)) (id + nI (w - ou_ (sv_ m n w F en).1 m n) * (vx_ m n w F en - F (m + 1) 0)) (lst_ la (dl_ J m n en)) (emp_ J m (J (m + 1) 0 - nI X0) e (dl_ J m n en)) := by
        rw [o4, v8, ← v1]
        have e3 : mm_i M10 17 3 = nI X0 := by
          rw [e10, mi_pij (by decide)]
          exact F5.1
        refine ⟨?_, ?_, ?_, ?_, ?_, fun l hl => ?_⟩
        · rw [e12, mi_pij (by decide)]
          exact e3
        · rw [e12, mi_pis, e3]
          rfl
        · rw [e12, mi_pij (by decide), e10, mi_pij (by decide)]
          exact F5.2.2.1
        · rw [e12, mi_pij (by decide), e10, mi_pis, F5.2.2.2.1, F5.2.2.1, ef, F5.1, F5.2.1]
          show id + nI (w - ou_ (sv_ m n w F en).1 m n) * (vx_ m n w F en - nI X0 - (F (m + 1) 0 - nI X0)) = _
          grind
        · rw [e12, mi_pij (by decide), e10, mi_pij (by decide)]
          exact F5.2.2.2.2.1
        · rw [e12, mi_pia (by decide), e10, mi_pia (by decide)]
          exact F5.2.2.2.2.2 l hl
      rw [nI_1]
      refine ce_run92 hw hw6 f (i + 1) (by omega) c12 v7 v8 (by omega) F12 v5 (by have : nu_ (sp_wk 401 (fcs (n4_ m n w F en) m n (dl_ (n4_ m n w F en) m n (sv_ m n w F en).2)) m n) m n + 1 ≤ nu_ (sp_wk 401 F m n) m n := v6; omega) (fun M' q1 q2 => K M' q1 ?_)
      rw [v8, ← v1] at q2
      exact q2
end Rcl4
