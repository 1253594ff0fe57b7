/-! waiting -/
section Pub20
variable {B M M' : mm_T} {I J E : Nat → Nat → Int32} {m n T W P L : Nat} {ta tm : Nat → Nat} {S : Nat → Nat → Bool}
theorem fi_cg {p q : Nat → Bool} : ∀ (k t : Nat), (∀ x, t ≤ x → x < t + k → p x = q x) → fi_ p k t = fi_ q k t
  | 0, _, _ => rfl
  | k + 1, t, h => by
    unfold fi_
    rw [h t (Nat.le_refl _) (by omega), fi_cg k (t + 1) (fun x q1 q2 => h x (by omega) (by omega))]
theorem rc_wai51 (RK : rf_ok B m) (hn : I (m + 1) 1 = nI n) (h4 : n ≤ 400) {x1 x2 : Int32} {t : Nat} (ht : t < n) {Q : Int32 → fI → Prop} (K1 : ¬ nI (cn_ (fun c => ra_wt I m x1 c && ra_ah I m c t) n) = x2 → rw_i mt_X11_waiting 12 [some (pv_r m), some (pv_i x1), some (pv_i x2), some (pv_i (nI (t + 1))), none, none] [] B I Q) (K2 : nI (cn_ (fun c => ra_wt I m x1 c && ra_ah I m c t) n) = x2 → Q (nI t) I) : ∀ (j c : Nat), c + j = n → rw_i mt_X11_waiting 51 [some (pv_r m), some (pv_i x1), some (pv_i x2), some (pv_i (nI t)), some (pv_i (nI (cn_ (fun c => ra_wt I m x1 c && ra_ah I m c t) c))), some (pv_i (nI c))] [] B I Q
  | 0, c, hc => by
    have : c = n := by omega
    subst this
    refine wq_X11_waiting_51 RK ⟨fun _ => ⟨fun q => by rw [nI_1]; exact K1 q, K2⟩, fun q => absurd (nI_end hn) q⟩
  | j + 1, c, hc => by
    have ih := rc_wai51 RK hn h4 ht K1 K2 j (c + 1) (by omega)
    have es : cn_ (fun c => ra_wt I m x1 c && ra_ah I m c t) (c + 1) = cn_ (fun c => ra_wt I m x1 c && ra_ah I m c t) c + if (ra_wt I m x1 c && ra_ah I m c t) = true then 1 else 0 := rfl
    rw [es] at ih
    have fl : ¬ (ra_wt I m x1 c && ra_ah I m c t) = true → rw_i mt_X11_waiting 51 [some (pv_r m), some (pv_i x1), some (pv_i x2), some (pv_i (nI t)), some (pv_i (nI (cn_ (fun c => ra_wt I m x1 c && ra_ah I m c t) c) + 0)), some (pv_i (nI (c + 1)))] [] B I Q := fun q => by
      rw [if_neg q] at ih
      rw [nI_a0]
      exact ih
    have tr : (ra_wt I m x1 c && ra_ah I m c t) = true → rw_i mt_X11_waiting 51 [some (pv_r m), some (pv_i x1), some (pv_i x2), some (pv_i (nI t)), some (pv_i (nI (cn_ (fun c => ra_wt I m x1 c && ra_ah I m c t) c) + 1)), some (pv_i (nI (c + 1)))] [] B I Q := fun q => by
      rw [if_pos q] at ih
      rw [nI_1]
      exact ih
    refine wq_X11_waiting_51 RK ⟨fun q => absurd q (nI_done hn h4 (by omega)), fun _ => ⟨c, ⟨rfl, by omega⟩, fun q => fl (fun z => ?_), fun q => ⟨fun q2 => fl (fun z => ?_), fun q2 => rc_isAheadOf RK rfl rfl (by omega) (by omega) ?_⟩⟩⟩
    · rw [Bool.and_eq_true] at z
      exact q (of_decide_eq_true z.1).1
    · rw [Bool.and_eq_true] at z
      exact q2 (of_decide_eq_true z.1).2
    · by_cases y : ra_ah I m c t = true
      · rw [if_pos y]
        exact ⟨fun z => absurd z (by decide), fun _ => tr (by rw [Bool.and_eq_true]; exact ⟨decide_eq_true ⟨q, q2⟩, y⟩)⟩
      · rw [if_neg y]
        exact ⟨fun _ => fl (fun z => y (by rw [Bool.and_eq_true] at z; exact z.2)), fun z => absurd rfl z⟩
theorem rc_wai12 (RK : rf_ok B m) (hn : I (m + 1) 1 = nI n) (h4 : n ≤ 400) {x1 x2 : Int32} {Q : Int32 → fI → Prop} : ∀ (j t : Nat), t + j = n → Q (io_ (fi_ (fun t => ra_wt I m x1 t && decide (nI (cn_ (fun c => ra_wt I m x1 c && ra_ah I m c t) n) = x2)) j t)) I → rw_i mt_X11_waiting 12 [some (pv_r m), some (pv_i x1), some (pv_i x2), some (pv_i (nI t)), none, none] [] B I Q
  | 0, t, hc, K => by
    have : t = n := by omega
    subst this
    exact wq_X11_waiting_12 RK ⟨fun _ => K, fun q => absurd (nI_end hn) q⟩
  | j + 1, t, hc, K => by
    have ih := rc_wai12 RK hn h4 (x1 := x1) (x2 := x2) (Q := Q) j (t + 1) (by omega)
    unfold fi_ at K
    have no : ¬ ra_wt I m x1 t = true → rw_i mt_X11_waiting 12 [some (pv_r m), some (pv_i x1), some (pv_i x2), some (pv_i (nI (t + 1))), none, none] [] B I Q := fun q => by
      refine ih ?_
      rw [if_neg (fun y => q (by rw [Bool.and_eq_true] at y; exact y.1))] at K
      exact K
    refine wq_X11_waiting_12 RK ⟨fun q => absurd q (nI_done hn h4 (by omega)), fun _ => ⟨t, ⟨rfl, by omega⟩, fun q => no (fun z => q (of_decide_eq_true z).1), fun q => ⟨fun q2 => ?_, fun q2 => no (fun z => q2 (of_decide_eq_true z).2)⟩⟩⟩
    have hw : ra_wt I m x1 t = true := decide_eq_true ⟨q, q2⟩
    refine rc_wai51 RK hn h4 (by omega) (fun z => ih ?_) (fun z => ?_) n 0 (by omega)
    · rw [if_neg (fun y => z (by rw [Bool.and_eq_true] at y; exact of_decide_eq_true y.2))] at K
      exact K
    · rw [if_pos (by rw [Bool.and_eq_true]; exact ⟨hw, decide_eq_true z⟩)] at K
      exact K
theorem sm_waiting (h : ix_ I m n T W P L) {x1 x2 : Int32} : ∃ v, sm_ I m n T W P L (v, I) (fun M Q => cs_i mt_X10_waiting [pv_r 5, pv_i x1, pv_i x2] M Q) (fun B J Q => rs_i mt_X11_waiting [pv_r m, pv_i x1, pv_i x2] B J Q) := by
  have h4 := ix_4 h
  refine qu_ (v := if 0 ≤ x1 ∧ x1 ≤ 4 then io_ (fi_ (fun t => ra_wt I m x1 t && decide (nI (cn_ (fun c => ra_wt I m x1 c && ra_ah I m c t) n) = x2)) n 0) else -1) h (fun M ta tm Q hr K => ?_) (fun S E B Q hS RK hJ K => ?_)
  · refine wc_X10_waiting_0 (re_m5 hr) ?_
    rw [(re_bk hr).1]
    refine ⟨(re_bk hr).2, cb_laneAt (br_S hr.1.2.1) (fun l hl e => ⟨fun _ => ?_, fun q => absurd q (by omega)⟩) (fun q => ⟨fun y => absurd rfl y, fun _ => by rw [if_neg q] at K; exact K⟩)⟩
    rw [if_pos (by rw [e]; exact in_4 hl), e] at K
    rw [(re_bk hr).1]
    refine ⟨(re_bk hr).2, cb_kth (o := some l) (x1 := 0) (od := fun t => -(ra_rank I m t)) hr.1.2.1 (by decide) (fun l' q => by cases q; exact hl) (fun t ht hi => ?_) (ce_number hr (fun t e => by have := (fi_lt e).1; omega) ?_)⟩
    · unfold iof_ at hi
      rw [Bool.and_eq_true, decide_eq_true_eq] at hi
      have hst : sd_ (sgI I m t) = true := sd_3 (Or.inl hi.1)
      have e7 : mm_i M (ta t) 7 = 0 := (br_tc hr.1.2.1 ht hst).2.2.1.trans hi.1
      unfold ordv
      rw [if_neg (by rw [e7]; decide), if_neg (by rw [e7]; decide), (hr.1.2.1.2.2.2.2.1 t ht hst).1, (hr.1.2.1.2.2.2.2.1 t ht hst).2.2, hr.1.2.1.2.2.2.1 0 (by decide)]
      rfl
    · have ei : ∀ t, t < n → iof_ I m 0 (some l) t = ra_wt I m (nI l) t := fun t ht => by
        unfold iof_ ra_wt
        rw [Bool.eq_iff_iff, Bool.and_eq_true, decide_eq_true_eq, decide_eq_true_eq, decide_eq_true_eq, lm_eq (ix_tv h) ht hl]
        exact ⟨fun q => ⟨q.2, q.1⟩, fun q => ⟨q.2, q.1⟩⟩
      have eh : ∀ c t, c < n → t < n → ahd_ (fun t => -(ra_rank I m t)) c t = ra_ah I m c t := fun c t hc ht => by
        unfold ahd_ ra_ah
        rw [decide_eq_decide, neg_lt (ix_rk h c hc) (ix_rk h t ht), Int32.neg_inj]
      rw [fi_cg (q := fun t => ra_wt I m (nI l) t && decide (nI (cn_ (fun c => ra_wt I m (nI l) c && ra_ah I m c t) n) = x2)) n 0 (fun t _ q2 => ?_)]
      · exact K
      · show (iof_ I m 0 (some l) t && decide (nI (cn_ (fun c => iof_ I m 0 (some l) c && ahd_ (fun t => -(ra_rank I m t)) c t) n) = x2)) = _
        rw [ei t (by omega), cn_eq (fun c hc => by rw [ei c hc, eh c t hc (by omega)])]
  · refine wq_X11_waiting_0 RK ⟨fun c => rc_wai12 RK (ix_1 hJ) h4 n 0 (by omega) ?_, fun c => by rw [if_neg c] at K; exact K⟩
    rw [if_pos c] at K
    rw [nt_wt' (uf_us hS), nt_ah (uf_us hS)]
    exact K
end Pub20
