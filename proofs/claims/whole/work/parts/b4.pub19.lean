/-! resting, ending -/
section Pub19
variable {B M M' : mm_T} {I J E : Nat → Nat → Int32} {m n T W P L : Nat} {ta tm : Nat → Nat} {S : Nat → Nat → Bool}
theorem rc_res31 (RK : rf_ok B m) (hn : I (m + 1) 1 = nI n) (h4 : n ≤ 400) {x1 : Int32} {t : Nat} (ht : t < n) {Q : Int32 → fI → Prop} (K1 : ¬ nI (cn_ (fun c => decide (ra_T I m c 6 = 2) && ahd_ (fun t => ra_T I m t 8) c t) n) = x1 → rw_i mt_X11_restingAt 2 [some (pv_r m), some (pv_i x1), some (pv_i (nI (t + 1))), none, none] [] B I Q) (K2 : nI (cn_ (fun c => decide (ra_T I m c 6 = 2) && ahd_ (fun t => ra_T I m t 8) c t) n) = x1 → Q (nI t) I) : ∀ (j c : Nat), c + j = n → rw_i mt_X11_restingAt 31 [some (pv_r m), some (pv_i x1), some (pv_i (nI t)), some (pv_i (nI (cn_ (fun c => decide (ra_T I m c 6 = 2) && ahd_ (fun t => ra_T I m t 8) c t) c))), some (pv_i (nI c))] [] B I Q
  | 0, c, hc => by
    have : c = n := by omega
    subst this
    refine wq_X11_restingAt_31 RK ⟨fun _ => ⟨fun q => by rw [nI_1]; exact K1 q, K2⟩, fun q => absurd (nI_end hn) q⟩
  | j + 1, c, hc => by
    have ih := rc_res31 RK hn h4 ht K1 K2 j (c + 1) (by omega)
    have es : cn_ (fun c => decide (ra_T I m c 6 = 2) && ahd_ (fun t => ra_T I m t 8) c t) (c + 1) = cn_ (fun c => decide (ra_T I m c 6 = 2) && ahd_ (fun t => ra_T I m t 8) c t) c + if (decide (ra_T I m c 6 = 2) && ahd_ (fun t => ra_T I m t 8) c t) = true then 1 else 0 := rfl
    rw [es] at ih
    have fl : ¬ (ra_T I m c 6 = 2 ∧ (ra_T I m c 8 < ra_T I m t 8 ∨ (ra_T I m c 8 = ra_T I m t 8 ∧ c < t))) → rw_i mt_X11_restingAt 31 [some (pv_r m), some (pv_i x1), some (pv_i (nI t)), some (pv_i (nI (cn_ (fun c => decide (ra_T I m c 6 = 2) && ahd_ (fun t => ra_T I m t 8) c t) c) + 0)), some (pv_i (nI (c + 1)))] [] B I Q := fun q => by
      rw [if_neg (fun z => q (by rw [Bool.and_eq_true] at z; exact ⟨of_decide_eq_true z.1, of_decide_eq_true z.2⟩))] at ih
      rw [nI_a0]
      exact ih
    have tr : (ra_T I m c 6 = 2 ∧ (ra_T I m c 8 < ra_T I m t 8 ∨ (ra_T I m c 8 = ra_T I m t 8 ∧ c < t))) → rw_i mt_X11_restingAt 31 [some (pv_r m), some (pv_i x1), some (pv_i (nI t)), some (pv_i (nI (cn_ (fun c => decide (ra_T I m c 6 = 2) && ahd_ (fun t => ra_T I m t 8) c t) c) + 1)), some (pv_i (nI (c + 1)))] [] B I Q := fun q => by
      rw [if_pos (by rw [Bool.and_eq_true]; exact ⟨decide_eq_true q.1, decide_eq_true q.2⟩)] at ih
      rw [nI_1]
      exact ih
    refine wq_X11_restingAt_31 RK ⟨fun q => absurd q (nI_done hn h4 (by omega)), fun _ => ⟨c, ⟨rfl, by omega⟩, ?_⟩⟩
    refine ⟨fun q => fl (fun z => q z.1), fun q => ⟨t, ⟨rfl, by omega⟩, fun q2 => tr ⟨q, Or.inl q2⟩, fun q2 => ⟨fun q3 => fl (fun z => z.2.elim q2 (fun y => q3 y.1)), fun q3 => ⟨fun q4 => fl (fun z => z.2.elim q2 (fun y => absurd q4 (nI_ge y.2 (by omega)))), fun q4 => tr ⟨q, Or.inr ⟨q3, ?_⟩⟩⟩⟩⟩⟩
    rcases Nat.lt_or_ge c t with y | y
    · exact y
    · exact absurd (nI_le y (by omega)) q4
theorem rc_res2 (RK : rf_ok B m) (hn : I (m + 1) 1 = nI n) (h4 : n ≤ 400) {x1 : Int32} {Q : Int32 → fI → Prop} : ∀ (j t : Nat), t + j = n → Q (io_ (fi_ (fun t => decide (ra_T I m t 6 = 2) && decide (nI (cn_ (fun c => decide (ra_T I m c 6 = 2) && ahd_ (fun t => ra_T I m t 8) c t) n) = x1)) j t)) I → rw_i mt_X11_restingAt 2 [some (pv_r m), some (pv_i x1), some (pv_i (nI t)), none, none] [] B I Q
  | 0, t, hc, K => by
    have : t = n := by omega
    subst this
    exact wq_X11_restingAt_2 RK ⟨fun _ => K, fun q => absurd (nI_end hn) q⟩
  | j + 1, t, hc, K => by
    have ih := rc_res2 RK hn h4 (x1 := x1) (Q := Q) j (t + 1) (by omega)
    unfold fi_ at K
    refine wq_X11_restingAt_2 RK ⟨fun q => absurd q (nI_done hn h4 (by omega)), fun _ => ⟨t, ⟨rfl, by omega⟩, fun q => ?_, fun q => ?_⟩⟩
    · refine rc_res31 RK hn h4 (by omega) (fun z => ih ?_) (fun z => ?_) n 0 (by omega)
      · rw [if_neg (fun y => z (by rw [Bool.and_eq_true] at y; exact of_decide_eq_true y.2))] at K
        exact K
      · rw [if_pos (by rw [Bool.and_eq_true]; exact ⟨decide_eq_true q, decide_eq_true z⟩)] at K
        exact K
    · refine ih ?_
      rw [if_neg (fun y => q (by rw [Bool.and_eq_true] at y; exact of_decide_eq_true y.1))] at K
      exact K
theorem rc_end31 (RK : rf_ok B m) (hn : I (m + 1) 1 = nI n) (h4 : n ≤ 400) {x1 : Int32} {t : Nat} (ht : t < n) {Q : Int32 → fI → Prop} (K1 : ¬ nI (cn_ (fun c => decide (ra_T I m c 6 = 3) && ahd_ (fun t => ra_T I m t 11) c t) n) = x1 → rw_i mt_X11_ending 2 [some (pv_r m), some (pv_i x1), some (pv_i (nI (t + 1))), none, none] [] B I Q) (K2 : nI (cn_ (fun c => decide (ra_T I m c 6 = 3) && ahd_ (fun t => ra_T I m t 11) c t) n) = x1 → Q (nI t) I) : ∀ (j c : Nat), c + j = n → rw_i mt_X11_ending 31 [some (pv_r m), some (pv_i x1), some (pv_i (nI t)), some (pv_i (nI (cn_ (fun c => decide (ra_T I m c 6 = 3) && ahd_ (fun t => ra_T I m t 11) c t) c))), some (pv_i (nI c))] [] B I Q
  | 0, c, hc => by
    have : c = n := by omega
    subst this
    refine wq_X11_ending_31 RK ⟨fun _ => ⟨fun q => by rw [nI_1]; exact K1 q, K2⟩, fun q => absurd (nI_end hn) q⟩
  | j + 1, c, hc => by
    have ih := rc_end31 RK hn h4 ht K1 K2 j (c + 1) (by omega)
    have es : cn_ (fun c => decide (ra_T I m c 6 = 3) && ahd_ (fun t => ra_T I m t 11) c t) (c + 1) = cn_ (fun c => decide (ra_T I m c 6 = 3) && ahd_ (fun t => ra_T I m t 11) c t) c + if (decide (ra_T I m c 6 = 3) && ahd_ (fun t => ra_T I m t 11) c t) = true then 1 else 0 := rfl
    rw [es] at ih
    have fl : ¬ (ra_T I m c 6 = 3 ∧ (ra_T I m c 11 < ra_T I m t 11 ∨ (ra_T I m c 11 = ra_T I m t 11 ∧ c < t))) → rw_i mt_X11_ending 31 [some (pv_r m), some (pv_i x1), some (pv_i (nI t)), some (pv_i (nI (cn_ (fun c => decide (ra_T I m c 6 = 3) && ahd_ (fun t => ra_T I m t 11) c t) c) + 0)), some (pv_i (nI (c + 1)))] [] B I Q := fun q => by
      rw [if_neg (fun z => q (by rw [Bool.and_eq_true] at z; exact ⟨of_decide_eq_true z.1, of_decide_eq_true z.2⟩))] at ih
      rw [nI_a0]
      exact ih
    have tr : (ra_T I m c 6 = 3 ∧ (ra_T I m c 11 < ra_T I m t 11 ∨ (ra_T I m c 11 = ra_T I m t 11 ∧ c < t))) → rw_i mt_X11_ending 31 [some (pv_r m), some (pv_i x1), some (pv_i (nI t)), some (pv_i (nI (cn_ (fun c => decide (ra_T I m c 6 = 3) && ahd_ (fun t => ra_T I m t 11) c t) c) + 1)), some (pv_i (nI (c + 1)))] [] B I Q := fun q => by
      rw [if_pos (by rw [Bool.and_eq_true]; exact ⟨decide_eq_true q.1, decide_eq_true q.2⟩)] at ih
      rw [nI_1]
      exact ih
    refine wq_X11_ending_31 RK ⟨fun q => absurd q (nI_done hn h4 (by omega)), fun _ => ⟨c, ⟨rfl, by omega⟩, ?_⟩⟩
    refine ⟨fun q => fl (fun z => q z.1), fun q => ⟨t, ⟨rfl, by omega⟩, fun q2 => tr ⟨q, Or.inl q2⟩, fun q2 => ⟨fun q3 => fl (fun z => z.2.elim q2 (fun y => q3 y.1)), fun q3 => ⟨fun q4 => fl (fun z => z.2.elim q2 (fun y => absurd q4 (nI_ge y.2 (by omega)))), fun q4 => tr ⟨q, Or.inr ⟨q3, ?_⟩⟩⟩⟩⟩⟩
    rcases Nat.lt_or_ge c t with y | y
    · exact y
    · exact absurd (nI_le y (by omega)) q4
theorem rc_end2 (RK : rf_ok B m) (hn : I (m + 1) 1 = nI n) (h4 : n ≤ 400) {x1 : Int32} {Q : Int32 → fI → Prop} : ∀ (j t : Nat), t + j = n → Q (io_ (fi_ (fun t => decide (ra_T I m t 6 = 3) && decide (nI (cn_ (fun c => decide (ra_T I m c 6 = 3) && ahd_ (fun t => ra_T I m t 11) c t) n) = x1)) j t)) I → rw_i mt_X11_ending 2 [some (pv_r m), some (pv_i x1), some (pv_i (nI t)), none, none] [] B I Q
  | 0, t, hc, K => by
    have : t = n := by omega
    subst this
    exact wq_X11_ending_2 RK ⟨fun _ => K, fun q => absurd (nI_end hn) q⟩
  | j + 1, t, hc, K => by
    have ih := rc_end2 RK hn h4 (x1 := x1) (Q := Q) j (t + 1) (by omega)
    unfold fi_ at K
    refine wq_X11_ending_2 RK ⟨fun q => absurd q (nI_done hn h4 (by omega)), fun _ => ⟨t, ⟨rfl, by omega⟩, fun q => ?_, fun q => ?_⟩⟩
    · refine rc_end31 RK hn h4 (by omega) (fun z => ih ?_) (fun z => ?_) n 0 (by omega)
      · rw [if_neg (fun y => z (by rw [Bool.and_eq_true] at y; exact of_decide_eq_true y.2))] at K
        exact K
      · rw [if_pos (by rw [Bool.and_eq_true]; exact ⟨decide_eq_true q, decide_eq_true z⟩)] at K
        exact K
    · refine ih ?_
      rw [if_neg (fun y => q (by rw [Bool.and_eq_true] at y; exact of_decide_eq_true y.1))] at K
      exact K
theorem sm_resting (h : ix_ I m n T W P L) {x1 : Int32} : ∃ v, sm_ I m n T W P L (v, I) (fun M Q => cs_i mt_X10_resting [pv_r 5, pv_i x1] M Q) (fun B J Q => rs_i mt_X11_resting [pv_r m, pv_i x1] B J Q) := by
  have h4 := ix_4 h
  refine qu_ (v := io_ (fi_ (fun t => decide (ra_T I m t 6 = 2) && decide (nI (cn_ (fun c => decide (ra_T I m c 6 = 2) && ahd_ (fun t => ra_T I m t 8) c t) n) = x1)) n 0)) h (fun M ta tm Q hr K => ?_) (fun S E B Q hS RK hJ K => ?_)
  · refine wc_X10_resting_0 (re_m5 hr) ?_
    rw [(re_bk hr).1]
    have ie : ∀ t, iof_ I m 2 none t = decide (ra_T I m t 6 = 2) := fun t => by unfold iof_; simp
    refine ⟨(re_bk hr).2, cb_kth (o := none) (od := fun t => ra_T I m t 8) hr.1.2.1 (by decide) (fun l q => by cases q) (fun t ht hi => ?_) (ce_number hr (fun t e => by have := (fi_lt e).1; omega) ?_)⟩
    · rw [ie] at hi
      have h6 := of_decide_eq_true hi
      have e7 : mm_i M (ta t) 7 = 2 := (hr.1.2.2.1.1 t ht).2.1.2.2.2.2.1.trans h6
      unfold ordv
      rw [if_pos e7]
      refine (hr.1.2.2.1.1 t ht).2.2.1.1 ?_
      rcases h.1.2.2.1.2.1 t ht with ⟨-, d, hd, z⟩ | ⟨z, -⟩
      · rw [z]; exact nI_nm (by omega)
      · exact absurd h6 z
    · have e : (fun t => iof_ I m 2 none t && decide (nI (cn_ (fun c => iof_ I m 2 none c && ahd_ (fun t => ra_T I m t 8) c t) n) = x1)) = (fun t => decide (ra_T I m t 6 = 2) && decide (nI (cn_ (fun c => decide (ra_T I m c 6 = 2) && ahd_ (fun t => ra_T I m t 8) c t) n) = x1)) := by
        funext t
        simp only [ie]
      rw [e]
      exact K
  · have eT : ∀ t f, ra_T (pt_ S E I) m t f = ra_T I m t f := fun t f => nt_T (uf_us hS)
    refine wq_X11_resting_0 RK ⟨fun c => wq_X11_restingAt_0 RK (rc_res2 RK (ix_1 hJ) h4 n 0 (by omega) ?_), fun c => ?_⟩
    · simp only [eT]
      exact K
    · have e : fi_ (fun t => decide (ra_T I m t 6 = 2) && decide (nI (cn_ (fun c => decide (ra_T I m c 6 = 2) && ahd_ (fun t => ra_T I m t 8) c t) n) = x1)) n 0 = none := by
        cases hq : fi_ (fun t => decide (ra_T I m t 6 = 2) && decide (nI (cn_ (fun c => decide (ra_T I m c 6 = 2) && ahd_ (fun t => ra_T I m t 8) c t) n) = x1)) n 0 with
        | none => rfl
        | some t =>
          have z := (fi_lt hq).2
          rw [Bool.and_eq_true] at z
          have z2 := of_decide_eq_true z.2
          have := cn_le (fun c => decide (ra_T I m c 6 = 2) && ahd_ (fun t => ra_T I m t 8) c t) n
          exact absurd (by rw [← z2]; exact Int32.not_lt.mp (nI_pos (by omega))) c
      rw [e] at K
      exact K
theorem sm_ending (h : ix_ I m n T W P L) {x1 : Int32} : ∃ v, sm_ I m n T W P L (v, I) (fun M Q => cs_i mt_X10_ending [pv_r 5, pv_i x1] M Q) (fun B J Q => rs_i mt_X11_ending [pv_r m, pv_i x1] B J Q) := by
  have h4 := ix_4 h
  refine qu_ (v := io_ (fi_ (fun t => decide (ra_T I m t 6 = 3) && decide (nI (cn_ (fun c => decide (ra_T I m c 6 = 3) && ahd_ (fun t => ra_T I m t 11) c t) n) = x1)) n 0)) h (fun M ta tm Q hr K => ?_) (fun S E B Q hS RK hJ K => ?_)
  · refine wc_X10_ending_0 (re_m5 hr) ?_
    rw [(re_bk hr).1]
    have ie : ∀ t, iof_ I m 3 none t = decide (ra_T I m t 6 = 3) := fun t => by unfold iof_; simp
    refine ⟨(re_bk hr).2, cb_kth (o := none) (od := fun t => ra_T I m t 11) hr.1.2.1 (by decide) (fun l q => by cases q) (fun t ht hi => ?_) (ce_number hr (fun t e => by have := (fi_lt e).1; omega) ?_)⟩
    · rw [ie] at hi
      have h6 := of_decide_eq_true hi
      have e7 : mm_i M (ta t) 7 = 3 := (hr.1.2.2.1.1 t ht).2.1.2.2.2.2.1.trans h6
      unfold ordv
      rw [if_neg (by rw [e7]; decide), if_pos e7]
      refine (hr.1.2.2.1.1 t ht).2.2.1.2.2 ?_
      rcases h.1.2.2.1.1 t ht with ⟨-, w, k, en, -, -, -, -, -, he, z⟩ | ⟨z, -⟩
      · rw [z]; exact nI_nm (by omega)
      · exact absurd h6 z
    · have e : (fun t => iof_ I m 3 none t && decide (nI (cn_ (fun c => iof_ I m 3 none c && ahd_ (fun t => ra_T I m t 11) c t) n) = x1)) = (fun t => decide (ra_T I m t 6 = 3) && decide (nI (cn_ (fun c => decide (ra_T I m c 6 = 3) && ahd_ (fun t => ra_T I m t 11) c t) n) = x1)) := by
        funext t
        simp only [ie]
      rw [e]
      exact K
  · have eT : ∀ t f, ra_T (pt_ S E I) m t f = ra_T I m t f := fun t f => nt_T (uf_us hS)
    refine wq_X11_ending_0 RK (rc_end2 RK (ix_1 hJ) h4 n 0 (by omega) ?_)
    simp only [eT]
    exact K
end Pub19
