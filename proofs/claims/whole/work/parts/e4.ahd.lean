/-! ahead, turnOf -/
section Ahd
variable {B M M' : mm_T} {I J N E : Nat → Nat → Int32} {m n T W P L : Nat} {ta tm tc : Nat → Nat} {S : Nat → Nat → Bool}
/-- the trial's board, for paper ints J beside the true ones I -/
def pB_ (M : mm_T) (I J : fI) (m n : Nat) (ta tm tc : Nat → Nat) : Prop := re_ M I m n ta tm ∧ br_ M 18 tc J m n ∧ (∀ t, t < n → sd_ (sgI J m t) = true → 31 ≤ tc t ∧ tc t < 79) ∧ rk_ok J m n ∧ wz_ J m n
theorem br_row (h : br_ M 18 tc I m n) (hJ : ∀ j, J (m + 1) j = I (m + 1) j) : br_ M 18 tc J m n := br_o h (fun _ _ => rfl) (fun _ _ _ => rfl) (fun _ _ _ _ _ => rfl) (fun _ => rfl) (fun _ _ => rfl) rfl (fun _ _ _ _ => rfl) (fun _ _ => rfl) (fun j _ => hJ j) (fun l f _ _ => hJ _) (fun t f _ _ => hJ _)
theorem rk_row (h : rk_ok I m n) (hT : ∀ t, t < n → ra_T J m t 1 = ra_T I m t 1 ∧ ra_T J m t 5 = ra_T I m t 5) (h4 : J (m + 1) 4 = I (m + 1) 4) : rk_ok J m n := fun t ht => by
  have e : ra_rank J m t = ra_rank I m t := by
    unfold ra_rank
    rw [show J (m + 1) (200 + 14 * t + 1) = I (m + 1) (200 + 14 * t + 1) from (hT t ht).1, show J (m + 1) (200 + 14 * t + 5) = I (m + 1) (200 + 14 * t + 5) from (hT t ht).2, h4]
  rw [e]
  exact h t ht
theorem wz_row (h : wz_ I m n) (hT : ∀ t, t < n → ra_T J m t 2 = ra_T I m t 2) (hL : ∀ l, l < 5 → ra_L J m l 0 = ra_L I m l 0) : wz_ J m n := ⟨fun l q => by rw [hL l q]; exact h.1 l q, fun t q => by rw [hT t q]; exact h.2 t q⟩
theorem pB_0 (h : pB_ M I J m n ta tm tc) : ∀ t, t < n → sd_ (sgI J m t) = true → tc t ≠ 0 := fun t q1 q2 => by have := (h.2.2.1 t q1 q2).1; omega
/-- serving on the trial's board -/
theorem pB_serve (h : pB_ M I J m n ta tm tc) {x1 : Int32} {Q : Nat → mm_T → Prop} (K0 : ra_lane J m n x1 = none → Q 0 M) (K : ∀ l t M', ra_lane J m n x1 = some l → l < 5 → ra_first J m n (nI l) = some t → t < n → ra_T J m t 0 = nI l → ra_T J m t 6 = 0 → 31 ≤ tc t → tc t < 79 → mm_k M' (tc t) = (6, 17) → mm_i M' (tc t) 0 = nI t → fx_ (awI 18 l (tc t)) (fun p _ => p = 21) M M' → pB_ M' I (sp_srv J m t l) m n ta tm tc → Q (tc t) M') : cs_r mt_X0_serve [pv_r 18, pv_i x1] M Q := by
  refine cb_serve h.2.1 h.2.2.2.1 h.2.2.2.2 (pB_0 h) K0 (fun l t M' e1 e2 e3 e4 e5 e6 hB hT hO f => ?_)
  have hst : sd_ (sgI J m t) = true := sd_3 (Or.inl e6)
  have g := h.2.2.1 t e4 hst
  refine K l t M' e1 e2 e3 e4 e5 e6 g.1 g.2 hT.1 hT.2.1 f ⟨re_z h.1 (fx_up f (fun a j q => ?_) (fun a j q => ?_)), hB, fun x q1 q2 => ?_, rk_row h.2.2.2.1 (fun x _ => ⟨srv_T e2 (by decide) (by decide), srv_T e2 (by decide) (by decide)⟩) (srv_o (by omega)), wz_row h.2.2.2.2 (fun x _ => srv_T e2 (by decide) (by decide)) (fun l' q => srv_o (by omega))⟩
  · unfold awI chI at q
    unfold zI_
    omega
  · unfold zR_
    omega
  · by_cases z : x = t
    · rw [z]; exact g
    · refine h.2.2.1 x q1 ?_
      have e : sgI (sp_srv J m t l) m x = sgI J m x := by
        show ra_T (sp_srv J m t l) m x 6 = ra_T J m x 6
        rw [srv_6 e2, if_neg z]
      rw [← e]
      exact q2
theorem i48 {i : Nat} (h : i < 48) : ¬ (48 : Int32) ≤ nI i := by
  show ¬ nI 48 ≤ nI i
  exact nI_ge h (by decide)
theorem ce_tkn {x1 : Int32} {Q : Int32 → mm_T → Prop} : ∀ (j i f : Nat) {M : mm_T} {J : fI}, i + j = 48 → pB_ M I J m n ta tm tc → wc_n J m n ≤ j → wc_n J m n < f → (∀ M', re_ M' I m n ta tm → Q (ton_ m n x1 (-1) f i J) M') → cw_i mt_X8_takenAt 7 [some (pv_r 17), some (pv_r 6), some (pv_i x1), some (pv_i (nI i)), none] [] M Q
  | 0, i, f, M, J, hi, h, hw, hf, K => by
    have : i = 48 := by omega
    subst this
    have K := K M h.1
    rw [ton_0 (by omega)] at K
    exact wc_X8_takenAt_7 (re_17 h.1).1 ⟨fun _ => K, fun q => absurd (Int32.le_refl _) q⟩
  | j + 1, i, 0, M, J, hi, h, hw, hf, K => by omega
  | j + 1, i, f + 1, M, J, hi, h, hw, hf, K => by
    have h4 := re_4 h.1
    unfold ton_ at K
    refine wc_X8_takenAt_7 (re_17 h.1).1 ⟨fun q => absurd q (i48 (by omega)), fun _ => ?_⟩
    rw [(re_17 h.1).2.1]
    refine ⟨(re_17 h.1).2.2.2.2.2.2.2.1, pB_serve h (fun e => ?_) (fun l t M' e1 e2 e3 e4 e5 e6 g1 g2 k1 k2 ff h' => ?_)⟩
    · have K := K M h.1
      rw [e] at K
      exact ⟨fun q => absurd rfl q, fun _ => K⟩
    · have hwc := srv_wc e2 e4 e6
      rw [e1] at K
      simp only [e3] at K
      rw [if_neg (nI_nm (by omega))] at K
      refine ⟨fun _ => ⟨fun q => ?_, fun q => ⟨k1, ?_⟩⟩, fun q => absurd q (by omega)⟩
      · rw [if_neg q] at K
        rw [nI_1]
        exact ce_tkn j (i + 1) f (by omega) h' (by omega) (by omega) K
      · rw [if_pos q] at K
        rw [k2]
        exact K M' h'.1
theorem ce_trn {t0 a4 a5 : Nat} (ht0 : t0 < n) {a3 : Nat} {Q : Int32 → mm_T → Prop} : ∀ (j i f : Nat) {M : mm_T} {J : fI}, i + j = 48 → pB_ M I J m n ta tm tc → wc_n J m n ≤ j → wc_n J m n < f → (∀ M', re_ M' I m n ta tm → Q (ton_ m n (-1) (nI t0) f i J) M') → cw_i mt_X8_turnIn 65 [some (pv_r 17), some (pv_r 6), some (pv_r (ta t0)), some (pv_r a3), some (pv_r a4), some (pv_r a5), some (pv_i (nI i)), none] [] M Q
  | 0, i, f, M, J, hi, h, hw, hf, K => by
    have : i = 48 := by omega
    subst this
    have K := K M h.1
    rw [ton_0 (by omega)] at K
    exact wc_X8_turnIn_65 (re_17 h.1).1 ⟨fun _ => K, fun q => absurd (Int32.le_refl _) q⟩
  | j + 1, i, 0, M, J, hi, h, hw, hf, K => by omega
  | j + 1, i, f + 1, M, J, hi, h, hw, hf, K => by
    have h4 := re_4 h.1
    unfold ton_ at K
    refine wc_X8_turnIn_65 (re_17 h.1).1 ⟨fun q => absurd q (i48 (by omega)), fun _ => ?_⟩
    rw [(re_17 h.1).2.1]
    refine ⟨(re_17 h.1).2.2.2.2.2.2.2.1, pB_serve h (fun e => ?_) (fun l t M' e1 e2 e3 e4 e5 e6 g1 g2 k1 k2 ff h' => ?_)⟩
    · have K := K M h.1
      rw [e] at K
      exact ⟨fun q => absurd rfl q, fun _ => K⟩
    · have hwc := srv_wc e2 e4 e6
      rw [e1] at K
      simp only [e3] at K
      refine ⟨fun _ => ⟨k1, (re_ge h'.1 ht0).2, ?_⟩, fun q => absurd q (by omega)⟩
      rw [k2, (h'.1.1.2.2.1.1 t0 ht0).1.2.2.1]
      refine ⟨fun q => ?_, fun q => ?_⟩
      · rw [if_neg q, if_neg (nI_nm (by omega))] at K
        rw [nI_1]
        exact ce_trn ht0 j (i + 1) f (by omega) h' (by omega) (by omega) K
      · rw [if_pos q] at K
        exact K M' h'.1
theorem wc_le (h : ix_ I m n T W P L) : wc_n I m n ≤ 48 := by
  refine Nat.le_trans (cn_sub (fun t ht q => ?_)) h.2.1.2.2.1
  have q := of_decide_eq_true q
  exact decide_eq_true ⟨Or.inl rfl, by rw [q]; decide⟩
theorem wc_row (hJ : ∀ t, t < n → ra_T J m t 6 = ra_T I m t 6) : wc_n J m n = wc_n I m n := cn_eq (fun t ht => by rw [hJ t ht])
/-- after load -/
theorem pB_load (h : ix_ I m n T W P L) (hr : re_ M I m n ta tm) {M1 : mm_T} (f : fx_ zI_ zR_ M M1) (hB : br_ M1 18 (tc_n I m) I m n) (hT : ∀ t, t < n → sd_ (sgI I m t) = true → 31 ≤ tc_n I m t ∧ tc_n I m t < 79 ∧ tX_ M M1 I m ta (tc_n I m t) t) : pB_ M1 I (bg_ I m) m n ta tm (tc_n I m) := by
  have e6 : ∀ t, sgI (bg_ I m) m t = sgI I m t := fun t => bg_r
  exact ⟨re_z hr f, br_row hB (fun j => bg_r), fun t q1 q2 => by
    rw [e6] at q2
    exact ⟨(hT t q1 q2).1, (hT t q1 q2).2.1⟩, rk_row (ix_rk h) (fun t _ => ⟨bg_r, bg_r⟩) bg_r, wz_row (ix_wz h) (fun t _ => bg_r) (fun l _ => bg_r)⟩
theorem sq_ahead (h : ix_ I m n T W P L) {x1 : Int32} : ∃ v, sq_ I m n v (fun M Q => cs_i mt_X10_ahead [pv_r 5, pv_i x1] M Q) (fun B J Q => rs_i mt_X11_ahead [pv_r m, pv_i x1] B J Q) := by
  have h4 := ix_4 h
  have hwl := wc_le h
  have hwb : wc_n (bg_ I m) m n = wc_n I m n := wc_row (fun t _ => bg_r)
  refine ⟨if 0 ≤ x1 then ton_ m n x1 (-1) 401 0 (bg_ I m) else -1, fun M ta tm Q hr K => ?_, fun S E B Q hS RK K => ?_⟩
  · refine wc_X10_ahead_0 (re_m5 hr) ⟨fun c => ?_, fun c => ?_⟩
    · rw [if_neg (Int32.not_le.mpr c)] at K
      exact K M hr
    · rw [if_pos (Int32.not_lt.mp c)] at K
      obtain ⟨b1, b2⟩ := re_bk hr
      obtain ⟨s1, s2, s3, s4, s5, s6, s7, s8, s9, -⟩ := br_S hr.1.2.1
      have cnt : mm_i M (6 + 4) 0 = nI (wc_n I m n) := hr.1.2.1.1.2.2.2.1 0 (by decide)
      rw [b1, s8, cnt, hr.1.1.1.2.2.1]
      refine ⟨b2, 7, s9, by decide, fun c2 => ⟨(re_17 hr).1, wc_X8_takenAt_0 (re_17 hr).1 (ce_load hr (fun M1 f hB hT => ?_))⟩, fun c2 => ?_⟩
      · exact ce_tkn 48 0 401 rfl (pB_load h hr f hB hT) (by omega) (by omega) K
      · obtain ⟨k, hk, rfl⟩ := nI_of c
        rw [nI_ltI hk (by omega)] at c2
        rw [ton_big hk 401 0 (by omega) h4 (by omega)] at K
        exact K M hr
  · refine wq_X11_ahead_0 RK ⟨fun c => rc_begins RK ?_, fun c => ?_⟩
    · rw [if_pos c] at K
      have hJ := ix_pt (E := E) h hS
      have n1 : bg_ (pt_ S E I) m (m + 1) 1 = nI n := bg_r.trans (ix_1 hJ)
      refine wq_X11_takenOn_0 RK (rc_theLane RK n1 h4 (rc_ton RK h4 401 0 n1 (fun l q => ?_) ?_ (fun J' hJ' => rc_ends RK ?_)))
      · rw [show ra_L (bg_ (pt_ S E I) m) m l 0 = ra_L (pt_ S E I) m l 0 from bg_r]
        obtain ⟨a, a1, a2, a3⟩ := (hJ.1.2.1.1 l q).1
        rw [a3]
        exact nI_ne0 (by omega) (by omega)
      · have e : wc_n (bg_ (pt_ S E I) m) m n = wc_n (pt_ S E I) m n := wc_row (fun t _ => bg_r)
        have := wc_le hJ
        omega
      · rw [nt_bg hS, nt_ton hS]
        rw [nt_bg hS] at hJ'
        obtain ⟨I', q1, q2⟩ := sc_pt hS (sc_ed (ix_8 hJ) (pf_tf (pf_bg (I := pt_ S E I)) (by rw [nt_bg hS]; exact hJ')))
        rw [q2]
        exact K I' q1
    · rw [if_neg c] at K
      exact K I sc_rf
end Ahd
