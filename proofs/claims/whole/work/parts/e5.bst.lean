/-! turnOf, bestLane -/
section Bst
variable {B M M' : mm_T} {I J N E : Nat → Nat → Int32} {m n T W P L : Nat} {ta tm tc : Nat → Nat} {S : Nat → Nat → Bool}
/-! what reads the row alone -/
theorem lane_row (e : J (m + 1) = I (m + 1)) {x : Int32} : ra_lane J m n x = ra_lane I m n x := by
  unfold ra_lane ra_may ra_ps ra_live ra_wt ra_many ra_L ra_T
  simp only [e]
theorem first_row (e : J (m + 1) = I (m + 1)) {x : Int32} : ra_first J m n x = ra_first I m n x := by
  unfold ra_first ra_wt ra_ah ra_rank ra_T
  simp only [e]
theorem srv_row (e : J (m + 1) = I (m + 1)) {t l : Nat} : sp_srv J m t l (m + 1) = sp_srv I m t l (m + 1) := by
  funext j
  unfold sp_srv sp_pass i2_u
  simp only [e]
theorem up_row (e : J (m + 1) = I (m + 1)) {l : Nat} : ra_up J m n l = ra_up I m n l := by
  unfold ra_up
  rw [lane_row e]
  unfold ra_L
  simp only [e]
theorem live_row (e : J (m + 1) = I (m + 1)) {x : Int32} : ra_live J m n x = ra_live I m n x := by
  unfold ra_live ra_wt ra_T
  simp only [e]
theorem wt_row (e : J (m + 1) = I (m + 1)) {t : Nat} : sp_wt J m n t (m + 1) = sp_wt I m n t (m + 1) := by
  have e0 : ra_T J m t 0 = ra_T I m t 0 := by unfold ra_T; rw [e]
  unfold sp_wt
  rw [e0]
  unfold ra_wait
  rw [live_row e, up_row e]
  funext j
  rw [i2_at, i2_at]
  split
  · rfl
  · split
    · rw [e]
    · rw [i2_at, i2_at, e]
theorem mv_row (e : J (m + 1) = I (m + 1)) {t l : Nat} : sp_mv J m n t l (m + 1) = sp_mv I m n t l (m + 1) := by
  have e6 : ra_T J m t 6 = ra_T I m t 6 := by unfold ra_T; rw [e]
  unfold sp_mv
  rw [e6]
  split
  · refine wt_row ?_
    unfold sp_mu
    funext j
    rw [i2_at, i2_at, i2_at, i2_at, e]
  · funext j
    rw [i2_at, i2_at, e]
theorem ton_row {x1 x2 : Int32} : ∀ (f i : Nat) {J I : fI}, J (m + 1) = I (m + 1) → ton_ m n x1 x2 f i J = ton_ m n x1 x2 f i I
  | 0, _, _, _, _ => rfl
  | f + 1, i, J, I, e => by
    unfold ton_
    rw [lane_row e]
    cases hl : ra_lane I m n 0 with
    | none => rfl
    | some l =>
      simp only
      rw [first_row e]
      cases hf : ra_first I m n (nI l) with
      | none => rfl
      | some t =>
        simp only
        rw [ton_row f (i + 1) (srv_row (t := t) (l := l) e)]
theorem ton_lt {t0 : Nat} : ∀ (f i : Nat) {J : fI}, n ≤ 400 → i + f ≤ 1000 → ton_ m n (-1) (nI t0) f i J < 2000000000
  | 0, _, _, _, _ => by
    show (-1 : Int32) < 2000000000
    decide
  | f + 1, i, J, hn, hf => by
    unfold ton_
    cases hl : ra_lane J m n 0 with
    | none =>
      show (-1 : Int32) < 2000000000
      decide
    | some l =>
      simp only
      cases ht : ra_first J m n (nI l) with
      | none =>
        show (-1 : Int32) < 2000000000
        decide
      | some t =>
        simp only
        split
        · show nI i < nI 2000000000
          exact nI_lt (by omega) (by decide)
        · rw [if_neg (nI_nm (by omega))]
          exact ton_lt f (i + 1) hn (by omega)
/-- how many are ahead of it, in a lane -/
def trn_ (I : fI) (m n t l : Nat) : Int32 := ton_ m n (-1) (nI t) 401 0 (if lmI I m t = l then bg_ I m else sp_mv (bg_ I m) m n t l)
theorem trn_row (e : J (m + 1) = I (m + 1)) {t l : Nat} : trn_ J m n t l = trn_ I m n t l := by
  have e0 : lmI J m t = lmI I m t := by unfold lmI ra_T; rw [e]
  have eb : bg_ J m (m + 1) = bg_ I m (m + 1) := by
    funext j
    rw [bg_r, bg_r, e]
  unfold trn_
  rw [e0]
  split
  · exact ton_row _ _ eb
  · exact ton_row _ _ (mv_row eb)
theorem ce_turnIn (h : ix_ I m n T W P L) (hr : re_ M I m n ta tm) {t l : Nat} (ht : t < n) (h6 : ra_T I m t 6 = 0) (hl : l < 5) {Q : Int32 → mm_T → Prop} (K : ∀ M', re_ M' I m n ta tm → Q (trn_ I m n t l) M') : cs_i mt_X8_turnIn [pv_r 17, pv_r 6, pv_r (ta t), pv_r (12 + l)] M Q := by
  have h4 := ix_4 h
  have hwl := wc_le h
  have hwb : wc_n (bg_ I m) m n = wc_n I m n := wc_row (fun t _ => bg_r)
  have hst : sd_ (sgI (bg_ I m) m t) = true := by
    rw [show sgI (bg_ I m) m t = ra_T I m t 6 from bg_r, h6]
    decide
  have lb : lmI (bg_ I m) m t = lmI I m t := by
    show (ra_T (bg_ I m) m t 0).toNatClampNeg = _
    rw [show ra_T (bg_ I m) m t 0 = ra_T I m t 0 from bg_r]
    rfl
  unfold trn_ at K
  refine wc_X8_turnIn_0 (re_17 hr).1 (ce_load hr (fun M1 f hB hT => ?_))
  have pB := pB_load h hr f hB hT
  have g := pB.2.2.1 t ht hst
  have h1 := pB.1
  refine ⟨(re_ge h1 ht).2, ?_⟩
  rw [(re_17 h1).2.1]
  refine ⟨(re_17 h1).2.2.2.2.2.2.2.1, cb_number pB.2.1 ht hst (h1.1.2.2.1.1 t ht).1.2.2.1 ?_⟩
  have kl := br_ln h1.1.2.1 hl
  rw [(re_17 h1).2.1]
  refine ⟨kl.1, (re_17 h1).2.2.2.2.2.2.2.1, ?_⟩
  rw [show mm_i M1 (12 + l) 0 = nI l from kl.2.2]
  refine cb_laneAt (re_17 h1).2.2.2.2.2.2.2 (fun l' hl' e => ?_) (fun q => absurd (in_4' hl) q)
  have : l = l' := (nI_eq (by omega) (by omega)).mp e
  subst this
  obtain ⟨c1, c2, c3, c4, c5⟩ := br_tc pB.2.1 ht hst
  rw [lb] at c4 c5
  rw [c4, (re_17 h1).2.1]
  refine ⟨fun q => absurd q (by omega), fun _ => ⟨fun q => absurd q (by omega), fun _ => ⟨c1, Or.inr ⟨3, by decide, (br_ln pB.2.1 c5).1⟩, Or.inr ⟨3, by decide, (br_ln pB.2.1 hl).1⟩, fun q => ?_, fun q => ⟨(re_17 h1).2.2.2.2.2.2.2.1, ?_⟩⟩⟩⟩
  · rw [if_pos (by omega)] at K
    exact ce_trn ht 48 0 401 rfl pB (by omega) (by omega) K
  · have ne : ¬ lmI I m t = l := fun z => q (by rw [z])
    rw [if_neg ne] at K
    refine cb_transfer pB.2.1 ht hst hl (fun z => ne (by rw [lb] at z; exact z.symm)) (fun M' hB' hO hr' F => ?_)
    have mT : ∀ x f, f < 14 → f ≠ 0 → ra_T (sp_mv (bg_ I m) m n t l) m x f = ra_T (bg_ I m) m x f := fun x f q1 q2 => by rw [mv_T hl q1, if_neg (fun y => q2 y.2)]
    have pB' : pB_ M' I (sp_mv (bg_ I m) m n t l) m n ta tm (tc_n I m) := by
      rw [lb] at F
      refine ⟨re_z h1 (fx_up F (fun a j y => by unfold tfI at y; unfold zI_; omega) (fun a j y => by unfold zR_; omega)), hB', fun x q1 q2 => pB.2.2.1 x q1 ?_, rk_row pB.2.2.2.1 (fun x _ => ⟨mT x 1 (by decide) (by decide), mT x 5 (by decide) (by decide)⟩) (mv_o hl (by omega)), wz_row pB.2.2.2.2 (fun x _ => mT x 2 (by decide) (by decide)) (fun l' y => mv_o hl (by omega))⟩
      rw [show sgI (sp_mv (bg_ I m) m n t l) m x = sgI (bg_ I m) m x from mT x 6 (by decide) (by decide)] at q2
      exact q2
    have hwm : wc_n (sp_mv (bg_ I m) m n t l) m n = wc_n (bg_ I m) m n := wc_row (fun x _ => mT x 6 (by decide) (by decide))
    exact ce_trn ht 48 0 401 rfl pB' (by omega) (by omega) K
/-! in the reference, from any ints that are I but for scratch -/
theorem ix_sc (h : ix_ I m n T W P L) (hs : sc_ m I J) : ix_ J m n T W P L := ix_o h (fun a j q1 q2 q3 q4 q5 q6 _ => hs.1 a j (by omega)) (by rw [hs.1 m 6 (by omega)]; exact ix_log h) hs.2
theorem sc_1 (hs : sc_ m I J) : J (m + 1) = I (m + 1) := funext (fun j => hs.1 _ _ (by omega))
theorem rc_own (RK : rf_ok B m) (h : ix_ I m n T W P L) {t : Nat} (ht : t < n) {Q : Int32 → fI → Prop} (K : ∀ J', sc_ m I J' → Q (trn_ I m n t (lmI I m t)) J') : rs_v mt_X11_begins [pv_r m] B I (fun I10 => rs_i mt_X11_takenOn [pv_r m, pv_i (-1 : Int32), pv_i (nI t)] B I10 (fun v12 I11 => rs_v mt_X11_ends [pv_r m] B I11 (fun I13 => Q v12 I13))) := by
  have h4 := ix_4 h
  have hwl := wc_le h
  have hwb : wc_n (bg_ I m) m n = wc_n I m n := wc_row (fun t _ => bg_r)
  have n1 : bg_ I m (m + 1) 1 = nI n := bg_r.trans (ix_1 h)
  unfold trn_ at K
  rw [if_pos rfl] at K
  refine rc_begins RK (wq_X11_takenOn_0 RK (rc_theLane RK n1 h4 (rc_ton RK h4 401 0 n1 (fun l q => ?_) (by omega) (fun J' hJ' => rc_ends RK ?_))))
  · rw [show ra_L (bg_ I m) m l 0 = ra_L I m l 0 from bg_r]
    obtain ⟨a, a1, a2, a3⟩ := (h.1.2.1.1 l q).1
    rw [a3]
    exact nI_ne0 (by omega) (by omega)
  · exact K _ (sc_ed (ix_8 h) (pf_tf pf_bg hJ'))
theorem mv_tf {t l : Nat} (ht : t < 400) (hl : l < 5) : tf_ m J (sp_mv J m n t l) := fun a j q1 _ _ => mv_o hl (by omega)
theorem rc_mvp (RK : rf_ok B m) (h : ix_ I m n T W P L) (hP : P < 2147483648) {t l : Nat} (ht : t < n) (hl : l < 5) {Q : fI → Prop} (K : Q (sp_mv (bg_ I m) m n t l)) : rs_v mt_X11_movesTo [pv_r m, pv_i (nI t), pv_i (nI l)] B (bg_ I m) Q := by
  have h4 := ix_4 h
  unfold sp_mv at K
  refine wq_X11_movesTo_0 RK ⟨t, ⟨rfl, by omega⟩, fun c I2 e => ?_, fun c I3 e3 I4 e4 => ?_⟩
  · rw [if_neg (show ¬ ra_T (bg_ I m) m t 6 = 0 from c)] at K
    rw [e]
    exact K
  · rw [if_pos (show ra_T (bg_ I m) m t 6 = 0 from c)] at K
    rw [e3] at e4
    have e4 : I4 = sp_mu (bg_ I m) m t l := e4
    rw [e4]
    have hb : rb_ (sp_mu (bg_ I m) m t l) m n (nI P) := by
      have r := ix_rb h hP
      refine ⟨(mu_o (by omega)).trans (bg_r.trans r.1), r.2.1, fun x q => ?_, fun l' q => ?_⟩
      · rw [mu_T (by decide)]
        by_cases z : x = t
        · rw [if_pos ⟨z, rfl⟩]; exact ⟨l, hl, rfl⟩
        · rw [if_neg (fun y => z y.1), if_neg (fun y => z y.1), show ra_T (bg_ I m) m x 0 = ra_T I m x 0 from bg_r]
          exact r.2.2.1 x q
      · rw [show ra_L (sp_mu (bg_ I m) m t l) m l' 4 = ra_L I m l' 4 from (mu_o (by omega)).trans bg_r]
        exact r.2.2.2 l' q
    exact rc_wt RK hb rfl ht K
theorem rc_oth (RK : rf_ok B m) (h : ix_ I m n T W P L) (hP : P < 2147483648) {t l : Nat} (ht : t < n) (hl : l < 5) (hne : ¬ lmI I m t = l) {Q : Int32 → fI → Prop} (K : ∀ J', sc_ m I J' → Q (trn_ I m n t l) J') : rs_v mt_X11_begins [pv_r m] B I (fun I5 => rs_v mt_X11_movesTo [pv_r m, pv_i (nI t), pv_i (nI l)] B I5 (fun I6 => rs_i mt_X11_takenOn [pv_r m, pv_i (-1 : Int32), pv_i (nI t)] B I6 (fun v8 I7 => rs_v mt_X11_ends [pv_r m] B I7 (fun I9 => Q v8 I9)))) := by
  have h4 := ix_4 h
  have hwl := wc_le h
  have hwb : wc_n (bg_ I m) m n = wc_n I m n := wc_row (fun t _ => bg_r)
  have hwm : wc_n (sp_mv (bg_ I m) m n t l) m n = wc_n (bg_ I m) m n := wc_row (fun x _ => by rw [mv_T hl (by decide), if_neg (by omega)])
  have n1 : sp_mv (bg_ I m) m n t l (m + 1) 1 = nI n := (mv_o hl (by omega)).trans (bg_r.trans (ix_1 h))
  unfold trn_ at K
  rw [if_neg hne] at K
  refine rc_begins RK (rc_mvp RK h hP ht hl (wq_X11_takenOn_0 RK (rc_theLane RK n1 h4 (rc_ton RK h4 401 0 n1 (fun l' q => ?_) (by omega) (fun J' hJ' => rc_ends RK ?_)))))
  · rw [show ra_L (sp_mv (bg_ I m) m n t l) m l' 0 = ra_L I m l' 0 from (mv_o hl (by omega)).trans bg_r]
    obtain ⟨a, a1, a2, a3⟩ := (h.1.2.1.1 l' q).1
    rw [a3]
    exact nI_ne0 (by omega) (by omega)
  · exact K _ (sc_ed (ix_8 h) (pf_tf (pf_tf pf_bg (mv_tf (by omega) hl)) hJ'))
theorem rc_dw (RK : rf_ok B m) (h : ix_ I m n T W P L) {x1 : Int32} {Q : Int32 → fI → Prop} (K1 : ∀ t, t < n → x1 = nI t → ra_T I m t 6 = 0 → Q 1 I) (K2 : ¬ (∃ t, t < n ∧ x1 = nI t ∧ ra_T I m t 6 = 0) → Q 0 I) : rs_i mt_X11_doesWait [pv_r m, pv_i x1] B I Q := by
  have h4 := ix_4 h
  refine wq_X11_doesWait_0 RK ?_
  rw [ix_1 h]
  refine ⟨fun c => ?_, fun c => K2 (fun ⟨t, q1, q2, _⟩ => c ((i32_tk h4).mpr ⟨t, q1, q2⟩))⟩
  obtain ⟨t, ht, rfl⟩ := (i32_tk h4).mp c
  refine ⟨t, ⟨rfl, by omega⟩, fun z => K2 (fun ⟨t', q1, q2, q3⟩ => ?_), fun z => K1 t ht rfl z⟩
  have : t = t' := (nI_eq (by omega) (by omega)).mp q2
  subst this
  exact z q3
theorem sq_turnOf (h : ix_ I m n T W P L) {x1 : Int32} : ∃ v, sq_ I m n v (fun M Q => cs_i mt_X10_turnOf [pv_r 5, pv_i x1] M Q) (fun B J Q => rs_i mt_X11_turnOf [pv_r m, pv_i x1] B J Q) := by
  have h4 := ix_4 h
  by_cases c : ∃ t, t < n ∧ x1 = nI t ∧ ra_T I m t 6 = 0
  · obtain ⟨t, ht, rfl, h6⟩ := c
    obtain ⟨l1, l2⟩ := lm_of (ix_tv h) ht
    refine ⟨trn_ I m n t (lmI I m t), fun M ta tm Q hr K => ?_, fun S E B Q hS RK K => ?_⟩
    · refine wc_X10_turnOf_0 (re_m5 hr) (ce_taskAt hr (fun t' ht' e => ?_) (fun q => absurd ((i32_tk h4).mpr ⟨t, ht, rfl⟩) q))
      have : t = t' := (nI_eq (by omega) (by omega)).mp e
      subst this
      have g := re_ge hr ht
      refine ⟨fun q => absurd q (by omega), fun _ => ⟨g.2, ?_⟩⟩
      rw [re_7 hr ht, hr.1.1.1.2.2.1, (re_bk hr).1, (hr.1.2.2.1.1 t ht).1.2.2.2.2.1]
      exact ⟨fun _ => ⟨(re_17 hr).1, ce_turnIn h hr ht h6 l1 K⟩, fun q => absurd h6 q⟩
    · have hJ := ix_pt (E := E) h hS
      have eT : ra_T (pt_ S E I) m t 6 = ra_T I m t 6 := uf_at hS (by omega) (by omega)
      have e1 : pt_ S E I (m + 1) = I (m + 1) := funext (fun j => uf_at hS (by omega) (by omega))
      refine wq_X11_turnOf_0 RK (rc_dw RK hJ (fun t' ht' e _ => ⟨fun _ => rc_own RK hJ ht (fun J' hJ' => ?_), fun q => absurd q (by decide)⟩) (fun q => absurd ⟨t, ht, rfl, eT.trans h6⟩ q))
      obtain ⟨I', q1, q2⟩ := sc_pt hS hJ'
      rw [q2, trn_row e1, show lmI (pt_ S E I) m t = lmI I m t by unfold lmI ra_T; rw [e1]]
      exact K I' q1
  · refine ⟨-1, fun M ta tm Q hr K => ?_, fun S E B Q hS RK K => ?_⟩
    · refine wc_X10_turnOf_0 (re_m5 hr) (ce_taskAt hr (fun t' ht' e => ?_) (fun q => ⟨fun _ => K M hr, fun y => absurd rfl y⟩))
      have g := re_ge hr ht'
      refine ⟨fun q => absurd q (by omega), fun _ => ⟨g.2, ?_⟩⟩
      rw [re_7 hr ht']
      exact ⟨fun z => absurd ⟨t', ht', e, z⟩ c, fun _ => K M hr⟩
    · refine wq_X11_turnOf_0 RK (rc_dw RK (ix_pt (E := E) h hS) (fun t ht e z => absurd ⟨t, ht, e, ?_⟩ c) (fun _ => ⟨fun y => absurd rfl y, fun _ => K I sc_rf⟩))
      exact (show ra_T (pt_ S E I) m t 6 = ra_T I m t 6 from uf_at hS (by omega) (by omega)).symm.trans z
end Bst
