/-! finish, empties, enough -/
section Fin2
variable {B M : mm_T} {I J N E : Nat → Nat → Int32} {m n w T W P L : Nat} {ta tm : Nat → Nat} {S : Nat → Nat → Bool}
theorem cr_of {x : Int32} (h1 : ¬ x < 1) (h2 : ¬ 6 < x) : ∃ w, 1 ≤ w ∧ w ≤ 6 ∧ x = nI w := by
  obtain ⟨k, hk, e⟩ := nI_of (x := x) (fun q => h1 (Int32.lt_of_lt_of_le q (by decide)))
  rw [e, show (1 : Int32) = nI 1 from rfl, nI_ltI hk (by decide)] at h1
  rw [e, show (6 : Int32) = nI 6 from rfl, nI_ltI (by decide) hk] at h2
  exact ⟨k, by omega, by omega, e⟩
theorem cr_w {w : Nat} (h1 : 1 ≤ w) (h2 : w ≤ 6) : ((1 : Int32) ≤ nI w ∧ nI w ≤ 6) ∧ ¬ nI w < 1 ∧ ¬ 6 < nI w := ⟨⟨nI_le (a := 1) h1 (by omega), nI_le (b := 6) h2 (by decide)⟩, nI_nlt (b := 1) h1 (by omega), nI_nlt (a := 6) h2 (by decide)⟩
theorem re_tr (h : re_ M I m n ta tm) : mm_r M 5 1 = 17 ∧ mm_r M 5 0 = 6 ∧ mm_i M 5 11 = I (m + 1) 0 ∧ mm_k M 17 = (8, 8) := ⟨h.1.1.1.2.2.1, h.1.1.1.2.1, h.2.2.2.2.1.1, (re_17 h).1⟩
theorem sq_finish (h : ix_ I m n T W P L) (hl : lim_ T W P L) {x1 x2 : Int32} : ∃ v, sq_ I m n v (fun M Q => cs_i mt_X10_finish [pv_r 5, pv_i x1, pv_i x2] M Q) (fun B J Q => rs_i mt_X11_finish [pv_r m, pv_i x1, pv_i x2] B J Q) := by
  have none : ¬ ((1 ≤ x1 ∧ x1 ≤ 6) ∧ 0 ≤ x2 ∧ x2 ≤ 2) → sq_ I m n (-1) (fun M Q => cs_i mt_X10_finish [pv_r 5, pv_i x1, pv_i x2] M Q) (fun B J Q => rs_i mt_X11_finish [pv_r m, pv_i x1, pv_i x2] B J Q) := fun c => by
    refine ⟨fun M ta tm Q hr K => ?_, fun S E B Q hS RK K => ?_⟩
    · refine wc_X10_finish_0 (re_m5 hr) (wc_X10_isCrew_0 ⟨fun _ => ⟨fun _ => K M hr, fun q => absurd rfl q⟩, fun c1 => ⟨fun _ => ⟨fun _ => K M hr, fun q => absurd rfl q⟩, fun c2 => ⟨fun q => absurd q (by decide), fun _ => ⟨fun _ => K M hr, fun c3 => ⟨fun c4 => ?_, fun _ => K M hr⟩⟩⟩⟩⟩)
      exact absurd ⟨⟨Int32.not_lt.mp c1, Int32.not_lt.mp c2⟩, Int32.not_lt.mp c3, c4⟩ c
    · refine wq_X11_finish_0 RK ⟨fun c1 => ⟨fun c2 => absurd ⟨c1, c2⟩ c, fun _ => K I sc_rf⟩, fun _ => K I sc_rf⟩
  by_cases c : (1 ≤ x1 ∧ x1 ≤ 6) ∧ 0 ≤ x2 ∧ x2 ≤ 2
  · obtain ⟨w, w1, w2, ew⟩ := cr_of (Int32.not_lt.mpr c.1.1) (Int32.not_lt.mpr c.1.2)
    subst ew
    obtain ⟨cw1, cw2, cw3⟩ := cr_w w1 w2
    refine ⟨if x2 = 0 then (rn_ I m n w).1 else if x2 = 1 then (rn_ I m n w).2.1 else (rn_ I m n w).2.2.1, fun M ta tm Q hr K => ?_, fun S E B Q hS RK K => ?_⟩
    · refine wc_X10_finish_0 (re_m5 hr) (wc_X10_isCrew_0 ⟨fun q => absurd q cw2, fun _ => ⟨fun q => absurd q cw3, fun _ => ⟨fun q => absurd q (by decide), fun _ => ⟨fun q => absurd q (Int32.not_lt.mpr c.2.1), fun _ => ⟨fun _ => ?_, fun q => absurd c.2.2 q⟩⟩⟩⟩⟩)
      rw [(re_tr hr).1, (re_tr hr).2.1, (re_tr hr).2.2.1]
      refine ⟨(re_tr hr).2.2.2, ce_run h hl hr w1 w2 (fun M' r' c' => ?_)⟩
      rw [(re_tr r').1]
      refine ⟨fun z => ⟨(re_tr r').2.2.2, ?_⟩, fun z => ⟨(re_tr r').2.2.2, ?_⟩, fun z => ⟨(re_tr r').2.2.2, ?_⟩⟩
      · rw [if_pos z] at K
        rw [c'.1]
        exact K M' r'
      · rw [if_neg (by rw [z]; decide), if_pos z] at K
        rw [c'.2.1]
        exact K M' r'
      · rw [if_neg z.1, if_neg z.2] at K
        rw [c'.2.2.1]
        exact K M' r'
    · have hJ := ix_pt (E := E) h hS
      have er : rn_ (pt_ S E I) m n w = rn_ I m n w := rn_row (funext (fun j => uf_at hS (by omega) (by omega)))
      refine wq_X11_finish_0 RK ⟨fun _ => ⟨fun _ => rc_fin RK hJ hl w1 w2 (Or.inl rfl) (fun I1 s1 s2 s3 _ => ?_), fun q => absurd c.2 q⟩, fun q => absurd c.1 q⟩
      rw [er] at s2 s3 ⊢
      obtain ⟨I', q1, q2⟩ := sc_pt hS s1
      rw [s2, s3, q2]
      refine ⟨fun z => ⟨fun y => ?_, fun y => ?_⟩, fun z => ?_⟩
      · rw [if_neg z, if_neg y] at K
        exact K I' q1
      · rw [if_neg z, if_pos y] at K
        exact K I' q1
      · rw [if_pos z] at K
        exact K I' q1
  · exact ⟨_, none c⟩
theorem sq_empties (h : ix_ I m n T W P L) (hl : lim_ T W P L) {x1 x2 : Int32} : ∃ v, sq_ I m n v (fun M Q => cs_i mt_X10_empties [pv_r 5, pv_i x1, pv_i x2] M Q) (fun B J Q => rs_i mt_X11_empties [pv_r m, pv_i x1, pv_i x2] B J Q) := by
  by_cases c : (0 ≤ x1 ∧ x1 ≤ 4) ∧ 1 ≤ x2 ∧ x2 ≤ 6
  · obtain ⟨w, w1, w2, ew⟩ := cr_of (Int32.not_lt.mpr c.2.1) (Int32.not_lt.mpr c.2.2)
    subst ew
    obtain ⟨cw1, cw2, cw3⟩ := cr_w w1 w2
    obtain ⟨l, hl5, el⟩ := nI_of2 (n := 4) (M := 4) rfl (Int32.not_lt.mpr c.1.1) c.1.2
    subst el
    refine ⟨(rn_ I m n w).2.2.2 l, fun M ta tm Q hr K => ?_, fun S E B Q hS RK K => ?_⟩
    · refine wc_X10_empties_0 (re_m5 hr) ?_
      rw [(re_tr hr).2.1]
      refine ⟨(re_bk hr).2, cb_laneAt (br_S hr.1.2.1) (fun l' hl' e => ⟨fun q => absurd q (by omega), fun _ => ?_⟩) (fun q => absurd c.1 q)⟩
      have : l' = l := by
        rw [nI_eq (by omega) (by omega)] at e
        exact e.symm
      subst this
      refine wc_X10_isCrew_0 ⟨fun q => absurd q cw2, fun _ => ⟨fun q => absurd q cw3, fun _ => ⟨fun _ => ?_, fun q => absurd q (by decide)⟩⟩⟩
      rw [(re_tr hr).1, (re_tr hr).2.1, (re_tr hr).2.2.1]
      refine ⟨(re_tr hr).2.2.2, ce_run h hl hr w1 w2 (fun M' r' c' => ?_)⟩
      have r17 := re_17 r'
      have bS := br_S r'.1.2.1
      rw [(re_tr r').1, r17.2.2.2.1]
      refine ⟨r17.1, (bS.2.2.2.2.2.2.2.2.2.2.2 _ hl').1, 5, r17.2.2.2.2.2.1, l', ⟨(bS.2.2.2.2.2.2.2.2.2.2.2 _ hl').2.2, hl'⟩, ?_⟩
      rw [c'.2.2.2 l' hl']
      exact K M' r'
    · have hJ := ix_pt (E := E) h hS
      have er : rn_ (pt_ S E I) m n w = rn_ I m n w := rn_row (funext (fun j => uf_at hS (by omega) (by omega)))
      refine wq_X11_empties_0 RK ⟨fun _ => ⟨fun _ => rc_fin RK hJ hl w1 w2 (Or.inr ⟨l, by omega, rfl⟩) (fun I1 s1 s2 s3 s4 => ?_), fun q => absurd c.2 q⟩, fun q => absurd c.1 q⟩
      rw [er] at s4
      obtain ⟨I', q1, q2⟩ := sc_pt hS s1
      rw [s4 l (by omega) rfl, q2]
      exact K I' q1
  · refine ⟨-1, fun M ta tm Q hr K => ?_, fun S E B Q hS RK K => ?_⟩
    · refine wc_X10_empties_0 (re_m5 hr) ?_
      rw [(re_tr hr).2.1]
      refine ⟨(re_bk hr).2, cb_laneAt (br_S hr.1.2.1) (fun l' hl' e => ⟨fun q => absurd q (by omega), fun _ => ?_⟩) (fun q => ⟨fun _ => K M hr, fun z => absurd rfl z⟩)⟩
      refine wc_X10_isCrew_0 ⟨fun _ => ⟨fun q => absurd rfl q, fun _ => K M hr⟩, fun c1 => ⟨fun _ => ⟨fun q => absurd rfl q, fun _ => K M hr⟩, fun c2 => absurd ⟨by rw [e]; exact in_4 hl', Int32.not_lt.mp c1, Int32.not_lt.mp c2⟩ c⟩⟩
    · exact wq_X11_empties_0 RK ⟨fun c1 => ⟨fun c2 => absurd ⟨c1, c2⟩ c, fun _ => K I sc_rf⟩, fun _ => K I sc_rf⟩
def eg_ (I : fI) (m n : Nat) (x1 : Int32) : Nat → Nat → Int32
  | 0, _ => -1
  | j + 1, w => if x1 < (rn_ I m n w).1 then eg_ I m n x1 j (w + 1) else nI w
theorem ce_eg (h : ix_ I m n T W P L) (hl : lim_ T W P L) {x1 : Int32} {Q : Int32 → mm_T → Prop} : ∀ (j w : Nat) {M : mm_T}, w + j = 7 → 1 ≤ w → re_ M I m n ta tm → (∀ M', re_ M' I m n ta tm → Q (eg_ I m n x1 j w) M') → cw_i mt_X10_enough 8 [some (pv_r 5), some (pv_i x1), some (pv_i (nI w))] [] M Q
  | 0, w, M, hw, h1, hr, K => by
    have : w = 7 := by omega
    subst this
    exact wc_X10_enough_8 (re_m5 hr) ⟨fun _ => K M hr, fun q => absurd (show (6 : Int32) < nI 7 by decide) q⟩
  | j + 1, w, M, hw, h1, hr, K => by
    refine wc_X10_enough_8 (re_m5 hr) ⟨fun q => absurd q (cr_w h1 (by omega)).2.2, fun _ => ?_⟩
    rw [(re_tr hr).1, (re_tr hr).2.1, (re_tr hr).2.2.1]
    refine ⟨(re_tr hr).2.2.2, ce_run h hl hr h1 (by omega) (fun M' r' c' => ?_)⟩
    rw [(re_tr r').1, c'.1]
    unfold eg_ at K
    refine ⟨(re_tr r').2.2.2, fun z => ?_, fun z => ?_⟩
    · rw [if_pos z] at K
      rw [nI_1]
      exact ce_eg h hl j (w + 1) (by omega) (by omega) r' K
    · rw [if_neg z] at K
      exact K M' r'
theorem rc_eg (RK : rf_ok B m) (h : ix_ I m n T W P L) (hl : lim_ T W P L) {x1 : Int32} {Q : Int32 → fI → Prop} : ∀ (j w : Nat) {N : fI}, w + j = 7 → 1 ≤ w → sc_ m I N → (∀ N', sc_ m I N' → Q (eg_ I m n x1 j w) N') → rw_i mt_X11_enough 8 [some (pv_r m), some (pv_i x1), some (pv_i (nI w))] [] B N Q
  | 0, w, N, hw, h1, hs, K => by
    have : w = 7 := by omega
    subst this
    exact wq_X11_enough_8 RK ⟨fun _ => K N hs, fun q => absurd (show (6 : Int32) < nI 7 by decide) q⟩
  | j + 1, w, N, hw, h1, hs, K => by
    refine wq_X11_enough_8 RK ⟨fun q => absurd q (cr_w h1 (by omega)).2.2, fun _ => rc_fin RK (ix_sc h hs) hl h1 (by omega) (Or.inl rfl) (fun I1 s1 _ _ _ => ?_)⟩
    rw [rn_row (sc_1 hs)]
    unfold eg_ at K
    refine ⟨fun z => ?_, fun z => ?_⟩
    · rw [if_pos z] at K
      rw [nI_1]
      exact rc_eg RK h hl j (w + 1) (by omega) (by omega) (sc_tr hs s1) K
    · rw [if_neg z] at K
      exact K I1 (sc_tr hs s1)
theorem eg_row (e : J (m + 1) = I (m + 1)) {x1 : Int32} : ∀ (j w : Nat), eg_ J m n x1 j w = eg_ I m n x1 j w
  | 0, _ => rfl
  | j + 1, w => by
    unfold eg_
    rw [rn_row e, eg_row e j (w + 1)]
theorem sq_enough (h : ix_ I m n T W P L) (hl : lim_ T W P L) {x1 : Int32} : ∃ v, sq_ I m n v (fun M Q => cs_i mt_X10_enough [pv_r 5, pv_i x1] M Q) (fun B J Q => rs_i mt_X11_enough [pv_r m, pv_i x1] B J Q) := by
  refine ⟨if 0 ≤ x1 then eg_ I m n x1 6 1 else -1, fun M ta tm Q hr K => ?_, fun S E B Q hS RK K => ?_⟩
  · refine wc_X10_enough_0 (re_m5 hr) ⟨fun c => ?_, fun c => ?_⟩
    · rw [if_pos c] at K
      exact ce_eg h hl 6 1 rfl (by omega) hr K
    · rw [if_neg c] at K
      exact K M hr
  · refine wq_X11_enough_0 RK ⟨fun c => ?_, fun c => ?_⟩
    · rw [if_pos c] at K
      refine rc_eg RK (ix_pt (E := E) h hS) hl 6 1 rfl (by omega) sc_rf (fun N' hs => ?_)
      rw [eg_row (funext (fun j => uf_at hS (by omega) (by omega)))]
      obtain ⟨I', q1, q2⟩ := sc_pt hS hs
      rw [q2]
      exact K I' q1
    · rw [if_neg c] at K
      exact K I sc_rf
end Fin2
