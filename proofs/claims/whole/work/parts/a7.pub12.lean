/-! keyed, waits, timer, lane, worker, aside -/
section Pub12
variable {B M M' : mm_T} {I J E : Nat → Nat → Int32} {m n T W P L : Nat} {ta tm : Nat → Nat} {S : Nat → Nat → Bool}
theorem ce_number (h : re_ M I m n ta tm) {o : Option Nat} (ho : ∀ t, o = some t → t < n) {Q : Int32 → mm_T → Prop} (K : Q (io_ o) M) : cs_i mt_X10_numberOf [pv_r (oa_ ta o)] M Q := by
  cases o with
  | none => exact wc_X10_numberOf_0 ⟨fun q => absurd rfl q, fun _ => K⟩
  | some t =>
    have ht := ho t rfl
    have g := re_ge h ht
    refine wc_X10_numberOf_0 ⟨fun _ => ⟨g.2, ?_⟩, fun q => absurd (show ta t = 0 from q) (by omega)⟩
    rw [show oa_ ta (some t) = ta t from rfl, (h.1.2.2.1.1 t ht).1.2.2.1]
    exact K
theorem sm_keyed (h : ix_ I m n T W P L) {x1 : Int32} : ∃ v, sm_ I m n T W P L (v, I) (fun M Q => cs_i mt_X10_keyed [pv_r 5, pv_i x1] M Q) (fun B J Q => rs_i mt_X11_keyed [pv_r m, pv_i x1] B J Q) := by
  have h4 := ix_4 h
  refine qu_ (v := io_ (fi_ (ra_kst I m x1) n 0)) h (fun M ta tm Q hr K => ?_) (fun S E B Q hS RK hJ K => ?_)
  · refine wc_X10_keyed_0 (re_m5 hr) ?_
    rw [(re_bk hr).1]
    exact ⟨(re_bk hr).2, cb_key hr.1.2.1 (fun t ht _ => (hr.1.2.2.1.1 t ht).2.1.2.2.1) (ce_number hr (fun t e => by have := (fi_lt e).1; omega) K)⟩
  · refine wq_X11_keyed_0 RK ⟨fun c => rc_standsWith RK (ix_1 hJ) h4 ?_, fun c => ?_⟩
    · rw [nt_kst (uf_us hS)]
      exact K
    · have e : fi_ (ra_kst I m x1) n 0 = none := by
        cases hq : fi_ (ra_kst I m x1) n 0 with
        | none => rfl
        | some t =>
          obtain ⟨q1, q2⟩ := fi_lt hq
          have q2 := (of_decide_eq_true q2).1
          obtain ⟨k, hk, ek⟩ := (h.1.1.2.2 t (by omega)).2.2.1
          exact absurd (by rw [← q2, ek]; exact ⟨Int32.not_lt.mp (nI_pos (by omega)), show nI k ≤ nI 9999 from nI_le (by omega) (by decide)⟩) c
      rw [e] at K
      exact K
theorem sm_waits (h : ix_ I m n T W P L) {x1 x2 : Int32} : ∃ v, sm_ I m n T W P L (v, I) (fun M Q => cs_i mt_X10_waits [pv_r 5, pv_i x1, pv_i x2] M Q) (fun B J Q => rs_i mt_X11_waits [pv_r m, pv_i x1, pv_i x2] B J Q) := by
  refine qu_ (v := if (0 ≤ x1 ∧ x1 ≤ 4) ∧ (0 ≤ x2 ∧ x2 ≤ 2) then ra_L I m x1.toNatClampNeg (7 + x2.toNatClampNeg) else -1) h (fun M ta tm Q hr K => ?_) (fun S E B Q hS RK hJ K => ?_)
  · refine wc_X10_waits_0 (re_m5 hr) ?_
    rw [(re_bk hr).1]
    refine ⟨(re_bk hr).2, cb_laneAt (br_S hr.1.2.1) (fun l hl e => ⟨fun _ => ?_, fun q => absurd q (by omega)⟩) (fun q => ⟨fun y => absurd rfl y, fun _ => ?_⟩)⟩
    · have kl := br_ln hr.1.2.1 hl
      have key : ∀ f, f < 3 → x2 = nI f → mm_k M (6 + 6 + l) = (3, 14) ∧ Q (mm_i M (6 + 6 + l) (11 + f)) M := fun f hf e2 => by
        refine ⟨kl.1, ?_⟩
        rw [if_pos ⟨by rw [e]; exact in_4 hl, by rw [e2]; exact in_2 hf⟩, e, e2, nI_clamp (by omega), nI_clamp (by omega)] at K
        have v := (hr.1.2.2.2 l hl).2 (2 + f) (by omega)
        rw [show 9 + (2 + f) = 11 + f by omega, show 5 + (2 + f) = 7 + f by omega] at v
        rw [show mm_i M (6 + 6 + l) (11 + f) = ra_L I m l (7 + f) from v]
        exact K
      refine ⟨fun e2 => key 0 (by decide) e2, fun e2 => key 1 (by decide) e2, fun e2 => key 2 (by decide) e2, fun q => ?_⟩
      rw [if_neg (fun y => ?_)] at K
      · exact K
      · obtain ⟨f, hf, rfl⟩ := i32_in (N := 2) (by decide) y.2
        have : f = 0 ∨ f = 1 ∨ f = 2 := by omega
        rcases this with rfl | rfl | rfl
        · exact q.1 rfl
        · exact q.2.1 rfl
        · exact q.2.2 rfl
    · rw [if_neg (fun y => q y.1)] at K
      exact K
  · refine wq_X11_waits_0 RK ⟨fun c1 => ⟨fun c2 => ?_, fun c2 => ?_⟩, fun c1 => ?_⟩
    · rw [if_pos ⟨c1, c2⟩] at K
      obtain ⟨l, hl, rfl⟩ := i32_in (N := 4) (by decide) c1
      obtain ⟨f, hf, rfl⟩ := i32_in (N := 2) (by decide) c2
      rw [nI_clamp (by omega), nI_clamp (by omega)] at K
      refine ⟨l, ⟨rfl, by omega⟩, 10 + 10 * l + (7 + f), ⟨?_, by omega⟩, ?_⟩
      · rw [show (7 : Int32) = nI 7 from rfl, nI_add, nI_add, Nat.add_assoc]
      · rw [uf_at hS (by omega) (by omega)]
        exact K
    · rw [if_neg (fun y => c2 y.2)] at K
      exact K
    · rw [if_neg (fun y => c1 y.1)] at K
      exact K
theorem in_7 {w : Nat} (h : w < 8) : 0 ≤ nI w ∧ nI w ≤ 7 := ⟨Int32.not_lt.mp (nI_pos (by omega)), show nI w ≤ nI 7 from nI_le (by omega) (by decide)⟩
theorem sm_timer (h : ix_ I m n T W P L) {k : Nat} (hk : tmk_ I m k) {x1 x2 : Int32} : ∃ v, sm_ I m n T W P L (v, I) (fun M Q => cs_i mt_X10_timer [pv_r 5, pv_i x1, pv_i x2] M Q) (fun B J Q => rs_i mt_X11_timer [pv_r m, pv_i x1, pv_i x2] B J Q) := by
  have hk12 := hk.1
  refine qu_ (v := if (0 ≤ x1 ∧ x1 ≤ nI k - 1) ∧ (0 ≤ x2 ∧ x2 ≤ 7) then ra_C I m x1.toNatClampNeg x2.toNatClampNeg else -1) h (fun M ta tm Q hr K => ?_) (fun S E B Q hS RK hJ K => ?_)
  · refine wc_X10_timer_0 (re_m5 hr) (ce_timerAt hr hk.2 hk12 (fun c hc e => ⟨fun _ => ?_, fun q => ?_⟩) (fun q => ⟨fun y => absurd rfl y, fun _ => ?_⟩))
    · obtain ⟨k2, a1, a2, a3, a4, -⟩ := hr.2.1.2.2.2
      have ek : k2 = k := (nI_eq (by omega) (by omega)).mp (a2.symm.trans hk.2)
      subst ek
      obtain ⟨d1, d2, d3, ⟨l, d4, d5, d6⟩, d7⟩ := a4 c hc
      have kl := br_ln hr.1.2.1 d4
      have key : ∀ f, f < 8 → x2 = nI f → Q (ra_C I m c f) M := fun f hf e2 => by
        rw [if_pos ⟨(i32_tk (n := k2) (by omega)).mpr ⟨c, hc, e⟩, by rw [e2]; exact in_7 hf⟩, e, e2, nI_clamp (by omega), nI_clamp (by omega)] at K
        exact K
      refine ⟨d3, wc_X7_tell_0 d3 ?_⟩
      rw [d6, d7 1 (by decide) (by decide), d7 2 (by decide) (by decide), d7 3 (by decide) (by decide), d7 4 (by decide) (by decide), d7 5 (by decide) (by decide), d7 6 (by decide) (by decide), d7 7 (by decide) (by decide)]
      refine ⟨fun e2 => ⟨kl.1, ?_⟩, fun e2 => key 1 (by decide) e2, fun e2 => key 2 (by decide) e2, fun e2 => key 3 (by decide) e2, fun e2 => key 4 (by decide) e2, fun e2 => key 5 (by decide) e2, fun e2 => key 6 (by decide) e2, fun e2 => key 7 (by decide) e2, fun q => ?_⟩
      · rw [show mm_i M (12 + l) 0 = ra_C I m c 0 from kl.2.2.trans d5.symm]
        exact key 0 (by decide) e2
      · rw [if_neg (fun y => ?_)] at K
        · exact K
        · obtain ⟨f, hf, rfl⟩ := i32_in (N := 7) (by decide) y.2
          obtain ⟨q0, q1, q2, q3, q4, q5, q6, q7⟩ := q
          have : f = 0 ∨ f = 1 ∨ f = 2 ∨ f = 3 ∨ f = 4 ∨ f = 5 ∨ f = 6 ∨ f = 7 := by omega
          rcases this with rfl | rfl | rfl | rfl | rfl | rfl | rfl | rfl
          · exact q0 rfl
          · exact q1 rfl
          · exact q2 rfl
          · exact q3 rfl
          · exact q4 rfl
          · exact q5 rfl
          · exact q6 rfl
          · exact q7 rfl
    · obtain ⟨k2, a1, a2, a3, a4, -⟩ := hr.2.1.2.2.2
      have ek : k2 = k := (nI_eq (by omega) (by omega)).mp (a2.symm.trans hk.2)
      subst ek
      have := (a4 c hc).2.1
      omega
    · rw [if_neg (fun y => q y.1)] at K
      exact K
  · refine wq_X11_timer_0 RK ?_
    rw [show pt_ S E I (m + 1) 84 = nI k from (uf_at hS (by omega) (by omega)).trans hk.2]
    refine ⟨fun c1 => ⟨fun c2 => ?_, fun c2 => ?_⟩, fun c1 => ?_⟩
    · rw [if_pos ⟨c1, c2⟩] at K
      obtain ⟨c, hc, rfl⟩ := (i32_tk (n := k) (by omega)).mp c1
      obtain ⟨f, hf, rfl⟩ := i32_in (N := 7) (by decide) c2
      rw [nI_clamp (by omega), nI_clamp (by omega)] at K
      refine ⟨c, ⟨rfl, by omega⟩, 85 + 8 * c + f, ⟨nI_add _ _, by omega⟩, ?_⟩
      rw [uf_at hS (by omega) (by omega)]
      exact K
    · rw [if_neg (fun y => c2 y.2)] at K
      exact K
    · rw [if_neg (fun y => c1 y.1)] at K
      exact K
/-! lane -/
def lnv_ (I : fI) (m n l : Nat) (j : Int32) : Int32 := if j = 0 then ra_L I m l 0 else if j = 1 then ra_L I m l 1 else if j = 2 then ra_L I m l 3 else if j = 3 then ra_L I m l 4 else if j = 4 then nI (cn_ (ra_many I m (nI l) 0) n) else if j = 5 then nI (cn_ (ra_st I m (nI l)) n) else if j = 6 then ra_L I m l 5 else if j = 7 then ra_L I m l 6 else if j = 8 then ra_L I m l 2 else if j = 9 then nI (cn_ (ra_many I m (nI l) 3) n) else -1
theorem lnv_n {l : Nat} {j : Int32} (q : ¬ j = 0 ∧ ¬ j = 1 ∧ ¬ j = 2 ∧ ¬ j = 3 ∧ ¬ j = 4 ∧ ¬ j = 5 ∧ ¬ j = 6 ∧ ¬ j = 7 ∧ ¬ j = 8 ∧ ¬ j = 9) : lnv_ I m n l j = -1 := by
  obtain ⟨q0, q1, q2, q3, q4, q5, q6, q7, q8, q9⟩ := q
  unfold lnv_
  rw [if_neg q0, if_neg q1, if_neg q2, if_neg q3, if_neg q4, if_neg q5, if_neg q6, if_neg q7, if_neg q8, if_neg q9]
theorem sm_lane (h : ix_ I m n T W P L) {x1 x2 : Int32} : ∃ v, sm_ I m n T W P L (v, I) (fun M Q => cs_i mt_X10_lane [pv_r 5, pv_i x1, pv_i x2] M Q) (fun B J Q => rs_i mt_X11_lane [pv_r m, pv_i x1, pv_i x2] B J Q) := by
  have h4 := ix_4 h
  refine qu_ (v := if 0 ≤ x1 ∧ x1 ≤ 4 then lnv_ I m n x1.toNatClampNeg x2 else -1) h (fun M ta tm Q hr K => ?_) (fun S E B Q hS RK hJ K => ?_)
  · refine wc_X10_lane_0 (re_m5 hr) ?_
    rw [(re_bk hr).1]
    refine ⟨(re_bk hr).2, cb_laneAt (br_S hr.1.2.1) (fun l hl e => ⟨fun _ => ⟨(br_ln hr.1.2.1 hl).1, wc_X3_tell_0 (br_ln hr.1.2.1 hl).1 ?_⟩, fun q => absurd q (by omega)⟩) (fun q => ⟨fun y => absurd rfl y, fun _ => by rw [if_neg q] at K; exact K⟩)⟩
    rw [if_pos (by rw [e]; exact in_4 hl), e, nI_clamp (by omega)] at K
    obtain ⟨d1, d2, d3, d4⟩ := hr.1.2.1.2.2.1 l hl
    have e6 : cn_ (ra_wt I m (nI l)) n = cn_ (ra_many I m (nI l) 0) n := cn_eq (fun t _ => by
      unfold ra_wt ra_many
      have : ¬ nI l = -1 := nI_nm (by omega)
      simp [this])
    have o := hr.1.2.2.2 l hl
    rw [d1, d2, d3, d4, br_6 hr.1.2.1 hl, br_7 hr.1.2.1 hl, br_8 hr.1.2.1 hl, e6, show mm_i M (6 + 6 + l) 4 = ra_L I m l 3 from o.1.trans (cls_id h.2.1.1 l hl), show mm_i M (6 + 6 + l) 9 = ra_L I m l 5 from o.2 0 (by decide), show mm_i M (6 + 6 + l) 10 = ra_L I m l 6 from o.2 1 (by decide)]
    refine ⟨fun z => ?_, fun z => ?_, fun z => ?_, fun z => ?_, fun z => ?_, fun z => ?_, fun z => ?_, fun z => ?_, fun z => ?_, fun z => ?_, fun z => by rw [lnv_n z] at K; exact K⟩ <;> (rw [z] at K; exact K)
  · refine wq_X11_lane_0 RK ⟨fun c => ?_, fun c => by rw [if_neg c] at K; exact K⟩
    rw [if_pos c] at K
    obtain ⟨l, hl, rfl⟩ := i32_in (N := 4) (by decide) c
    rw [nI_clamp (by omega)] at K
    have one : ∀ f, Q (ra_L I m l f) (pt_ S E I) → ∃ n1, (nI l = nI n1 ∧ n1 < 5) ∧ Q (pt_ S E I (m + 1) (10 + 10 * n1 + f)) (pt_ S E I) := fun f K => ⟨l, ⟨rfl, by omega⟩, by rw [uf_at hS (by omega) (by omega)]; exact K⟩
    refine ⟨fun z => one 0 (by rw [z] at K; exact K), fun z => one 1 (by rw [z] at K; exact K), fun z => one 3 (by rw [z] at K; exact K), fun z => one 4 (by rw [z] at K; exact K), fun z => rc_manyOf RK (ix_1 hJ) h4 (by rw [z] at K; rw [nt_many (uf_us hS)]; exact K), fun z => rc_standing RK (ix_1 hJ) h4 (by rw [z] at K; rw [nt_st (uf_us hS)]; exact K), fun z => one 5 (by rw [z] at K; exact K), fun z => one 6 (by rw [z] at K; exact K), fun z => one 2 (by rw [z] at K; exact K), fun z => rc_manyOf RK (ix_1 hJ) h4 (by rw [z] at K; rw [nt_many (uf_us hS)]; exact K), fun z => by rw [lnv_n z] at K; exact K⟩
end Pub12
