/-! share -/
section Shr3
variable {B M M' : mm_T} {I J E : Nat → Nat → Int32} {m n T W P L : Nat} {ta tm : Nat → Nat} {S : Nat → Nat → Bool}
theorem mi1 (a b : Int32) : (if a < b then a else b).toInt = min a.toInt b.toInt := by
  split
  · next h => rw [Int32.lt_iff_toInt_lt] at h; omega
  · next h => rw [Int32.lt_iff_toInt_lt] at h; omega
theorem mi2 (a b : Int32) : (if a ≤ b then a else b).toInt = min a.toInt b.toInt := by
  split
  · next h => rw [Int32.le_iff_toInt_le] at h; omega
  · next h => rw [Int32.le_iff_toInt_le] at h; omega
theorem ma1 (b : Int32) : (if 0 < b then b else 0).toInt = max 0 b.toInt := by
  have z : (0 : Int32).toInt = 0 := by decide
  split
  · next h => rw [Int32.lt_iff_toInt_lt, z] at h; omega
  · next h => rw [Int32.lt_iff_toInt_lt, z] at h; rw [z]; omega
theorem ma2 (b : Int32) : (if 0 ≤ b then b else 0).toInt = max 0 b.toInt := by
  have z : (0 : Int32).toInt = 0 := by decide
  split
  · next h => rw [Int32.le_iff_toInt_le, z] at h; omega
  · next h => rw [Int32.le_iff_toInt_le, z] at h; rw [z]; omega
theorem mi3 (a b c : Int32) : (if 0 < (if (if a < b then a else b) < c then (if a < b then a else b) else c) then (if (if a < b then a else b) < c then (if a < b then a else b) else c) else 0) = if 0 ≤ (if a ≤ (if b ≤ c then b else c) then a else (if b ≤ c then b else c)) then (if a ≤ (if b ≤ c then b else c) then a else (if b ≤ c then b else c)) else 0 := by
  apply Int32.toInt_inj.mp
  rw [ma1, mi1, mi1, ma2, mi2, mi2]
  omega
theorem th_eq {a b : Nat} (ha : a < 2000000) (hb : b < 2000000) (h0 : 0 < b) : (((1000 : Int64) * (nI a).toInt64) / (nI b).toInt64).toInt32 = (1000 * nI a) / nI b := by
  rw [nI_l (by omega), nI_l (by omega), show (1000 : Int64) = lN 1000 from rfl, lN_mul, pk_lDiv (by omega) h0 (by omega), lN_i, show (1000 : Int32) = nI 1000 from rfl, pk_mul, pk_div (by omega) h0 (by omega)]
def pof_ (I : fI) (m l f : Nat) : Int32 := if su_ (fun l => ra_L I m l f) 5 = 0 then 0 else (1000 * ra_L I m l f) / su_ (fun l => ra_L I m l f) 5
/-- five small ones -/
def sml_ (I : fI) (m f : Nat) : Prop := ∃ g : Nat → Nat, (∀ l, l < 5 → ra_L I m l f = nI (g l)) ∧ g 0 + g 1 + g 2 + g 3 + g 4 < 2000000
theorem sml_su {f : Nat} (h : sml_ I m f) {l : Nat} (hl : l < 5) : ∃ a b, ra_L I m l f = nI a ∧ a < 2000000 ∧ su_ (fun l => ra_L I m l f) 5 = nI b ∧ b < 2000000 := by
  obtain ⟨g, h1, h2⟩ := h
  refine ⟨g l, g 0 + g 1 + g 2 + g 3 + g 4, h1 l hl, ?_, ?_, h2⟩
  · have : l = 0 ∨ l = 1 ∨ l = 2 ∨ l = 3 ∨ l = 4 := by omega
    rcases this with rfl | rfl | rfl | rfl | rfl <;> omega
  · show 0 + ra_L I m 0 f + ra_L I m 1 f + ra_L I m 2 f + ra_L I m 3 f + ra_L I m 4 f = _
    rw [h1 0 (by omega), h1 1 (by omega), h1 2 (by omega), h1 3 (by omega), h1 4 (by omega), Int32.zero_add, nI_add, nI_add, nI_add, nI_add]
theorem rc_part5 (RK : rf_ok B m) {l f : Nat} (hl : l < 5) (hf : f < 10) {Q : Int32 → fI → Prop} (K : Q (pof_ I m l f) I) : ∀ (j c : Nat), c + j = 5 → rw_i mt_X11_partOf 5 [some (pv_r m), some (pv_i (nI l)), some (pv_i (nI f)), some (pv_i (su_ (fun l => ra_L I m l f) c)), some (pv_i (nI c))] [] B I Q
  | 0, c, hc => by
    have : c = 5 := by omega
    subst this
    unfold pof_ at K
    refine wq_X11_partOf_5 RK ⟨fun _ => ⟨fun q => ⟨l, ⟨rfl, hl⟩, 10 + 10 * l + f, ⟨nI_add _ _, by omega⟩, q, ?_⟩, fun q => ?_⟩, fun q => absurd (by decide) q⟩
    · rw [if_neg q] at K; exact K
    · rw [if_pos q] at K; exact K
  | j + 1, c, hc => by
    have ih := rc_part5 RK hl hf K j (c + 1) (by omega)
    exact wq_X11_partOf_5 RK ⟨fun q => absurd q (nI_5 (by omega)), fun _ => ⟨c, ⟨rfl, by omega⟩, 10 + 10 * c + f, ⟨nI_add _ _, by omega⟩, ih⟩⟩
theorem rc_part (RK : rf_ok B m) {l f : Nat} (hl : l < 5) (hf : f < 10) {Q : Int32 → fI → Prop} (K : Q (pof_ I m l f) I) : rs_i mt_X11_partOf [pv_r m, pv_i (nI l), pv_i (nI f)] B I Q := wq_X11_partOf_0 RK (rc_part5 RK hl hf K 5 0 rfl)
theorem ce_thou {f : Nat} (h : sml_ I m f) {l : Nat} (hl : l < 5) {x y : Int32} (hx : x = ra_L I m l f) (hy : y = su_ (fun l => ra_L I m l f) 5) {Q : Int32 → mm_T → Prop} (K : Q (pof_ I m l f) M) : cs_i mt_X10_thousandths [pv_i x, pv_i y] M Q := by
  obtain ⟨a, b, e1, h1, e2, h2⟩ := sml_su h hl
  unfold pof_ at K
  rw [e1, e2] at K
  rw [hx, hy, e1, e2]
  refine wc_X10_thousandths_0 ⟨fun q => ?_, fun q => ?_⟩
  · have q : nI 0 < nI b := q
    rw [nI_ltI (by decide) (by omega)] at q
    rw [if_neg (nI_ne0 q (by omega))] at K
    rw [th_eq h1 h2 q]
    refine ⟨?_, K⟩
    rw [nI_l (by omega), show (0 : Int64) = lN 0 from rfl, pk_lEQ (by omega) (by decide)]
    omega
  · have q : ¬ nI 0 < nI b := q
    rw [nI_ltI (by decide) (by omega)] at q
    have : b = 0 := by omega
    rw [this, if_pos nI_0] at K
    exact K
def shv_ (I : fI) (m n l : Nat) (x : Int32) : Int32 := if x = 0 then pof_ I m l 5 else if x = 1 then pof_ I m l 0 else if x = 2 then (if ra_L I m l 3 = 0 then (if 0 ≤ (if 400 - nI n ≤ (if I (m + 1) 8 - nI (cn_ (ra_st I m (-1)) n) ≤ ra_L I m l 1 - nI (cn_ (ra_st I m (nI l)) n) then I (m + 1) 8 - nI (cn_ (ra_st I m (-1)) n) else ra_L I m l 1 - nI (cn_ (ra_st I m (nI l)) n)) then 400 - nI n else (if I (m + 1) 8 - nI (cn_ (ra_st I m (-1)) n) ≤ ra_L I m l 1 - nI (cn_ (ra_st I m (nI l)) n) then I (m + 1) 8 - nI (cn_ (ra_st I m (-1)) n) else ra_L I m l 1 - nI (cn_ (ra_st I m (nI l)) n))) then (if 400 - nI n ≤ (if I (m + 1) 8 - nI (cn_ (ra_st I m (-1)) n) ≤ ra_L I m l 1 - nI (cn_ (ra_st I m (nI l)) n) then I (m + 1) 8 - nI (cn_ (ra_st I m (-1)) n) else ra_L I m l 1 - nI (cn_ (ra_st I m (nI l)) n)) then 400 - nI n else (if I (m + 1) 8 - nI (cn_ (ra_st I m (-1)) n) ≤ ra_L I m l 1 - nI (cn_ (ra_st I m (nI l)) n) then I (m + 1) 8 - nI (cn_ (ra_st I m (-1)) n) else ra_L I m l 1 - nI (cn_ (ra_st I m (nI l)) n))) else 0) else 0) else if x = 3 then io_ (el_ I m (nI l) n) else if x = 4 then su_ (fun t => if ra_wt I m (nI l) t = true then ra_T I m t 2 else 0) n else -1
theorem pof_o {l f : Nat} (h : ∀ l, ra_L J m l f = ra_L I m l f) : pof_ J m l f = pof_ I m l f := by
  unfold pof_
  simp only [h]
theorem iof_wt {l t : Nat} (hv : tv_ I m n) (ht : t < n) (hl : l < 5) : iof_ I m 0 (some l) t = ra_wt I m (nI l) t := by
  have lm := lm_of hv ht
  unfold iof_ ra_wt
  show (decide (ra_T I m t 6 = 0) && decide (lmI I m t = l)) = _
  rw [lm.2]
  by_cases c : ra_T I m t 6 = 0
  · rw [decide_eq_true c]
    by_cases d : lmI I m t = l
    · rw [decide_eq_true d, decide_eq_true ⟨by rw [d], c⟩]; rfl
    · rw [decide_eq_false d, decide_eq_false (fun z => d ((nI_eq (by omega) (by omega)).mp z.1))]; rfl
  · rw [decide_eq_false c, Bool.false_and, decide_eq_false (fun z => c z.2)]
theorem sm_share (h : ix_ I m n T W P L) (hg : sml_ I m 5) {x1 x2 : Int32} : ∃ v, sm_ I m n T W P L (v, I) (fun M Q => cs_i mt_X10_share [pv_r 5, pv_i x1, pv_i x2] M Q) (fun B J Q => rs_i mt_X11_share [pv_r m, pv_i x1, pv_i x2] B J Q) := by
  have h4 := ix_4 h
  have hg0 : sml_ I m 0 := by
    have a := fun l (hl : l < 5) => (h.1.2.1.1 l hl).1
    obtain ⟨w0, b0, -, e0⟩ := a 0 (by omega)
    obtain ⟨w1, b1, -, e1⟩ := a 1 (by omega)
    obtain ⟨w2, b2, -, e2⟩ := a 2 (by omega)
    obtain ⟨w3, b3, -, e3⟩ := a 3 (by omega)
    obtain ⟨w4, b4, -, e4⟩ := a 4 (by omega)
    refine ⟨fun l => if l = 0 then w0 else if l = 1 then w1 else if l = 2 then w2 else if l = 3 then w3 else w4, fun l hl => ?_, ?_⟩
    · have : l = 0 ∨ l = 1 ∨ l = 2 ∨ l = 3 ∨ l = 4 := by omega
      rcases this with rfl | rfl | rfl | rfl | rfl
      · exact e0
      · exact e1
      · exact e2
      · exact e3
      · exact e4
    · show w0 + w1 + w2 + w3 + w4 < 2000000
      omega
  refine qu_ (v := if 0 ≤ x1 ∧ x1 ≤ 4 then shv_ I m n x1.toNatClampNeg x2 else -1) h (fun M ta tm Q hr K => ?_) (fun S E B Q hS RK hJ K => ?_)
  · refine wc_X10_share_0 (re_m5 hr) ?_
    obtain ⟨b1, b2⟩ := re_bk hr
    obtain ⟨r1, r2, r3⟩ := re_rules hr
    obtain ⟨s1, s2, s3, s4, s5, s6, s7, s8, s9, -⟩ := br_S hr.1.2.1
    rw [b1]
    refine ⟨b2, cb_laneAt (br_S hr.1.2.1) (fun l hl e => ?_) (fun q => ?_)⟩
    · rw [e, if_pos ⟨nI_pos' (by omega), show nI l ≤ nI 4 from nI_le (by omega) (by decide)⟩, nI_clamp (by omega)] at K
      unfold shv_ at K
      have kl := br_ln hr.1.2.1 hl
      have hL := hr.1.2.1.2.2.1 l hl
      refine ⟨fun _ => ⟨fun e2 => ⟨kl.1, ?_⟩, fun e2 => ⟨kl.1, ?_⟩, fun e2 => ?_, fun e2 => ?_, fun e2 => ?_, fun e2 => ?_⟩, fun q => absurd q (by omega)⟩
      · rw [b1]
        rw [if_pos e2] at K
        refine ⟨b2, cb_taken (br_S hr.1.2.1) (ce_thou hg hl ?_ (su_eq (fun l' hl' => ?_)) K)⟩
        · exact (hr.1.2.2.2 l hl).2 0 (by decide)
        · exact (hr.1.2.2.2 l' hl').2 0 (by decide)
      · rw [b1]
        rw [e2] at K
        refine ⟨b2, cb_weights (br_S hr.1.2.1) (ce_thou hg0 hl hL.1 (su_eq (fun l' hl' => ?_)) K)⟩
        exact (hr.1.2.1.2.2.1 l' hl').1
      · rw [e2] at K
        have K : Q (if ra_L I m l 3 = 0 then _ else 0) M := K
        refine wc_X10_placesIn_0 (re_m5 hr) ⟨kl.1, fun z => ?_, fun z => ?_⟩
        · rw [b1, r1, s4, hr.1.1.1.2.2.2.1]
          have z : mm_i M (6 + 6 + l) 4 = 0 := z
          rw [re_open hr hl, cls_id h.2.1.1 l hl] at z
          rw [if_pos z, ← mi3] at K
          refine ⟨b2, 6, r2, by decide, s5, hr.2.1.1.1, ?_⟩
          have l79 : mm_i M 79 1 = nI n := by
            have := hr.2.1.1.2.2.2.2.2.1
            rwa [List.length_map, List.length_range] at this
          have l8 : mm_i M (6 + 2) 1 = nI (cn_ (ra_st I m (-1)) n) := by
            have := hr.1.2.1.1.2.2.2.2.1.2.2.2.2.2.1
            rwa [List.length_map, lkS (ix_tv h)] at this
          have l7 : mm_i M (6 + 6 + l) 7 = nI (cn_ (ra_st I m (nI l)) n) := br_7 hr.1.2.1 hl
          rw [l79, l8, l7, r3 4 (by decide), hL.2.1]
          exact K
        · have z : ¬ mm_i M (6 + 6 + l) 4 = 0 := z
          rw [re_open hr hl, cls_id h.2.1.1 l hl] at z
          rw [if_neg z] at K
          exact K
      · rw [b1]
        rw [e2] at K
        have K : Q (io_ (el_ I m (nI l) n)) M := K
        have ee : bs_ (iof_ I m 0 (some l)) (fun a c => decide (ra_T I m a 5 < ra_T I m c 5)) n = el_ I m (nI l) n := bs_eq (fun t ht => iof_wt (ix_tv h) ht hl) (fun _ _ _ _ => rfl)
        refine ⟨b2, cb_eldest hr.1.2.1 hl (re_0 hr) ?_⟩
        rw [ee]
        exact ce_number hr (fun t q => (bs_lt q).1) K
      · rw [b1]
        rw [e2] at K
        refine ⟨b2, cb_sizes hr.1.2.1 hl ?_⟩
        rw [su_eq (f := fun t => if iof_ I m 0 (some l) t = true then ra_T I m t 2 else 0) (g := fun t => if ra_wt I m (nI l) t = true then ra_T I m t 2 else 0) (fun t ht => by show (if iof_ I m 0 (some l) t = true then _ else _) = _; rw [iof_wt (ix_tv h) ht hl])]
        exact K
      · rw [if_neg e2.1, if_neg e2.2.1, if_neg e2.2.2.1, if_neg e2.2.2.2.1, if_neg e2.2.2.2.2] at K
        exact K
    · rw [if_neg q] at K
      exact ⟨fun z => absurd rfl z, fun _ => K⟩
  · have eL : ∀ l f, ra_L (pt_ S E I) m l f = ra_L I m l f := fun l f => uf_at hS (by omega) (by omega)
    refine wq_X11_share_0 RK ⟨fun c => ?_, fun c => by rw [if_neg c] at K; exact K⟩
    rw [if_pos c] at K
    obtain ⟨l, hl, rfl⟩ := i32_in (N := 4) (by decide) c
    rw [nI_clamp (by omega)] at K
    unfold shv_ at K
    refine ⟨fun e2 => ?_, fun e2 => ?_, fun e2 => ?_, fun e2 => ?_, fun e2 => ?_, fun e2 => ?_⟩
    · rw [if_pos e2] at K
      refine rc_part (f := 5) RK (by omega) (by omega) ?_
      rw [pof_o (fun l => eL l 5)]
      exact K
    · rw [e2] at K
      refine rc_part (f := 0) RK (by omega) (by omega) ?_
      rw [pof_o (fun l => eL l 0)]
      exact K
    · rw [e2] at K
      have K : Q (if ra_L I m l 3 = 0 then _ else 0) (pt_ S E I) := K
      refine wq_X11_roomLeft_0 RK ⟨l, ⟨rfl, by omega⟩, fun z => ?_, fun z => ?_⟩
      · rw [if_pos ((eL l 3).symm.trans z)] at K
        refine rc_standing RK (ix_1 hJ) h4 (rc_standing RK (ix_1 hJ) h4 ?_)
        rw [nt_st (uf_us hS), nt_st (uf_us hS), ix_1 hJ, uf_at hS (by omega) (by omega), uf_at hS (by omega) (by omega)]
        exact K
      · rw [if_neg (fun y => z ((eL l 3).trans y))] at K
        exact K
    · rw [e2] at K
      refine rc_eldest RK (ix_1 hJ) h4 ?_
      rw [show el_ (pt_ S E I) m (nI l) n = el_ I m (nI l) n from bs_eq (fun t ht => by rw [nt_wt' (uf_us hS)]) (fun a c q1 q2 => by rw [show ra_T (pt_ S E I) m a 5 = ra_T I m a 5 from uf_at hS (by omega) (by omega), show ra_T (pt_ S E I) m c 5 = ra_T I m c 5 from uf_at hS (by omega) (by omega)])]
      exact K
    · rw [e2] at K
      refine rc_sizes RK (ix_1 hJ) h4 ?_
      rw [su_eq (f := fun t => if ra_wt (pt_ S E I) m (nI l) t = true then ra_T (pt_ S E I) m t 2 else 0) (g := fun t => if ra_wt I m (nI l) t = true then ra_T I m t 2 else 0) (fun t ht => by show (if ra_wt (pt_ S E I) m (nI l) t = true then ra_T (pt_ S E I) m t 2 else 0) = _; rw [nt_wt' (uf_us hS), show ra_T (pt_ S E I) m t 2 = ra_T I m t 2 from uf_at hS (by omega) (by omega)])]
      exact K
    · rw [if_neg e2.1, if_neg e2.2.1, if_neg e2.2.2.1, if_neg e2.2.2.2.1, if_neg e2.2.2.2.2] at K
      exact K
end Shr3
