/-! lapse in the class: waking, going aside -/
section Lapb
variable {M : mm_T} {I : Nat → Nat → Int32} {m n t T W P L : Nat} {ta tm : Nat → Nat} {v : Int32}
def wp_ (I : fI) (m : Nat) (v : Int32) (x : Nat) : Bool := decide ((ra_T I m x 6 = 2 ∧ ¬ v < ra_T I m x 8) ∨ (fb_ I m v x ∧ ¬ ac_ I m x ∧ ¬ v < dF_ I m x))
theorem ce_wby (h : re_ M I m n ta tm) (hi : ix_ I m n T W P L) {Q : Int32 → mm_T → Prop} (K : Q (nI (lv2 I m n v)) M) : cs_i mt_X10_wakingBy [pv_r 5, pv_i v] M Q := by
  obtain ⟨r1, r2, r3, r4, r5, r6, r7, r8, r9⟩ := re_sl h
  obtain ⟨u1, u2, u3⟩ := re_rules h
  have e0 : ((sl_ (sgI I m) n).filter (wp_ I m v)).length = lv2 I m n v := sl_cn hi (fun x _ q => by
    rcases of_decide_eq_true q with y | y
    · rw [y.1]; decide
    · rw [y.1.1]; decide)
  have loop : ∀ (zs : List Nat) (i c : Nat), (sl_ (sgI I m) n).drop i = zs → i ≤ (sl_ (sgI I m) n).length → c + (zs.filter (wp_ I m v)).length = lv2 I m n v → cw_i mt_X10_wakingBy 4 [some (pv_r 5), some (pv_i v), some (pv_i (nI c)), some (pv_i (nI i)), none, none] [] M Q := by
    intro zs
    induction zs with
    | nil =>
      intro i c hz hle hc
      have hl := dr_end hz
      refine wc_X10_wakingBy_4 (re_m5 h) ?_
      rw [r1, r3, r5]
      have hc : c = lv2 I m n v := hc
      exact ⟨r2, r4, fun _ => by rw [hc]; exact K, fun q => absurd (nI_le hl (by omega)) q⟩
    | cons z zs ih =>
      intro i c hz hle hc
      obtain ⟨hl, ei, hz'⟩ := dr_at hz
      obtain ⟨g1, g2, g3⟩ := r9 i z ei
      have yes : wp_ I m v z = true → cw_i mt_X10_wakingBy 4 [some (pv_r 5), some (pv_i v), some (pv_i (nI c + 1)), some (pv_i (nI (i + 1))), none, none] [] M Q := fun y => by
        rw [nI_1]
        exact ih (i + 1) (c + 1) hz' (by omega) (by rw [List.filter_cons, if_pos y, List.length_cons] at hc; omega)
      have no : wp_ I m v z = false → cw_i mt_X10_wakingBy 4 [some (pv_r 5), some (pv_i v), some (pv_i (nI c)), some (pv_i (nI (i + 1))), none, none] [] M Q := fun y => by
        exact ih (i + 1) c hz' (by omega) (by rw [List.filter_cons, if_neg (by rw [y]; decide)] at hc; exact hc)
      refine wc_X10_wakingBy_4 (re_m5 h) ?_
      rw [r1, r3, r5, r6]
      refine ⟨r2, r4, fun q => absurd q (nI_ge hl (by omega)), fun _ => ⟨48, r7, i, ⟨rfl, by omega⟩, ?_⟩⟩
      rw [g1]
      refine ⟨(re_ge h g2).2, ce_endsBy h hi g2 ?_⟩
      by_cases y : fb_ I m v z
      · rw [if_pos y]
        refine ⟨fun q => absurd q (by decide), fun _ => ?_⟩
        have y3 : ra_T I m z 6 = 3 := y.1
        have nd : ¬ (ra_T I m z 6 = 2 ∧ ¬ v < ra_T I m z 8) := fun q => by
          have := q.1
          rw [y3] at this
          exact absurd this (by decide)
        obtain ⟨r, hr9, er⟩ := (hi.1.1.2.2 z g2).2.2.2.2 (by rw [y3]; decide)
        have e8 := re_8 h g2
        obtain ⟨w, k, -, -, -, -, -, -, -, h11⟩ := ix_out hi g2 y3
        have e12 := (h.1.2.2.1.1 z g2).2.2.1.2.2 h11
        rw [r1, u1, u3 3 (by decide), e8]
        refine ⟨r2, 6, u2, by decide, fun c1 => ce_dueBy h hi g2 ?_, fun c1 => ce_dueBy h hi g2 ?_⟩
        · rw [if_neg nd]
          refine ⟨fun q => absurd rfl q, fun _ => no ?_⟩
          refine decide_eq_false (fun q => ?_)
          rcases q with q | q
          · exact nd q
          · exact q.2.1 c1
        · rw [if_neg nd]
          refine ⟨fun q => absurd rfl q, fun _ => ?_⟩
          refine wc_X10_restOf_0 (re_m5 h) ?_
          rw [r1, u1]
          refine ⟨r2, 6, u2, by decide, ?_⟩
          rw [e8, er, nI_1, rest_eq r hr9, u3 2 (by decide), e12]
          have ed : ra_T I m z 11 + I (m + 1) (4 + 2) <<< (nI (r + 1) - 1 &&& 31) = dF_ I m z := by
            unfold dF_ rst_
            rw [er, nI_1]
          rw [ed]
          refine ⟨fun c2 => no ?_, fun c2 => yes ?_⟩
          · refine decide_eq_false (fun q => ?_)
            rcases q with q | q
            · exact nd q
            · exact q.2.2 c2
          · exact decide_eq_true (Or.inr ⟨y, c1, c2⟩)
      · rw [if_neg y]
        refine ⟨fun _ => ce_dueBy h hi g2 ?_, fun q => absurd rfl q⟩
        by_cases d : ra_T I m z 6 = 2 ∧ ¬ v < ra_T I m z 8
        · rw [if_pos d]
          exact ⟨fun _ => yes (decide_eq_true (Or.inl d)), fun q => absurd q (by decide)⟩
        · rw [if_neg d]
          refine ⟨fun q => absurd rfl q, fun _ => no (decide_eq_false (fun q => ?_))⟩
          rcases q with q | q
          · exact d q
          · exact y q.1
  exact wc_X10_wakingBy_0 (re_m5 h) (loop _ 0 0 rfl (Nat.zero_le _) (by rw [Nat.zero_add]; exact e0))
def hp_ (I : fI) (m t x : Nat) : Bool := decide (ra_T I m x 6 = 1 ∧ rt_ I m x x = t)
theorem rt_le (hi : ix_ I m n T W P L) : ∀ (f x : Nat), x < n → rt_ I m f x ≤ x
  | 0, x, _ => Nat.le_refl _
  | f + 1, x, hx => by
    show (if ra_T I m x 6 = 1 then rt_ I m f (ra_T I m x 4).toNatClampNeg else x) ≤ x
    split
    · rename_i h1
      obtain ⟨q, q1, q2, q3⟩ := hi.1.2.2.2 x hx h1
      have h4 := ix_4 hi
      rw [q2, nI_clamp (by omega)]
      exact Nat.le_trans (rt_le hi f q (by omega)) (by omega)
    · exact Nat.le_refl _
theorem ce_hba (h : re_ M I m n ta tm) (hi : ix_ I m n T W P L) (ht : t < n) {Q : Int32 → mm_T → Prop} (K : Q (nI (cn_ (hp_ I m t) n)) M) : cs_i mt_X10_heldBehindAll [pv_r 5, pv_r (ta t)] M Q := by
  obtain ⟨r1, r2, r3, r4, r5, r6, r7, r8, r9⟩ := re_sl h
  have h4 := ix_4 hi
  have gt := re_ge h ht
  have e0 : ((sl_ (sgI I m) n).filter (hp_ I m t)).length = cn_ (hp_ I m t) n := sl_cn hi (fun x _ q => by rw [(of_decide_eq_true q).1]; decide)
  have loop : ∀ (zs : List Nat) (i c : Nat), (sl_ (sgI I m) n).drop i = zs → i ≤ (sl_ (sgI I m) n).length → c + (zs.filter (hp_ I m t)).length = cn_ (hp_ I m t) n → cw_i mt_X10_heldBehindAll 4 [some (pv_r 5), some (pv_r (ta t)), some (pv_i (nI c)), some (pv_i (nI i)), none, none] [] M Q := by
    intro zs
    induction zs with
    | nil =>
      intro i c hz hle hc
      have hl := dr_end hz
      refine wc_X10_heldBehindAll_4 (re_m5 h) ?_
      rw [r1, r3, r5]
      have hc : c = cn_ (hp_ I m t) n := hc
      exact ⟨r2, r4, fun _ => by rw [hc]; exact K, fun q => absurd (nI_le hl (by omega)) q⟩
    | cons z zs ih =>
      intro i c hz hle hc
      obtain ⟨hl, ei, hz'⟩ := dr_at hz
      obtain ⟨g1, g2, g3⟩ := r9 i z ei
      have yes : hp_ I m t z = true → cw_i mt_X10_heldBehindAll 4 [some (pv_r 5), some (pv_r (ta t)), some (pv_i (nI c + 1)), some (pv_i (nI i + 1)), none, none] [] M Q := fun y => by
        rw [nI_1, nI_1]
        exact ih (i + 1) (c + 1) hz' (by omega) (by rw [List.filter_cons, if_pos y, List.length_cons] at hc; omega)
      have no : hp_ I m t z = false → cw_i mt_X10_heldBehindAll 4 [some (pv_r 5), some (pv_r (ta t)), some (pv_i (nI c)), some (pv_i (nI i + 1)), none, none] [] M Q := fun y => by
        rw [nI_1]
        exact ih (i + 1) c hz' (by omega) (by rw [List.filter_cons, if_neg (by rw [y]; decide)] at hc; exact hc)
      have gz := re_ge h g2
      have e7 := re_7 h g2
      have walk : ∀ (f y : Nat), y ≤ f → y < n → ra_T I m y 6 ≤ 3 → rt_ I m f y = rt_ I m z z → cw_i mt_X10_heldBehindAll 36 [some (pv_r 5), some (pv_r (ta t)), some (pv_i (nI c)), some (pv_i (nI i)), some (pv_r (ta z)), some (pv_r (ta y))] [] M Q := by
        intro f
        induction f with
        | zero =>
          intro y hy hyn h3 hrt
          have gy := re_ge h hyn
          have n1 : ¬ ra_T I m y 6 = 1 := fun q => by
            obtain ⟨q', q1, -⟩ := hi.1.2.2.2 y hyn q
            omega
          have hrt : y = rt_ I m z z := hrt
          refine wc_X10_heldBehindAll_36 (re_m5 h) ⟨fun q => absurd q (by omega), fun _ => ⟨gy.2, ?_⟩⟩
          rw [re_7 h hyn, e7]
          refine ⟨fun _ => ⟨gz.2, fun c1 => no (decide_eq_false (fun q => c1 q.1)), fun c1 => ⟨Or.inr ⟨6, by decide, gt.2⟩, fun c2 => no (decide_eq_false (fun q => c2 (by rw [hrt, q.2]))), fun c2 => yes (decide_eq_true ⟨c1, ?_⟩)⟩⟩, fun q => absurd q n1⟩
          rw [← hrt]
          exact h.1.2.2.1.2.1 y t hyn ht c2
        | succ f ihf =>
          intro y hy hyn h3 hrt
          have gy := re_ge h hyn
          refine wc_X10_heldBehindAll_36 (re_m5 h) ⟨fun q => absurd q (by omega), fun _ => ⟨gy.2, ?_⟩⟩
          rw [re_7 h hyn, e7]
          refine ⟨fun n1 => ⟨gz.2, fun c1 => no (decide_eq_false (fun q => c1 q.1)), fun c1 => ⟨Or.inr ⟨6, by decide, gt.2⟩, ?_, ?_⟩⟩, fun q1 => ?_⟩
          · have hrt : y = rt_ I m z z := (show rt_ I m (f + 1) y = y from if_neg n1).symm.trans hrt
            exact fun c2 => no (decide_eq_false (fun q => c2 (by rw [hrt, q.2])))
          · have hrt : y = rt_ I m z z := (show rt_ I m (f + 1) y = y from if_neg n1).symm.trans hrt
            exact fun c2 => yes (decide_eq_true ⟨c1, by rw [← hrt]; exact h.1.2.2.1.2.1 y t hyn ht c2⟩)
          · obtain ⟨q, a1, a2, a3⟩ := hi.1.2.2.2 y hyn q1
            have eb : mm_r M (ta y) 1 = ta q := by
              rcases ce_behind h (ix_bl hi) hyn with ⟨b1, -⟩ | ⟨q', b0, b1, -, b3⟩
              · rw [a2] at b1
                exact absurd b1 (nI_nm (by omega))
              · rw [a2, nI_eq (by omega) (by omega)] at b1
                rw [b3, b1]
            rw [eb]
            have e : rt_ I m (f + 1) y = rt_ I m f q := by
              show (if ra_T I m y 6 = 1 then rt_ I m f (ra_T I m y 4).toNatClampNeg else y) = _
              rw [if_pos q1, a2, nI_clamp (by omega)]
            exact ihf q (by omega) (by omega) a3 (e.symm.trans hrt)
      refine wc_X10_heldBehindAll_4 (re_m5 h) ?_
      rw [r1, r3, r5, r6]
      refine ⟨r2, r4, fun q => absurd q (nI_ge hl (by omega)), fun _ => ⟨48, r7, i, ⟨rfl, by omega⟩, ?_⟩⟩
      rw [g1]
      exact walk z z (Nat.le_refl _) g2 ((sd_of (ix_tv hi) g2).mp g3) rfl
  exact wc_X10_heldBehindAll_0 (re_m5 h) (loop _ 0 0 rfl (Nat.zero_le _) (by rw [Nat.zero_add]; exact e0))
end Lapb
