/-! the board's transfer -/
section Trf2
variable {M : mm_T} {I J : Nat → Nat → Int32} {m n b : Nat} {ta : Nat → Nat}
theorem cb_transfer (h : br_ M b ta I m n) {t l : Nat} (ht : t < n) (hst : sd_ (sgI I m t) = true) (hl : l < 5) (hne : l ≠ lmI I m t) {P : mm_T → Prop} (K : ∀ M', br_ M' b ta (sp_mv I m n t l) m n → (∀ l', l' < 5 → mm_i M' (b + 6 + l') 4 = if l' = lmI I m t ∧ mm_i M (b + 6 + l') 4 = 1 ∧ cn_ (ra_st (sp_mv I m n t l) m (nI l')) n = 0 then 2 else mm_i M (b + 6 + l') 4) → mm_r M' (ta t) 2 = b + 6 + l → fx_ (tfI b (lmI I m t) l) (fun p j => p = ta t ∧ j = 2) M M' → P M') : cs_v mt_X0_transfer [pv_r b, pv_r (ta t), pv_r (b + 6 + l)] M P := by
  obtain ⟨a1, a2, a3, a4, a5, a6⟩ := id h
  obtain ⟨hS, h4, hL, hC, hR, hTs⟩ := id a1
  obtain ⟨hk, h0, h7, h2, hl5⟩ := id (br_tc h ht hst)
  obtain ⟨n1, n2, n3, n4, n5, n6, n7⟩ := tc_ne hS hk
  have sdm : ∀ x : Int32, (sd_ x = true) = (0 ≤ x ∧ x ≤ 3) := fun x => by unfold sd_; exact decide_eq_true_eq
  obtain ⟨o, ho⟩ : ∃ o, o = lmI I m t := ⟨_, rfl⟩
  obtain ⟨x, hx⟩ : ∃ x, x = sgI I m t := ⟨_, rfl⟩
  obtain ⟨J, hJ⟩ : ∃ J, J = sp_mv I m n t l := ⟨_, rfl⟩
  rw [← ho] at hl5 h2 hne K
  rw [← hx] at h7
  rw [← hJ] at K
  have T0o : ra_T I m t 0 = nI o := by rw [ho]; exact (lm_of a2 ht).2
  have x6 : ra_T I m t 6 = x := hx.symm
  -- what the new ints say
  have JT : ∀ x f, f < 14 → ra_T J m x f = if x = t ∧ f = 0 then nI l else ra_T I m x f := fun x f q => by rw [hJ]; exact mv_T hl q
  have JS : ∀ t', sgI J m t' = sgI I m t' := fun t' => by
    show ra_T J m t' 6 = ra_T I m t' 6
    rw [JT t' 6 (by decide), if_neg (by omega)]
  have JM : ∀ t', lmI J m t' = if t' = t then l else lmI I m t' := fun t' => by
    unfold lmI
    rw [JT t' 0 (by decide)]
    by_cases z : t' = t
    · rw [if_pos ⟨z, rfl⟩, if_pos z, nI_clamp (by omega)]
    · rw [if_neg (fun y => z y.1), if_neg z]
  have JL : ∀ l' f, l' < 5 → f < 10 → (l' ≠ l ∨ f ≠ 4) → ra_L J m l' f = ra_L I m l' f := fun l' f q1 q2 q3 => by rw [hJ]; exact mv_o hl (by omega)
  have tvJ : tv_ J m n := by
    refine ⟨by rw [hJ, mv_o hl (by omega)]; exact a2.1, a2.2.1, fun t' q => ⟨?_, ?_⟩⟩
    · rw [JT t' 0 (by decide)]
      by_cases z : t' = t
      · rw [if_pos ⟨z, rfl⟩]; exact ⟨l, hl, rfl⟩
      · rw [if_neg (fun y => z y.1)]; exact (a2.2.2 t' q).1
    · rw [JT t' 6 (by decide), if_neg (by omega)]
      exact (a2.2.2 t' q).2
  refine wc_X0_transfer_0 hS.1 (cc_count hS hk h2 hl5 (fun M1 hc1 h61 h71 h81 f1 => ⟨(f1.2.1 _).trans hk, ?_⟩))
  rw [h7] at hc1 h61 h71 h81
  have r1 : mm_r M1 (ta t) 2 = b + 6 + o := (f1.2.2.2.1 _ _ (fun q => q)).trans h2
  have kl1 : mm_k M1 (b + 6 + o) = (3, 14) := (f1.2.1 _).trans (hS.2.2.2.2.2.2.2.2.2.2.2 o hl5).1
  rw [r1]
  refine ⟨kl1, cc_close kl1 ?_⟩
  obtain ⟨M5, h5⟩ : ∃ M5, M5 = (if mm_i M1 (b + 6 + o) 4 = 1 ∧ mm_i M1 (b + 6 + o) 7 = 0 then mm_pi M1 (b + 6 + o) 4 2 else M1) := ⟨_, rfl⟩
  rw [← h5]
  intro M9 h9
  have f5 : fx_ (fun p j => p = b + 6 + o ∧ j = 4) (fun _ _ => False) M1 M5 := by
    rw [h5]
    split
    · exact fx_pi ⟨rfl, rfl⟩
    · exact fx_rf
  have f9 : fx_ (tfI b o l) (fun p j => p = ta t ∧ j = 2) M M9 := by
    rw [h9]
    refine fx_tr (fx_up f1 ?_ (fun _ _ q => q.elim)) (fx_tr (fx_up f5 ?_ (fun _ _ q => q.elim)) (fx_pr ⟨rfl, rfl⟩))
    · intro p j q
      unfold tfI
      omega
    · intro p j q
      unfold tfI
      omega
  have i9 : ∀ p j, mm_i M9 p j = mm_i M5 p j := fun p j => by rw [h9]; rfl
  have c4 : ∀ s, mm_i M9 (b + 4) s = mm_i M1 (b + 4) s := fun s => by rw [i9, f5.2.2.1 _ _ (by omega)]
  have lo : ∀ j, j ≠ 4 → mm_i M9 (b + 6 + o) j = mm_i M1 (b + 6 + o) j := fun j q => by rw [i9, f5.2.2.1 _ _ (by omega)]
  have x9 : mm_i M9 (ta t) 7 = x := by
    rw [f9.2.2.1 _ _ ?_]
    · exact h7
    · rintro (q | q | q)
      · exact n5 q
      · exact n7 o hl5 q.1
      · exact n7 l hl q.1
  have r9 : mm_r M9 (ta t) 2 = b + 6 + l := by rw [h9]; exact mr_prs
  have ii : ∀ p j, p ≠ b + 4 → (p ≠ b + 6 + o) → (p ≠ b + 6 + l) → mm_i M9 p j = mm_i M p j := fun p j q1 q2 q3 => f9.2.2.1 _ _ (by unfold tfI; omega)
  have il : ∀ j, mm_i M9 (b + 6 + l) j = mm_i M (b + 6 + l) j := fun j => by rw [i9, f5.2.2.1 _ _ (by omega), f1.2.2.1 _ _ (by omega)]
  have bS9 : bS M9 b := bS_o hS f9.2.1 (fun a j q => f9.2.2.2.1 a j (fun y => by omega)) (fun l' q => f9.2.2.1 _ _ (by unfold tfI; omega))
  -- the end, once the pass is right
  have fin : ∀ M17, fx_ (fun p j => p = b + 6 + l ∧ j = 5) (fun _ _ => False) M9 M17 → mm_i M17 (b + 6 + l) 5 = ra_L J m l 4 → cs_v mt_X0_count [pv_r b, pv_r (ta t), pv_i 1] M17 (fun M21 => P M21) := fun M17 f17 e5 => by
    have bS17 : bS M17 b := bS_o bS9 f17.2.1 (fun a j _ => f17.2.2.2.1 a j (fun y => y)) (fun l' q => f17.2.2.1 _ _ (by omega))
    have k17 : mm_k M17 (ta t) = (6, 17) := (f17.2.1 _).trans ((f9.2.1 _).trans hk)
    have r17 : mm_r M17 (ta t) 2 = b + 6 + l := (f17.2.2.2.1 _ _ (fun y => y)).trans r9
    have x17 : mm_i M17 (ta t) 7 = x := (f17.2.2.1 _ _ (fun y => n7 l hl y.1)).trans x9
    refine cc_count bS17 k17 r17 hl (fun M' hc2 h62 h72 h82 f2 => ?_)
    rw [x17] at hc2 h62 h72 h82
    have F : fx_ (tfI b o l) (fun p j => p = ta t ∧ j = 2) M M' := by
      refine fx_tr f9 (fx_tr (fx_up f17 ?_ (fun _ _ q => q.elim)) (fx_up f2 ?_ (fun _ _ q => q.elim)))
      · intro p j q
        unfold tfI
        omega
      · intro p j q
        unfold tfI
        omega
    have j17 : ∀ p j, (p ≠ b + 6 + l ∨ j ≠ 5) → mm_i M17 p j = mm_i M9 p j := fun p j q => f17.2.2.1 _ _ (by omega)
    have jO : ∀ j, j ≠ 4 → mm_i M' (b + 6 + o) j = mm_i M1 (b + 6 + o) j := fun j q => by rw [f2.2.2.1 _ _ (by omega), j17 _ _ (by omega), lo j q]
    have jX : ∀ l' j, l' < 5 → l' ≠ o → l' ≠ l → mm_i M' (b + 6 + l') j = mm_i M (b + 6 + l') j := fun l' j q1 q2 q3 => F.2.2.1 _ _ (by unfold tfI; omega)
    have tne : ∀ t', t' < n → sd_ (sgI I m t') = true → ta t' ≠ b + 4 ∧ (∀ q, q < 5 → ta t' ≠ b + 6 + q) := fun t' q1 q2 => by
      have := tc_ne hS (hTs t' q1 q2).1
      exact ⟨this.2.2.2.2.1, this.2.2.2.2.2.2⟩
    have ti : ∀ t' j, t' < n → sd_ (sgI I m t') = true → mm_i M' (ta t') j = mm_i M (ta t') j := fun t' j q1 q2 => F.2.2.1 _ _ (by
      obtain ⟨y1, y2⟩ := tne t' q1 q2
      rintro (q | q | q)
      · exact y1 q
      · exact y2 o hl5 q.1
      · exact y2 l hl q.1)
    rw [j17 (b + 6 + l) 6 (by omega), il] at h62
    rw [j17 (b + 6 + l) 7 (by omega), il] at h72
    rw [j17 (b + 6 + l) 8 (by omega), il] at h82
    have cC : ∀ s, s < 7 → mm_i M' (b + 4) s = nI (cn_ (fun t' => decide (sgI J m t' = nI s)) n) := fun s hs => by
      have e : cn_ (fun t' => decide (sgI J m t' = nI s)) n = cn_ (fun t' => decide (sgI I m t' = nI s)) n := cn_eq (fun t' _ => by rw [JS])
      rw [hc2 s hs, j17 _ _ (by omega), c4, hc1 s hs, e]
      exact nI_adj rfl (hC s hs)
    have cL : ∀ l', l' < 5 → mm_i M' (b + 6 + l') 6 = nI (c6_ (sgI J m) (lmI J m) n l') ∧ mm_i M' (b + 6 + l') 7 = nI (c7_ (sgI J m) (lmI J m) n l') ∧ mm_i M' (b + 6 + l') 8 = nI (c8_ (sgI J m) (lmI J m) n l') := fun l' hl' => by
      have on : o ≠ l := Ne.symm hne
      by_cases e : l' = o
      · subst e
        rw [jO 6 (by decide), jO 7 (by decide), jO 8 (by decide), h61, h71, h81]
        refine ⟨nI_dn ?_ (hL l' hl5).1, nI_dn ?_ (hL l' hl5).2.1, nI_dn ?_ (hL l' hl5).2.2⟩
        · have := cn_one (p := fun t' => decide (sgI J m t' = 0 ∧ lmI J m t' = l')) (q := fun t' => decide (sgI I m t' = 0 ∧ lmI I m t' = l')) (t := t) (fun i hi => by rw [JS, JM, if_neg hi]) ht
          unfold c6_
          simpa [JS, JM, ← hx, ← ho, hne] using this
        · have := cn_one (p := fun t' => sd_ (sgI J m t') && decide (lmI J m t' = l')) (q := fun t' => sd_ (sgI I m t') && decide (lmI I m t' = l')) (t := t) (fun i hi => by rw [JS, JM, if_neg hi]) ht
          unfold c7_
          simpa [JS, JM, ← hx, ← ho, hne, sdm] using this
        · have := cn_one (p := fun t' => decide (sgI J m t' = 3 ∧ lmI J m t' = l')) (q := fun t' => decide (sgI I m t' = 3 ∧ lmI I m t' = l')) (t := t) (fun i hi => by rw [JS, JM, if_neg hi]) ht
          unfold c8_
          simpa [JS, JM, ← hx, ← ho, hne] using this
      · by_cases e2 : l' = l
        · subst e2
          rw [h62, h72, h82]
          refine ⟨nI_u1 ?_ (hL l' hl').1, nI_u1 ?_ (hL l' hl').2.1, nI_u1 ?_ (hL l' hl').2.2⟩
          · have := cn_one (p := fun t' => decide (sgI J m t' = 0 ∧ lmI J m t' = l')) (q := fun t' => decide (sgI I m t' = 0 ∧ lmI I m t' = l')) (t := t) (fun i hi => by rw [JS, JM, if_neg hi]) ht
            unfold c6_
            simpa [JS, JM, ← hx, ← ho, on] using this
          · have := cn_one (p := fun t' => sd_ (sgI J m t') && decide (lmI J m t' = l')) (q := fun t' => sd_ (sgI I m t') && decide (lmI I m t' = l')) (t := t) (fun i hi => by rw [JS, JM, if_neg hi]) ht
            unfold c7_
            simpa [JS, JM, ← hx, ← ho, on, sdm] using this
          · have := cn_one (p := fun t' => decide (sgI J m t' = 3 ∧ lmI J m t' = l')) (q := fun t' => decide (sgI I m t' = 3 ∧ lmI I m t' = l')) (t := t) (fun i hi => by rw [JS, JM, if_neg hi]) ht
            unfold c8_
            simpa [JS, JM, ← hx, ← ho, on] using this
        · rw [jX l' _ hl' e e2, jX l' _ hl' e e2, jX l' _ hl' e e2, (hL l' hl').1, (hL l' hl').2.1, (hL l' hl').2.2]
          refine ⟨?_, ?_, ?_⟩ <;> (congr 1; refine cn_eq (fun i _ => ?_); by_cases q : i = t)
          · rw [q]; simp [JS, JM, ← ho, Ne.symm e, Ne.symm e2]
          · rw [JS, JM, if_neg q]
          · rw [q]; simp [JS, JM, ← ho, Ne.symm e, Ne.symm e2]
          · rw [JS, JM, if_neg q]
          · rw [q]; simp [JS, JM, ← ho, Ne.symm e, Ne.symm e2]
          · rw [JS, JM, if_neg q]
    have eSl : sl_ (sgI J m) n = sl_ (sgI I m) n := fl_eq (fun t' _ => by rw [JS])
    have rM : mm_r M' (ta t) 2 = b + 6 + l := (f2.2.2.2.1 _ _ (fun y => y)).trans r17
    refine K M' ⟨⟨bS_o hS F.2.1 (fun a j q => F.2.2.2.1 a j (fun y => by omega)) (fun l' q => F.2.2.1 _ _ (by unfold tfI; omega)), h4, cL, cC, by rw [eSl]; exact ro_o hR F.2.1 (F.2.2.2.1 _ _ (fun y => n3 y.1.symm)) (F.2.2.1 _ _ (by unfold tfI; omega)) (fun i => F.2.2.2.1 _ _ (fun y => n4 y.1.symm)), fun t' q1 q2 => ?_⟩, tvJ, fun l' q => ?_, fun k q => ?_, fun t' q1 q2 => ?_, fun t1 t2 q1 q2 q3 q4 q5 => ?_⟩ (fun l' q => ?_) rM F
    · rw [JS] at q2
      obtain ⟨g1, g2, g3, g4, g5⟩ := hTs t' q1 q2
      by_cases z : t' = t
      · exact ⟨(F.2.1 _).trans g1, (ti t' _ q1 q2).trans g2, by rw [ti t' _ q1 q2, JS]; exact g3, by rw [JM, if_pos z, z]; exact rM, by rw [JM, if_pos z]; exact hl⟩
      · exact ⟨(F.2.1 _).trans g1, (ti t' _ q1 q2).trans g2, by rw [ti t' _ q1 q2, JS]; exact g3, by rw [JM, if_neg z]; exact (F.2.2.2.1 _ _ (fun y => z (a6 t' t q1 ht q2 hst y.1))).trans g4, by rw [JM, if_neg z]; exact g5⟩
    · rw [JL l' 0 q (by decide) (by omega), JL l' 1 q (by decide) (by omega), JL l' 2 q (by decide) (by omega), F.2.2.1 (b + 6 + l') 1 (by unfold tfI; omega), F.2.2.1 (b + 6 + l') 2 (by unfold tfI; omega), F.2.2.1 (b + 6 + l') 3 (by unfold tfI; omega)]
      refine ⟨(a3 l' q).1, (a3 l' q).2.1, (a3 l' q).2.2.1, ?_⟩
      by_cases z : l' = l
      · rw [z, f2.2.2.1 _ _ (by omega)]
        exact e5
      · rw [F.2.2.1 _ _ (by unfold tfI; omega), JL l' 4 q (by decide) (Or.inl z)]
        exact (a3 l' q).2.2.2
    · rw [F.2.2.1 _ _ (by unfold tfI; omega), hJ, mv_o hl (by omega)]
      exact a4 k q
    · rw [JS] at q2
      rw [ti t' _ q1 q2, ti t' _ q1 q2, ti t' _ q1 q2, JT t' 1 (by decide), JT t' 2 (by decide), JT t' 5 (by decide), if_neg (by omega), if_neg (by omega), if_neg (by omega)]
      exact a5 t' q1 q2
    · rw [JS] at q3 q4
      exact a6 t1 t2 q1 q2 q3 q4 q5
    · by_cases z : l' = o
      · subst z
        have e7 : mm_i M1 (b + 6 + l') 7 = nI (cn_ (ra_st J m (nI l')) n) := by
          rw [← jO 7 (by decide), (cL l' q).2.1, lk7 tvJ q]
        have e4 : mm_i M1 (b + 6 + l') 4 = mm_i M (b + 6 + l') 4 := f1.2.2.1 _ _ (by omega)
        have hc := cn_le (ra_st J m (nI l')) n
        rw [f2.2.2.1 _ _ (by omega), j17 _ _ (by omega), i9, h5, e7, e4]
        by_cases y : mm_i M (b + 6 + l') 4 = 1 ∧ cn_ (ra_st J m (nI l')) n = 0
        · rw [if_pos ⟨y.1, by rw [y.2]; rfl⟩, if_pos ⟨rfl, y⟩, mi_pis]
        · rw [if_neg (fun w => y ⟨w.1, (nI_eq (by omega) (by omega)).mp (w.2.trans nI_0.symm)⟩), if_neg (fun w => y w.2)]
          exact e4
      · rw [if_neg (fun y => z y.1)]
        exact F.2.2.1 _ _ (by unfold tfI; omega)
  rw [x9]
  refine ⟨fun c => fin M9 fx_rf ?_, fun c => ?_⟩
  · rw [il, hJ, mv_4 hl (by omega), x6, if_neg c]
    exact (a3 l hl).2.2.2
  · have w6 : ∀ l', l' < 5 → mm_i M9 (b + 6 + l') 6 = nI (cn_ (ra_wt (sp_mu I m t l) m (nI l')) n) := fun l' hl' => by
      have oth : ∀ i, i ≠ t → ra_wt (sp_mu I m t l) m (nI l') i = ra_wt I m (nI l') i := fun i hi => by
        unfold ra_wt
        rw [mu_T (by decide), mu_T (by decide), if_neg (fun y => hi y.1), if_neg (fun y => hi y.1), if_neg (fun y => hi y.1), if_neg (fun y => hi y.1)]
      have pt : ra_wt (sp_mu I m t l) m (nI l') t = false := decide_eq_false (fun y => by
        have y := y.2
        rw [mu_T (by decide), if_neg (by omega), if_pos ⟨rfl, rfl⟩] at y
        exact absurd y (by decide))
      by_cases e : l' = o
      · subst e
        rw [lo 6 (by decide), h61]
        refine nI_dn ?_ (br_6 h hl5)
        have qt : ra_wt I m (nI l') t = true := decide_eq_true ⟨T0o, x6.trans c⟩
        have := cn_one (p := ra_wt (sp_mu I m t l) m (nI l')) (q := ra_wt I m (nI l')) (t := t) oth ht
        rw [pt, qt] at this
        rw [if_pos c]
        simpa using this
      · have e6 : mm_i M9 (b + 6 + l') 6 = mm_i M (b + 6 + l') 6 := by
          by_cases e2 : l' = l
          · rw [e2]; exact il 6
          · exact ii _ _ (by omega) (by omega) (by omega)
        rw [e6, br_6 h hl']
        congr 1
        refine cn_eq (fun i _ => ?_)
        by_cases q : i = t
        · rw [q, pt]
          exact decide_eq_false (fun y => e ((nI_eq (by omega) (by omega)).mp (y.1.symm.trans T0o)))
        · exact (oth i q).symm
    refine cc_lift0 bS9 (lv := fun l' => ra_live (sp_mu I m t l) m n (nI l')) (ps := fun l' => ra_L (sp_mu I m t l) m l' 4) (fun l' hl' => ?_) (fun l' hl' => ?_) hl ?_ (fun M17 f17 e => fin M17 f17 ?_)
    · have hc := cn_le (ra_wt (sp_mu I m t l) m (nI l')) n
      rw [w6 l' hl', ← nI_0, nI_leI (by omega) (by omega)]
      show _ ↔ decide _ = false
      rw [decide_eq_false_iff_not]
      omega
    · rw [show ra_L (sp_mu I m t l) m l' 4 = ra_L I m l' 4 from mu_o (by omega)]
      have : mm_i M9 (b + 6 + l') 5 = mm_i M (b + 6 + l') 5 := by
        by_cases e2 : l' = l
        · rw [e2]; exact il 5
        · exact f9.2.2.1 _ _ (by unfold tfI; omega)
      rw [this]
      exact (a3 l' hl').2.2.2
    · have hc := cn_le (ra_wt (sp_mu I m t l) m (nI l)) n
      rw [w6 l hl, ← nI_0, nI_eq (by omega) (by omega)]
      show _ ↔ decide _ = false
      rw [decide_eq_false_iff_not]
      omega
    · rw [e, hJ, mv_4 hl (by omega), x6, if_pos c]
end Trf2
