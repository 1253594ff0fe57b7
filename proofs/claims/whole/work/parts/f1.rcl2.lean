/-! the run on paper in the class: its rounds -/
section Rcl2
variable {M M' : mm_T} {I J N : Nat → Nat → Int32} {m n Pb t w X : Nat} {en : Nat → Int32} {ta tm tc : Nat → Nat} {pb : Int32}
theorem pi_at {a j b k : Nat} {x : Int32} : mm_i (mm_pi M a j x) b k = if b = a ∧ k = j then x else mm_i M b k := rfl
theorem st48 (h : br_ M 18 tc J m n) : cn_ (ra_st J m (-1)) n ≤ 48 := by
  have := h.1.2.2.2.2.1.2.2.2.2.1
  rw [List.length_map, lkS h.2.1] at this
  exact this
theorem dl_48 (h : br_ M 18 tc J m n) : (dl_ J m n en).length ≤ 48 := by
  unfold dl_
  rw [← cn_len]
  refine Nat.le_trans (cn_sub (fun x _ q => ?_)) (st48 h)
  have q := of_decide_eq_true q
  exact decide_eq_true ⟨Or.inl rfl, by rw [q.1]; decide⟩
theorem ou_fre (hb : rb_ J m n pb) (ht : t < n) (h3 : ra_T J m t 6 = 3) : ou_ (sp_frees J m n t) m n + 1 = ou_ J m n := by
  have := cn_one (p := fun x => decide (ra_T (sp_frees J m n t) m x 6 = 3)) (q := fun x => decide (ra_T J m x 6 = 3)) (t := t) (fun x hx => by
    show decide _ = decide _
    rw [fre_6 hb]
    by_cases z : x < n ∧ x ≠ t ∧ ra_T J m x 6 = 1 ∧ ra_T J m x 4 = nI t
    · rw [if_pos z, z.2.2.1]
      rfl
    · rw [if_neg z, if_neg hx]) ht
  have e : ra_T (sp_frees J m n t) m t 6 = 4 := by
    rw [fre_6 hb, if_neg (fun q => q.2.1 rfl), if_pos rfl]
  rw [e, h3, if_pos (show decide ((3 : Int32) = 3) = true by decide), if_neg (show ¬ decide ((4 : Int32) = 3) = true by decide)] at this
  exact this
theorem lm_sj (g : sj_6 m J N) : lmI N m = lmI J m := funext (fun x => by unfold lmI; rw [sj_T g (by decide) (by decide) (by decide)])
theorem emp_lm {v : Int32} (h : lmI N m = lmI J m) {e : Nat → Int32} {ts : List Nat} : emp_ N m v e ts = emp_ J m v e ts := by
  unfold emp_
  rw [h]
theorem ce_end {x0 id : Int32} {P : mm_T → Prop} : ∀ (ts : List Nat) {M : mm_T} {J : fI} {i : Nat} {la : Int32} {e : Nat → Int32}, cB_ M I J m n ta tm en → pp_ J m n Pb → cF_ M x0 (J (m + 1) 0 - x0) (nI w - nI (ou_ J m n)) id la e → dl_ J m n en = ts → i + ts.length ≤ 48 → (∀ M', cB_ M' I (fcs J m n ts) m n ta tm en → cF_ M' x0 (J (m + 1) 0 - x0) (nI w - nI (ou_ (fcs J m n ts) m n)) id (lst_ la ts) (emp_ J m (J (m + 1) 0 - x0) e ts) → P M') → cw_v mt_X8_completeEnding 2 [some (pv_r 17), some (pv_i (nI i)), none] [] M P
  | [], M, J, i, la, e, h, hp, hF, hts, hi, K => by
    have r17 := re_17 h.1.1
    refine wc_X8_completeEnding_2 r17.1 ⟨fun _ => K M h hF, fun _ => ?_⟩
    rw [r17.2.1, hF.1, hF.2.1, show x0 + (J (m + 1) 0 - x0) = J (m + 1) 0 by grind]
    refine ⟨(br_S h.1.2.1).1, cb_ending h.1.2.1 h.2.1 ?_⟩
    have : fi_ (fun t => decide (ra_T J m t 6 = 3 ∧ ¬ J (m + 1) 0 < en t)) n 0 = none := hs_nil hts
    rw [this]
    exact ⟨fun c => absurd rfl c, fun _ => K M h hF⟩
  | t :: ts, M, J, i, la, e, h, hp, hF, hts, hi, K => by
    have r17 := re_17 h.1.1
    rw [List.length_cons] at hi
    obtain ⟨ht, h3, h3'⟩ := dl_m (J := J) (m := m) (n := n) (en := en) (t := t) (by rw [hts]; exact List.mem_cons_self)
    obtain ⟨qb, -, hb⟩ := pp_rb hp
    have h4 := hp.1.1.2.1
    have hst : sd_ (sgI J m t) = true := sd_3 (Or.inr (Or.inr (Or.inr h3)))
    have hg := h.1.2.2.1 t ht hst
    obtain ⟨l5, el⟩ := lm_of h.1.2.1.2.1 ht
    refine wc_X8_completeEnding_2 r17.1 ⟨fun c => absurd c (i48 (by omega)), fun _ => ?_⟩
    rw [r17.2.1, hF.1, hF.2.1, show x0 + (J (m + 1) 0 - x0) = J (m + 1) 0 by grind]
    refine ⟨(br_S h.1.2.1).1, cb_ending h.1.2.1 h.2.1 ?_⟩
    have : fi_ (fun t => decide (ra_T J m t 6 = 3 ∧ ¬ J (m + 1) 0 < en t)) n 0 = some t := hs_hd hts
    rw [this, show oa_ (tc_n I m) (some t) = tc_n I m t from rfl]
    refine ⟨fun _ => ⟨by rw [r17.2.1]; exact (br_S h.1.2.1).1, ?_⟩, fun c => absurd c (by show ¬ tc_n I m t = 0; omega)⟩
    rw [r17.2.1]
    show cs_v mt_X0_change [pv_r 18, pv_r (tc_n I m t), pv_i 4] M _
    refine cb_changeS h.1.2.1 ht hst (s := 4) (v := 4) rfl (by decide) (fun M1 hB1 hT1 _ f1 => ?_)
    have f1 : fx_ bI_ bR_ M M1 := fx_up f1 (fun a j q => bI_aw l5 hg.1 hg.2 a j (Or.inl q)) (fun a j q => q)
    have g1 : sj_6 m J (i2_u J (m + 1) (200 + 14 * t + 6) 4) := fun j q1 q2 q3 => i2_uj (by omega)
    have e6 : ∀ x, ra_T (i2_u J (m + 1) (200 + 14 * t + 6) 4) m x 6 = if x = t then 4 else ra_T J m x 6 := fun x => by
      unfold ra_T
      rw [i2_at]
      by_cases z : x = t
      · rw [if_pos z, if_pos ⟨rfl, by omega⟩]
      · rw [if_neg z, if_neg (by omega)]
    have c1 : cB_ M1 I (i2_u J (m + 1) (200 + 14 * t + 6) 4) m n ta tm en := by
      refine cB_step h f1 hB1 g1 (fun x hx q => ?_) (fun x hx q => ?_) (fun x hx q => ?_)
      · by_cases z : x = t
        · rw [z]; exact hst
        · have e : sgI (i2_u J (m + 1) (200 + 14 * t + 6) 4) m x = sgI J m x := (e6 x).trans (if_neg z)
          rw [← e]; exact q
      · rw [e6] at q
        by_cases z : x = t
        · rw [z]; exact h3
        · rw [if_neg z] at q; exact q
      · rw [e6] at q
        by_cases z : x = t
        · rw [if_pos z] at q
          exact absurd q (by decide)
        · rw [if_neg z] at q
          exact ⟨q, i2_uj (by omega)⟩
    have F1 := cF_o hF f1
    have s17 := re_17 c1.1.1
    intro M11 e11
    have k1 : mm_k M1 (tc_n I m t) = (6, 17) := hT1.1
    have o1 : mm_i M1 (tc_n I m t) 0 = nI t := hT1.2.1
    have r2 : mm_r M1 (tc_n I m t) 2 = 24 + lmI J m t := hT1.2.2.2.1
    have bS1 := br_S hB1
    refine ⟨by rw [e11]; exact k1, fun M16 e16 => ?_⟩
    have i16 : ∀ a j, a ≠ 17 → mm_i M16 a j = mm_i M1 a j := fun a j q => by
      rw [e16, e11]
      exact (if_neg (fun z => q z.1)).trans (if_neg (fun z => q z.1))
    have R16 : ∀ a j, mm_r M16 a j = mm_r M1 a j := fun a j => by rw [e16, e11]; rfl
    have K16 : ∀ a, mm_k M16 a = mm_k M1 a := fun a => by rw [e16, e11]; rfl
    rw [R16, r2, R16, s17.2.2.2.1, i16 (24 + lmI J m t) 0 (by omega), K16]
    have A16 : ak_ M16 30 0 5 := by
      obtain ⟨tg, q⟩ := s17.2.2.2.2.2.1
      exact ⟨tg, by rw [K16]; exact q⟩
    refine ⟨(bS1.2.2.2.2.2.2.2.2.2.2.2 _ l5).1, 5, A16, lmI J m t, ⟨(bS1.2.2.2.2.2.2.2.2.2.2.2 _ l5).2.2, l5⟩, fun M26 e26 => ?_⟩
    have v5 : mm_i M1 17 5 = nI w - nI (ou_ J m n) := F1.2.2.1
    have hou := ou_fre hb ht h3
    have f26 : fx_ (fun a _ => a = 17 ∨ a = 30) (fun _ _ => False) M1 M26 := by
      rw [e26, e16, e11]
      exact fx_tr (fx_tr (fx_pi (Or.inl rfl)) (fx_pi (Or.inl rfl))) (fx_pi (Or.inr rfl))
    have c26 := cB_f c1 f26
    have j26 : ∀ j, mm_i M26 17 j = if j = 7 then nI t else if j = 5 then nI w - nI (ou_ J m n) + 1 else mm_i M1 17 j := fun j => by
      rw [e26, pi_at, if_neg (show ¬ (17 = 30 ∧ j = lmI J m t) by omega), e16, pi_at]
      by_cases z : j = 7
      · rw [if_pos z, if_pos ⟨rfl, z⟩, e11, pi_at, if_neg (show ¬ (tc_n I m t = 17 ∧ 0 = 5) by omega)]
        exact o1
      · rw [if_neg z, if_neg (show ¬ (17 = 17 ∧ j = 7) by omega), e11, pi_at]
        by_cases y : j = 5
        · rw [if_pos y, if_pos ⟨rfl, y⟩, v5]
        · rw [if_neg y, if_neg (show ¬ (17 = 17 ∧ j = 5) by omega)]
    have F26 : cF_ M26 x0 (J (m + 1) 0 - x0) (nI w - nI (ou_ (sp_frees J m n t) m n)) id (nI t) (fun l => if l = lmI J m t then J (m + 1) 0 - x0 else e l) := by
      refine ⟨by rw [j26]; exact F1.1, by rw [j26]; exact F1.2.1, ?_, by rw [j26]; exact F1.2.2.2.1, by rw [j26]; rfl, fun l hl => ?_⟩
      · rw [j26, if_neg (by decide), if_pos rfl, ← hou, ← nI_1]
        grind
      · rw [e26]
        have v4 : mm_i M16 17 4 = J (m + 1) 0 - x0 := by
          rw [e16, pi_at, if_neg (by decide), e11, pi_at, if_neg (by decide)]
          exact F1.2.1
        by_cases z : l = lmI J m t
        · simp only [if_pos z]
          exact (if_pos ⟨rfl, z⟩).trans v4
        · simp only [if_neg z]
          rw [pi_at, if_neg (fun y => z y.2), i16 30 l (by decide)]
          exact F1.2.2.2.2.2 l hl
    have hrel : ((List.range n).filter (sp_hp (i2_u J (m + 1) (200 + 14 * t + 6) 4) m (nI t))).length ≤ 48 := Nat.le_trans (hs_le hB1.2.1) (st48 hB1)
    refine wc_X8_releaseBehind_0 (re_17 c26.1.1).1 (ce_rel (pb := nI qb) (show t < 400 by omega) _ c26 (rb_T6 hb) ((f26.2.1 _).trans k1) ((f26.2.2.1 _ _ (by omega)).trans o1) hg.1 rfl (by omega) (i := 0) (fun M33 c33 f33 => ?_))
    have c33 : cB_ M33 I (sp_frees J m n t) m n ta tm en := c33
    have F33 := cF_o F26 f33
    have e0 : sp_frees J m n t (m + 1) 0 = J (m + 1) 0 := fre_o hb (by omega) (by omega) (by omega)
    rw [nI_1]
    rw [← e0] at F33
    refine ce_end ts c33 (pp_fre hp ht h3) F33 (hs_tl hts (fun x hx => ?_)) (by omega) (fun M' c' F' => K M' c' ?_)
    · unfold dp_
      rw [e0, fre_6 hb]
      by_cases z : x < n ∧ x ≠ t ∧ ra_T J m x 6 = 1 ∧ ra_T J m x 4 = nI t
      · rw [if_pos z, z.2.2.1]
        rfl
      · rw [if_neg z]
        by_cases y : x = t
        · rw [if_pos y]
          simp [y]
        · rw [if_neg y]
          simp [y]
    · rw [emp_lm (lm_sj (sj_fre hb)), e0] at F'
      exact F'
/-! waking -/
theorem wt_u8 (hb : rb_ J m n pb) (ht : t < n) {x : Int32} : sp_wt (i2_u J (m + 1) (200 + 14 * t + 8) x) m n t = i2_u (sp_wt J m n t) (m + 1) (200 + 14 * t + 8) x := by
  obtain ⟨l, hl, e⟩ := hb.2.2.1 t ht
  have eT : ∀ y f, f < 8 → ra_T (i2_u J (m + 1) (200 + 14 * t + 8) x) m y f = ra_T J m y f := fun y f _ => i2_uj (by omega)
  have hlv : ∀ v, ra_live (i2_u J (m + 1) (200 + 14 * t + 8) x) m n v = ra_live J m n v := fun v => by
    unfold ra_live
    rw [cn_eq (q := ra_wt J m v) (fun y _ => by unfold ra_wt; rw [eT y 0 (by decide), eT y 6 (by decide)])]
  have hup : ra_up (i2_u J (m + 1) (200 + 14 * t + 8) x) m n l = ra_up J m n l := up_o (fun l _ => hlv _) (fun l' q => i2_uj (by omega)) hl
  unfold sp_wt
  rw [eT t 0 (by decide), e, nI_clamp (by omega)]
  unfold ra_wait
  rw [hlv, hup]
  split
  · exact i2_cm (by omega)
  · rw [i2_cm (j := 200 + 14 * t + 8) (k := 10 + 10 * l + 4) (by omega)]
    exact i2_cm (by omega)
end Rcl2
