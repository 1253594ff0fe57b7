/-! the run on paper in the class: its contract -/
section Rcl6
variable {M M' : mm_T} {I J N : Nat → Nat → Int32} {m n Pb t w X T W P L : Nat} {en : Nat → Int32} {ta tm tc : Nat → Nat} {pb : Int32}
theorem ou_row (e : N (m + 1) = J (m + 1)) : ou_ N m n = ou_ J m n := cn_eq (fun x _ => by unfold ra_T; rw [e])
theorem ce_run (h : ix_ I m n T W P L) (hl : lim_ T W P L) (hr : re_ M I m n ta tm) (hw : 1 ≤ w) (hw6 : w ≤ 6) {Q : mm_T → Prop} (K : ∀ M', re_ M' I m n ta tm → cR_ M' (rn_ I m n w) → Q M') : cs_v mt_X8_run [pv_r 17, pv_r 6, pv_i (nI w), pv_i (I (m + 1) 0)] M Q := by
  have r17 := re_17 hr
  obtain ⟨X0, hX0, eX0⟩ := h.2.2.1
  have hT : T < 90000 := hl.1
  refine wc_X8_run_0 r17.1 (ce_load hr (fun M1 f1 hB1 hT1 => ?_))
  intro M3 e3 M5 e5 M7 e7 M9 e9
  have p1 := pB_load h hr f1 hB1 hT1
  have s17 := re_17 p1.1
  have R9 : ∀ a j, mm_r M9 a j = mm_r M1 a j := fun a j => by rw [e9, e7, e5, e3]; rfl
  have K9 : ∀ a, mm_k M9 a = mm_k M1 a := fun a => by rw [e9, e7, e5, e3]; rfl
  rw [R9, s17.2.2.2.1]
  refine ce_fill (by obtain ⟨tg, q⟩ := s17.2.2.2.2.2.1; exact ⟨tg, by rw [K9]; exact q⟩) (fun M11 f11 z11 => ?_)
  have R11 : ∀ a j, mm_r M11 a j = mm_r M1 a j := fun a j => (f11.2.2.2.1 a j id).trans (R9 a j)
  have K11 : ∀ a, mm_k M11 a = mm_k M1 a := fun a => (f11.2.1 a).trans (K9 a)
  have bS1 := br_S hB1
  have i9 : ∀ a j, a ≠ 17 → mm_i M9 a j = mm_i M1 a j := fun a j q => by
    rw [e9, mi_pia q, e7, mi_pia q, e5, mi_pia q, e3, mi_pia q]
  have i11 : ∀ a j, a ≠ 17 → a ≠ 30 → mm_i M11 a j = mm_i M1 a j := fun a j q1 q2 => (f11.2.2.1 a j q2).trans (i9 a j q1)
  rw [R11, s17.2.1, K11, R11, bS1.2.2.2.2.2.2.2.1]
  refine ⟨bS1.1, 7, ?_, by decide, fun M17 e17 => ?_⟩
  · obtain ⟨tg, q⟩ := bS1.2.2.2.2.2.2.2.2.1
    exact ⟨tg, by rw [K11]; exact q⟩
  have cnt : mm_i M11 (18 + 4) 3 = nI (ou_ (bg_ I m) m n) := by
    rw [i11 _ _ (by decide) (by decide)]
    have e : cn_ (fun t => decide (sgI I m t = nI 3)) n = ou_ (bg_ I m) m n := cn_eq (fun x _ => by
      rw [show ra_T (bg_ I m) m x 6 = sgI I m x from bg_r]
      rfl)
    rw [← e]
    exact hB1.1.2.2.2.1 3 (by decide)
  rw [cnt] at e17
  have f17 : fx_ (fun a _ => a = 17 ∨ a = 30) (fun _ _ => False) M1 M17 := by
    rw [e17]
    refine fx_tr (fx_tr ?_ (fx_up f11 (fun a _ q => Or.inr q) (fun _ _ q => q))) (fx_pi (Or.inl rfl))
    rw [e9, e7, e5, e3]
    exact fx_tr (fx_tr (fx_tr (fx_pi (Or.inl rfl)) (fx_pi (Or.inl rfl))) (fx_pi (Or.inl rfl))) (fx_pi (Or.inl rfl))
  have c1 : cB_ M1 I (bg_ I m) m n ta tm (fun x => mm_i M1 (tc_n I m x) 12) := by
    have g6 : ∀ x, sgI (bg_ I m) m x = sgI I m x := fun x => bg_r
    have gT : ∀ x f, ra_T (bg_ I m) m x f = ra_T I m x f := fun x f => bg_r
    have hbl := ix_bl h
    have hh := re_hb hr hbl
    have rb : ∀ x, x < n → mm_r M (ta x) 1 = 0 ∨ 112 ≤ mm_r M (ta x) 1 := fun x hx => by
      have a4 := (hr.1.2.2.1.1 x hx).1.2.2.2.1
      rcases hbl x hx with e | ⟨q, hq, e⟩
      · left
        rw [a4, e]
        rfl
      · right
        have e2 : rft ta (ra_T I m x 4) = ta q := by
          unfold rft
          rw [e, if_neg (nI_nm (by have := ix_4 h; omega)), nI_clamp (by have := ix_4 h; omega)]
        rw [a4, e2]
        exact (re_ge hr (by omega)).1
    refine ⟨p1, fun x _ _ => rfl, fun x hx q => ?_, fun x hx q => ?_, fun x hx q => ?_⟩
    · rw [gT] at q ⊢
      have hst : sd_ (sgI I m x) = true := sd_3 (Or.inr (Or.inr (Or.inl q)))
      rw [(hT1 x hx hst).2.2.2.1]
      refine (hr.1.2.2.1.1 x hx).2.2.1.1 ?_
      obtain ⟨d, d1, d2⟩ := (pp_ix h hl).2.2.2.1 x hx q
      rw [d2]
      exact nI_nm (by omega)
    · rw [g6] at q
      have tx := (hT1 x hx q).2.2.2.2.2.1
      rw [tx, gT]
      rcases hh x hx q with z | ⟨y, y1, y2, y3, y4, y5⟩
      · exact Or.inl z
      · have y6 := rb x hx
        refine Or.inr ⟨y, y1, y2, y3, by rw [f1.2.1]; exact y4, ?_⟩
        rw [f1.2.2.1 _ _ (by unfold zI_; omega)]
        exact y5
    · rw [g6] at q
      rw [(hT1 x hx q).2.2.2.2.2.1]
      exact rb x hx
  have c17 := cB_f c1 f17
  refine ce_51 c17.1 (fun M18 f18 v18 => ?_)
  have tn : ∀ x, 31 ≤ tc_n I m x := fun x => tc_31
  have eR : ∀ a j, mm_r M18 a j = mm_r M17 a j := fun a j => f18.2.2.2.1 a j id
  have o18 : ∀ a j, ¬ (31 ≤ a ∧ a < 79 ∧ j = 12) → mm_i M18 a j = mm_i M17 a j := f18.2.2.1
  have c18 : cB_ M18 I (bg_ I m) m n ta tm (fun _ => I (m + 1) 0) := by
    obtain ⟨⟨a1, a2, a3, a4, a5⟩, b1, b2, b3, b4⟩ := c17
    refine ⟨⟨re_z a1 (fx_up f18 (fun a j q => by unfold zI_; omega) (fun _ _ q => q.elim)), br_o a2 (fun a _ => f18.2.1 a) (fun a j _ => eR a j) (fun l j _ _ _ => o18 _ _ (by omega)) (fun j => o18 _ _ (by omega)) (fun j _ => o18 _ _ (by omega)) (o18 _ _ (by omega)) (fun x j _ _ => o18 _ _ (by omega)) (fun x _ => eR _ _) (fun _ _ => rfl) (fun _ _ _ _ => rfl) (fun _ _ _ _ => rfl), a3, a4, a5⟩, fun x hx q => v18 x hx (sd_3 (Or.inr (Or.inr (Or.inr q)))), fun x hx q => (o18 _ _ (by omega)).trans (b2 x hx q), fun x hx q => ?_, fun x hx q => ?_⟩
    · rw [eR]
      rcases b3 x hx q with z | ⟨y, y1, y2, y3, y4, y5⟩
      · exact Or.inl z
      · exact Or.inr ⟨y, y1, y2, y3, by rw [f18.2.1]; exact y4, (o18 _ _ (by omega)).trans y5⟩
    · rw [eR]
      exact b4 x hx q
  have i17 : ∀ j, j ≠ 5 → mm_i M17 17 j = mm_i M9 17 j := fun j q => by
    rw [e17, mi_pij q]
    exact f11.2.2.1 17 j (show ¬ 17 = 30 by decide)
  have F18 : cF_ M18 (nI X0) (bg_ I m (m + 1) 0 - nI X0) (nI w - nI (ou_ (bg_ I m) m n)) 0 (-1) (fun _ => 0) := by
    refine ⟨?_, ?_, ?_, ?_, ?_, fun l hl => ?_⟩
    · rw [o18 _ _ (by omega), i17 3 (by decide), e9, mi_pij (by decide), e7, mi_pij (by decide), e5, mi_pij (by decide), e3, mi_pis, eX0]
    · rw [o18 _ _ (by omega), i17 4 (by decide), e9, mi_pij (by decide), e7, mi_pij (by decide), e5, mi_pis, bg_r, eX0]
      grind
    · rw [o18 _ _ (by omega), e17, mi_pis]
    · rw [o18 _ _ (by omega), i17 6 (by decide), e9, mi_pij (by decide), e7, mi_pis]
    · rw [o18 _ _ (by omega), i17 7 (by decide), e9, mi_pis]
    · rw [o18 _ _ (by omega), e17, mi_pia (by decide)]
      exact z11 l hl
  obtain ⟨q1, q2, -⟩ := pr_ix (w := w) h hl eX0
  have ecz : cz_ I m (m + 1) = bg_ I m (m + 1) := cz_row.trans bg_row.symm
  have F18' : cF_ M18 (nI X0) (cz_ I m (m + 1) 0 - nI X0) (nI w - nI (ou_ (cz_ I m) m n)) 0 (-1) (fun _ => 0) := by
    rw [ecz, ou_row ecz]
    exact F18
  refine ce_run92 hw hw6 97 0 rfl (cB_row c18 ecz) (pp_row (pp_ix h hl) cz_row) (cz_r.trans eX0) (by omega) F18' q1 q2 (fun M' g1 g2 => K M' g1 ?_)
  unfold rn_
  rw [← eX0, cz_r, show I (m + 1) 0 - I (m + 1) 0 = 0 by grind] at g2
  exact g2
end Rcl6
