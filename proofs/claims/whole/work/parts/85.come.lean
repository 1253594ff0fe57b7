/-! THE CLASS: why one can't come; a new task -/
section Com
variable {M M' : mm_T} {I J : Nat → Nat → Int32} {m n : Nat} {ta tm : Nat → Nat}
theorem cc_isKey {x : Int32} {P : Int32 → mm_T → Prop} (K : P (if 0 ≤ x ∧ x ≤ 9999 then 1 else 0) M) : cs_i mt_X10_isKey [pv_i x] M P := by
  refine wc_X10_isKey_0 ⟨fun c => ?_, fun c => ⟨fun c2 => ?_, fun c2 => ?_⟩⟩
  · rw [if_neg (fun q => Int32.not_lt.mpr q.1 c)] at K; exact K
  · rw [if_neg (fun q => Int32.not_lt.mpr q.2 c2)] at K; exact K
  · rw [if_pos ⟨Int32.not_lt.mp c, Int32.not_lt.mp c2⟩] at K; exact K
theorem cc_isWork {x y z : Int32} {P : Int32 → mm_T → Prop} (K : P (if (0 ≤ x ∧ x ≤ 9) ∧ (1 ≤ y ∧ y ≤ 20) ∧ (0 ≤ z ∧ z ≤ 9999) then 1 else 0) M) : cs_i mt_X10_isWork [pv_i x, pv_i y, pv_i z] M P := by
  refine wc_X10_isWork_0 ⟨fun c => ?_, fun c => ⟨fun c2 => ?_, fun c2 => ⟨fun c3 => ?_, fun c3 => ⟨fun c4 => ?_, fun c4 => cc_isKey ?_⟩⟩⟩⟩
  · rw [if_neg (fun q => Int32.not_lt.mpr q.1.1 c)] at K; exact K
  · rw [if_neg (fun q => Int32.not_lt.mpr q.1.2 c2)] at K; exact K
  · rw [if_neg (fun q => Int32.not_lt.mpr q.2.1.1 c3)] at K; exact K
  · rw [if_neg (fun q => Int32.not_lt.mpr q.2.1.2 c4)] at K; exact K
  · by_cases q : 0 ≤ z ∧ z ≤ 9999
    · rw [if_pos ⟨⟨Int32.not_lt.mp c, Int32.not_lt.mp c2⟩, ⟨Int32.not_lt.mp c3, Int32.not_lt.mp c4⟩, q⟩] at K
      rw [if_pos q]
      exact ⟨fun y => absurd y (by decide), fun _ => K⟩
    · rw [if_neg (fun y => q y.2.2)] at K
      rw [if_neg q]
      exact ⟨fun _ => K, fun y => absurd rfl y⟩
theorem re_key (h : re_ M I m n ta tm) : ∀ t, t < n → sd_ (sgI I m t) = true → mm_i M (ta t) 5 = ra_T I m t 3 := fun t ht _ => (h.1.2.2.1.1 t ht).2.1.2.2.1
theorem re_rowO (h : re_ M I m n ta tm) : mm_r M 5 2 = 79 ∧ mm_k M 79 = (4, 2) ∧ mm_i M 79 1 = nI n := by
  have hO : ro_ M 79 80 400 ((List.range n).map ta) := h.2.1.1
  refine ⟨h.1.1.1.2.2.2.1, hO.1, ?_⟩
  have := hO.2.2.2.2.2.1
  simpa using this
theorem ce_room4 (h : re_ M I m n ta tm) {l k : Nat} (hl : l < 5) (hk : k < 10000) {P : Int32 → mm_T → Prop} (K : P (sp_why4 I m n l k) M) :
    mm_k M (mm_r M 5 0) = (0, 4) ∧ cs_i mt_X0_hasRoomIn [pv_r (mm_r M 5 0), pv_r (12 + l)] M (fun v4 M3 => ((¬ v4 = 0 → mm_k M3 (mm_r M3 5 0) = (0, 4) ∧ cs_r mt_X0_withKey [pv_r (mm_r M3 5 0), pv_i (nI k)] M3 (fun v10 M9 => ((v10 = 0 → mm_k M9 (mm_r M9 5 2) = (4, 2) ∧ ((mm_i M9 (mm_r M9 5 2) 1 < 400 → mm_k M9 (mm_r M9 5 7) = (5, 3) ∧ cs_i mt_X5_count [pv_r (mm_r M9 5 7), pv_i (nI k)] M9 (fun v18 M17 => mm_k M17 (mm_r M17 5 0) = (0, 4) ∧ ∃ l26, ak_ M17 (mm_r M17 (mm_r M17 5 0) 3) 0 l26 ∧ (5 < l26 ∧ ((v18 < mm_i M17 (mm_r M17 (mm_r M17 5 0) 3) 5 → P 0 M17) ∧ (¬ v18 < mm_i M17 (mm_r M17 (mm_r M17 5 0) 3) 5 → P (-7) M17))))) ∧ (¬ mm_i M9 (mm_r M9 5 2) 1 < 400 → P (-6) M9))) ∧ (¬ v10 = 0 → P (-5) M9)))) ∧ (v4 = 0 → P (-4) M3))) := by
  have h4 := re_4 h
  obtain ⟨b1, b2⟩ := re_bk h
  obtain ⟨o1, o2, o3⟩ := re_rowO h
  obtain ⟨r1, r2, r3⟩ := re_rules h
  rw [b1]
  unfold sp_why4 at K
  refine ⟨b2, cb_roomIn h.1.2.1 hl ?_⟩
  by_cases c1 : ra_L I m l 1 ≤ nI (cn_ (ra_st I m (nI l)) n) ∨ ¬ nI (cn_ (ra_st I m (-1)) n) < I (m + 1) 8
  · rw [if_pos c1] at K ⊢
    exact ⟨fun c => absurd rfl c, fun _ => K⟩
  · rw [if_neg c1] at K ⊢
    refine ⟨fun _ => ?_, fun c => absurd c (by decide)⟩
    rw [b1]
    refine ⟨b2, cb_key h.1.2.1 (re_key h) ?_⟩
    cases hf : fi_ (ra_kst I m (nI k)) n 0 with
    | some t =>
      rw [hf, if_pos (by simp)] at K
      have ht := (fi_lt hf).1
      have := (re_ge h (show t < n by omega)).1
      exact ⟨fun c => absurd c (by show ¬ ta t = 0; omega), fun _ => K⟩
    | none =>
      rw [hf, if_neg (by simp)] at K
      refine ⟨fun _ => ?_, fun c => absurd rfl c⟩
      rw [o1, o3]
      refine ⟨o2, fun c => ?_, fun c => ?_⟩
      · have hn : ¬ n = 400 := fun q => by rw [q] at c; exact absurd c (by decide)
        rw [if_neg hn] at K
        rw [h.1.1.1.2.2.2.2.2.2.2.2.1]
        refine ⟨(re_k h).1, ce_count h hk ?_⟩
        rw [b1, r1]
        refine ⟨b2, 6, r2, by decide, ?_⟩
        rw [r3 5 (by decide)]
        exact ⟨fun c2 => by rw [if_pos c2] at K; exact K, fun c2 => by rw [if_neg c2] at K; exact K⟩
      · have hn : n = 400 := by
          rcases Nat.lt_or_ge n 400 with q | q
          · exact absurd (show nI n < nI 400 from nI_lt q (by decide)) c
          · omega
        rw [if_pos hn] at K
        exact K
theorem ce_why (h : re_ M I m n ta tm) {l k a3 : Nat} (hl : l < 5) (hk : k < 10000) {bad : Prop} [Decidable bad] (h3 : (a3 = 0 ∧ ¬ bad) ∨ ∃ q, q < n ∧ a3 = ta q ∧ (bad ↔ ra_T I m q 6 = 5)) {P : Int32 → mm_T → Prop} (K : P (if ¬ opn_ I m n l = 0 ∨ bad then -3 else sp_why4 I m n l k) M) : cs_i mt_X10_whyNotCome [pv_r 5, pv_r (12 + l), pv_i (nI k), pv_r a3] M P := by
  refine wc_X10_whyNotCome_0 (re_m5 h) ⟨(br_ln h.1.2.1 hl).1, ?_⟩
  rw [show mm_i M (12 + l) 4 = opn_ I m n l from re_open h hl]
  refine ⟨fun c => ?_, fun c => ?_⟩
  · rw [if_pos (Or.inl c)] at K
    exact K
  · rcases h3 with ⟨e1, e2⟩ | ⟨q, hq, e1, e2⟩
    · rw [if_neg (fun z => z.elim (fun z => z c) e2)] at K
      exact ⟨fun _ => ce_room4 h hl hk K, fun z => absurd e1 z⟩
    · obtain ⟨g1, g2⟩ := re_ge h hq
      rw [e1]
      refine ⟨fun z => absurd z (by omega), fun _ => ⟨g2, ?_⟩⟩
      rw [re_7 h hq]
      refine ⟨fun z => ?_, fun z => ?_⟩
      · rw [if_neg (fun y => y.elim (fun y => y c) (fun y => z (e2.mp y)))] at K
        exact ce_room4 h hl hk K
      · rw [if_pos (Or.inr (e2.mpr z))] at K
        exact K
/-! a line of the log, raw -/
theorem cc_write (d1 : mm_k M 96 = (1, 3)) (d2 : mm_r M 96 0 = 97) (d3 : ak_ M 97 0 384) (hD : rD_ M I m) (h8 : I m 8 = 0) {L : Nat} (hL : I m 6 = nI L) (hL2 : L < 2000000000) {t a bl : Nat} (ha : mm_k M a = (6, 17)) (ha0 : mm_i M a 0 = nI t) (ha2 : mm_r M a 2 = bl) (hb : mm_k M bl = (3, 14)) (hb0 : mm_i M bl 0 = ra_T I m t 0) {x0 x1 x3 x4 : Int32} (e0 : x0 = I (m + 1) 0) {P : mm_T → Prop} (K : ∀ M', fx_ (fun a j => a = 97 ∨ a = 96) (fun _ _ => False) M M' → rD_ M' (sp_log I m x1 t x3 x4) m → P M') : cs_v mt_X1_write [pv_r 96, pv_i x0, pv_i x1, pv_r a, pv_i x3, pv_i x4] M P := by
  obtain ⟨D1, D2⟩ := hD
  subst e0
  have ane : a ≠ 97 ∧ a ≠ 96 := ⟨ne_ak ha (by decide) d3, ne_k ha d1 (by decide)⟩
  have bne : bl ≠ 97 ∧ bl ≠ 96 := ⟨ne_ak hb (by decide) d3, ne_k hb d1 (by decide)⟩
  have hb64 : L % 64 < 64 := Nat.mod_lt _ (by omega)
  have e0 : mm_i M 96 1 * (6 : Int32) = nI (6 * (L % 64)) := by
    rw [D1.1, hL, dN_n hL2, show (6 : Int32) = nI 6 from rfl, pk_mul, Nat.mul_comm]
  have r97 : ∀ M'' : mm_T, (∀ a j, mm_r M'' a j = mm_r M a j) → mm_r M'' 96 0 = 97 := fun M'' q => (q 96 0).trans d2
  refine wc_X1_write_0 d1 ?_
  rw [d2]
  refine ⟨384, d3, 6 * (L % 64), ⟨e0, by omega⟩, fun M5 h5 => ?_⟩
  have r5 : ∀ a j, mm_r M5 a j = mm_r M a j := fun a j => by rw [h5]; rfl
  rw [r97 M5 r5]
  refine ⟨384, by rw [h5]; exact d3, by omega, fun M11 h11 => ?_⟩
  have r11 : ∀ a j, mm_r M11 a j = mm_r M a j := fun a j => by rw [h11]; exact r5 a j
  rw [r97 M11 r11]
  refine ⟨by rw [h11, h5]; exact ha, 384, by rw [h11, h5]; exact d3, by omega, fun M19 h19 => ?_⟩
  have r19 : ∀ a j, mm_r M19 a j = mm_r M a j := fun a j => by rw [h19]; exact r11 a j
  have e2 : mm_r M19 a 2 = bl := (r19 _ _).trans ha2
  rw [r97 M19 r19, e2]
  refine ⟨by rw [h19, h11, h5]; exact hb, 384, by rw [h19, h11, h5]; exact d3, by omega, fun M29 h29 => ?_⟩
  have r29 : ∀ a j, mm_r M29 a j = mm_r M a j := fun a j => by rw [h29]; exact r19 a j
  rw [r97 M29 r29]
  refine ⟨384, by rw [h29, h19, h11, h5]; exact d3, by omega, fun M40 h40 => ?_⟩
  have r40 : ∀ a j, mm_r M40 a j = mm_r M a j := fun a j => by rw [h40]; exact r29 a j
  rw [r97 M40 r40]
  refine ⟨384, by rw [h40, h29, h19, h11, h5]; exact d3, by omega, fun M52 h52 => ?_⟩
  have f5 : fx_ (fun a j => a = 97 ∨ a = 96) (fun _ _ => False) M M5 := by rw [h5]; exact fx_pi (Or.inl rfl)
  have f11 : fx_ (fun a j => a = 97 ∨ a = 96) (fun _ _ => False) M M11 := fx_tr f5 (by rw [h11]; exact fx_pi (Or.inl rfl))
  have f19 : fx_ (fun a j => a = 97 ∨ a = 96) (fun _ _ => False) M M19 := fx_tr f11 (by rw [h19]; exact fx_pi (Or.inl rfl))
  have f29 : fx_ (fun a j => a = 97 ∨ a = 96) (fun _ _ => False) M M29 := fx_tr f19 (by rw [h29]; exact fx_pi (Or.inl rfl))
  have f40 : fx_ (fun a j => a = 97 ∨ a = 96) (fun _ _ => False) M M40 := fx_tr f29 (by rw [h40]; exact fx_pi (Or.inl rfl))
  have f52 : fx_ (fun a j => a = 97 ∨ a = 96) (fun _ _ => False) M M52 := fx_tr f40 (by rw [h52]; exact fx_pi (Or.inl rfl))
  have v19 : mm_i M11 a 0 = nI t := (f11.2.2.1 _ _ (by omega)).trans ha0
  have v29 : mm_i M19 bl 0 = ra_T I m t 0 := (f19.2.2.1 _ _ (by omega)).trans hb0
  rw [v19] at h19
  rw [v29] at h29
  have d6 : dc_ M52 (nI L) := by
    rw [← hL]
    refine dc_o D1 (fun j => ?_)
    rw [h52, h40, h29, h19, h11, h5, mi_pia (by decide), mi_pia (by decide), mi_pia (by decide), mi_pia (by decide), mi_pia (by decide), mi_pia (by decide)]
  have q5 := qs_ (M := M) (I := I) (a := 97) (c := m + 6) (N := 384) (k := 6 * (L % 64)) (x := I (m + 1) 0) D2
  rw [← h5] at q5
  have q11 := qs_ (k := 6 * (L % 64) + 1) (x := x1) q5
  rw [← h11] at q11
  have q19 := qs_ (k := 6 * (L % 64) + 2) (x := nI t) q11
  rw [← h19] at q19
  have q29 := qs_ (k := 6 * (L % 64) + 3) (x := ra_T I m t 0) q19
  rw [← h29] at q29
  have q40 := qs_ (k := 6 * (L % 64) + 4) (x := x3) q29
  rw [← h40] at q40
  have q52 := qs_ (k := 6 * (L % 64) + 5) (x := x4) q40
  rw [← h52] at q52
  have eS : sp_log I m x1 t x3 x4 = ra_wr I m L x1 t x3 x4 := by
    unfold sp_log
    rw [if_pos h8, hL, nI_clamp (by omega)]
  refine dc_wr hL2 d6 (fun M62 h62 => ?_)
  have f62 : fx_ (fun a j => a = 97 ∨ a = 96) (fun _ _ => False) M M62 := fx_tr (fx_tr f52 (fx_pi (Or.inr rfl))) (by rw [h62]; exact fx_pi (Or.inr rfl))
  refine K M62 f62 ⟨?_, fun j q => ?_⟩
  · rw [eS]
    unfold ra_wr
    rw [i2_us, ← nI_1, nI_1]
    refine ⟨?_, ?_⟩
    · rw [h62, mi_pij (by decide), mi_pis]
    · rw [h62, mi_pis]
  · rw [eS, h62, mi_pia (by decide), mi_pia (by decide), q52 j q]
    unfold ra_wr
    rw [i2_ua (a := m) (by omega)]
/-! the board with one task more, that is not there yet -/
theorem bd0_ext {b : Nat} {sg sg' : Nat → Int32} {lm lm' ta' : Nat → Nat} (h : bd0 M b n sg lm ta) (hn : n < 400) (h1 : ∀ t, t < n → sg' t = sg t) (h2 : ∀ t, t < n → lm' t = lm t) (h3 : ∀ t, t < n → ta' t = ta t) (h4 : sg' n = -1) : bd0 M b (n + 1) sg' lm' ta' := by
  obtain ⟨a1, a2, a3, a4, a5, a6⟩ := h
  have s0 : sd_ (-1) = false := by decide
  refine ⟨a1, by omega, fun l hl => ?_, fun s hs => ?_, ?_, fun t ht hs => ?_⟩
  · have e6 : c6_ sg' lm' (n + 1) l = c6_ sg lm n l := by
      unfold c6_
      rw [cn_f (by rw [h4]; simp)]
      exact cn_eq (fun t ht => by rw [h1 t ht, h2 t ht])
    have e7 : c7_ sg' lm' (n + 1) l = c7_ sg lm n l := by
      unfold c7_
      rw [cn_f (by rw [h4, s0]; rfl)]
      exact cn_eq (fun t ht => by rw [h1 t ht, h2 t ht])
    have e8 : c8_ sg' lm' (n + 1) l = c8_ sg lm n l := by
      unfold c8_
      rw [cn_f (by rw [h4]; simp)]
      exact cn_eq (fun t ht => by rw [h1 t ht, h2 t ht])
    rw [e6, e7, e8]
    exact a3 l hl
  · rw [a4 s hs]
    congr 1
    rw [cn_f (p := fun t => decide (sg' t = nI s)) (by
      show decide (sg' n = nI s) = false
      rw [h4]
      exact decide_eq_false (fun q => nI_nm (show s < 2 ^ 31 by omega) q.symm))]
    exact (cn_eq (fun t ht => by rw [h1 t ht]))
  · have e : (sl_ sg' (n + 1)).map ta' = (sl_ sg n).map ta := by
      unfold sl_
      rw [List.range_succ, List.filter_append, List.filter_cons, if_neg (by rw [h4, s0]; decide)]
      have e1 : (List.range n).filter (fun t => sd_ (sg' t)) = (List.range n).filter (fun t => sd_ (sg t)) := fl_eq (fun t ht => by rw [h1 t ht])
      rw [e1]
      simp only [List.filter_nil, List.append_nil]
      refine List.map_congr_left (fun t ht => h3 t ?_)
      rw [List.mem_filter, List.mem_range] at ht
      exact ht.1
    rw [e]
    exact a5
  · by_cases e : t = n
    · rw [e, h4, s0] at hs
      cases hs
    · have ht : t < n := by omega
      rw [h1 t ht] at hs
      obtain ⟨g1, g2, g3, g4, g5⟩ := a6 t ht hs
      exact ⟨by rw [h3 t ht]; exact g1, by rw [h3 t ht]; exact g2, by rw [h3 t ht, h1 t ht]; exact g3, by rw [h3 t ht, h2 t ht]; exact g4, by rw [h2 t ht]; exact g5⟩
end Com
