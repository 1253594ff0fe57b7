/-! lapse: waking, timers, a tick -/
section Lap5
variable {B : mm_T} {I J N G : Nat → Nat → Int32} {m n n' n0 t T T' W P L L' X : Nat}
theorem wk1_p {pb : Int32} (hb : rb_ J m n pb) (h8 : J m 8 = 1) (ht : t < n) : (∀ a j, a ≠ m + 1 → (a ≠ m ∨ j ≠ 11) → sp_wk1 J m n t a j = J a j) ∧ sp_wk1 J m n t m 11 = J m 11 + 1 := by
  have h8' : i2_u (sp_wt (i2_u J (m + 1) (200 + 14 * t + 8) (-1)) m n t) m 11 (J m 11 + 1) m 8 = 1 := by
    rw [i2_uj (by decide), sp_wt_o (rb_T8 hb) ht (by omega), i2_ua (by omega)]
    exact h8
  unfold sp_wk1
  rw [log_p h8']
  refine ⟨fun a j q1 q2 => ?_, i2_us⟩
  rw [i2_at, if_neg (by omega), sp_wt_o (rb_T8 hb) ht (Or.inl q1), i2_ua q1]
theorem li_wk1 (h : li_ I J m n0 n T W P L) (hP : P < 2147483648) (hL : L < 1999990000) (ht : t < n) (h6 : ra_T J m t 6 = 2) (h8 : ¬ J (m + 1) 0 < ra_T J m t 8) : li_ I (sp_wk1 J m n t) m n0 n T W P L := by
  have h4 := ip_4 h.1
  obtain ⟨hip, hn, hq, ⟨c9, c10, c11⟩, hw, r6, r7⟩ := h
  have hb := ip_rb hip hP
  obtain ⟨p1, p2⟩ := wk1_p hb hip.1 ht
  have o : ∀ j, j < 10 → sp_wk1 J m n t (m + 1) j = J (m + 1) j := fun j q => wk1_o hb ht (by omega) (by omega) (by omega)
  have s6 : ∀ x, ra_T (sp_wk1 J m n t) m x 6 = if x = t then 0 else ra_T J m x 6 := fun x => wk1_s hb ht
  have oT : ∀ x f, x ≠ t → f < 14 → ra_T (sp_wk1 J m n t) m x f = ra_T J m x f := fun x f q1 q2 => wk1_o hb ht (by omega) (by omega) (by omega)
  have o4 : ∀ x, ra_T (sp_wk1 J m n t) m x 4 = ra_T J m x 4 := fun x => wk1_o hb ht (by omega) (by omega) (by omega)
  have t0 : t < n0 := by
    rcases Nat.lt_or_ge t n0 with z | z
    · exact z
    · have := hw t z ht
      rw [this] at h6
      exact absurd h6 (by decide)
  have i23 : ra_T I m t 6 = 2 ∨ ra_T I m t 6 = 3 := Classical.byContradiction (fun z => by
    obtain ⟨a, b, c, d⟩ := hq t t0
    by_cases z1 : ra_T I m t 6 = 1
    · rcases (c z1).1 with y | y <;> (rw [y] at h6; exact absurd h6 (by decide))
    · exact z (Or.inl ((d z1 (fun y => z (Or.inl y)) (fun y => z (Or.inr y))).symm.trans h6)))
  refine ⟨ip_mk hip (fun a j q1 q2 => p1 a j q1 (by omega)) (ix_wk1 hip.2 hP (by omega) ht (offT.trans h6)) (wk1_row off_r.symm), hn, fun x hx => ?_, ⟨?_, ?_, ?_⟩, fun x q1 q2 => ?_, (o 6 (by decide)).trans r6, (o 7 (by decide)).trans r7⟩
  · obtain ⟨a, b, c, d⟩ := hq x hx
    rw [o 0 (by decide)]
    by_cases hxt : x = t
    · rw [hxt] at a b c d ⊢
      rw [s6 t, if_pos rfl]
      refine ⟨fun z => ?_, fun z => ?_, fun z => ?_, fun z1 z2 z3 => ?_⟩
      · rcases a z with y | ⟨y0, y | ⟨y1, y | y⟩⟩
        · rw [y.1] at h6; exact absurd h6 (by decide)
        · rw [y.2] at h6; exact absurd h6 (by decide)
        · exact Or.inr ⟨y0, Or.inr ⟨y1, Or.inr ⟨rfl, by rw [← y.2]; exact h8⟩⟩⟩
        · rw [y.1] at h6; exact absurd h6 (by decide)
      · rcases b z with y | y
        · exact Or.inr ⟨rfl, by rw [← y.2]; exact h8⟩
        · rw [y.1] at h6; exact absurd h6 (by decide)
      · rcases i23 with y | y <;> (rw [y] at z; exact absurd z (by decide))
      · rcases i23 with y | y
        · exact absurd y z2
        · exact absurd y z3
    · rw [oT x 6 hxt (by decide), oT x 11 hxt (by decide), oT x 7 hxt (by decide), oT x 8 hxt (by decide), oT x 4 hxt (by decide)]
      refine ⟨a, b, fun z => ?_, d⟩
      obtain ⟨c1, c2, c3⟩ := c z
      refine ⟨c1, c2, fun q q1 q2 => (c3 q q1 q2).trans ?_⟩
      rw [s6 q]
      by_cases y : q = t
      · rw [if_pos y, y, h6]
        decide
      · rw [if_neg y]
  · rw [p1 _ _ (by omega) (by omega), c9]
    congr 1
    refine cn_eq (fun x hx => ?_)
    rw [s6 x]
    by_cases y : x = t
    · rw [if_pos y, y, h6]
      exact decide_eq_decide.mpr (and_congr Iff.rfl (by decide))
    · rw [if_neg y]
  · rw [p1 _ _ (by omega) (by omega), o 3 (by decide)]
    exact c10
  · rw [p2, c11, nI_1]
    congr 1
    have c := cn_one (p := fun x => decide ((ra_T I m x 6 = 2 ∨ ra_T I m x 6 = 3) ∧ ra_T (sp_wk1 J m n t) m x 6 = 0)) (q := fun x => decide ((ra_T I m x 6 = 2 ∨ ra_T I m x 6 = 3) ∧ ra_T J m x 6 = 0)) (t := t) (fun x hx => by
      show decide _ = decide _
      rw [s6 x, if_neg hx]) t0
    rw [if_pos (show decide ((ra_T I m t 6 = 2 ∨ ra_T I m t 6 = 3) ∧ ra_T (sp_wk1 J m n t) m t 6 = 0) = true from decide_eq_true ⟨i23, by rw [s6, if_pos rfl]⟩), if_neg (show ¬ decide ((ra_T I m t 6 = 2 ∨ ra_T I m t 6 = 3) ∧ ra_T J m t 6 = 0) = true from fun z => by
      have := (of_decide_eq_true z).2
      rw [h6] at this
      exact absurd this (by decide))] at c
    omega
  · rw [s6 x, if_neg (fun z => by rw [z] at q1; omega)]
    exact hw x q1 q2
theorem li_wk (hP : P < 2147483648) (hL : L < 1999990000) : ∀ (k : Nat) {J : fI}, li_ I J m n0 n T W P L → rc2_ J m n < k → li_ I (sp_wk k J m n) m n0 n T W P L ∧ sp_wk k J m n (m + 1) 0 = J (m + 1) 0 ∧ (∀ x, x < n → ra_T (sp_wk k J m n) m x 6 = 2 → J (m + 1) 0 < ra_T (sp_wk k J m n) m x 8) ∧ ∀ x, ra_T (sp_wk k J m n) m x 6 = 3 → ra_T J m x 6 = 3 ∧ ra_T (sp_wk k J m n) m x 11 = ra_T J m x 11
  | 0, J, h, hk => by omega
  | k + 1, J, h, hk => by
    have hb := ip_rb h.1 hP
    unfold sp_wk
    cases e : sp_nr J m n with
    | none => exact ⟨h, rfl, fun x hx q => absurd q (of_decide_eq_false (bs_none e x hx)), fun x q => ⟨q, rfl⟩⟩
    | some t =>
      simp only
      obtain ⟨ht, h2⟩ := nr_of e
      by_cases c : J (m + 1) 0 < ra_T J m t 8
      · rw [if_pos c]
        exact ⟨h, rfl, fun x hx q => by
          have := bs_min (f := fun t => ra_T J m t 8) e x hx (decide_eq_true q)
          exact Int32.lt_of_lt_of_le c (Int32.not_lt.mp this), fun x q => ⟨q, rfl⟩⟩
      · rw [if_neg c]
        have hc := rc2_wk1 hb ht h2
        obtain ⟨i1, i2, i3, i4⟩ := li_wk hP hL k (li_wk1 h hP hL ht h2 c) (by omega)
        have e0 : sp_wk1 J m n t (m + 1) 0 = J (m + 1) 0 := wk1_o hb ht (by omega) (by omega) (by omega)
        refine ⟨i1, i2.trans e0, fun x hx q => by rw [← e0]; exact i3 x hx q, fun x q => ?_⟩
        obtain ⟨a, b⟩ := i4 x q
        rw [wk1_s hb ht] at a
        by_cases y : x = t
        · rw [if_pos y] at a
          exact absurd a (by decide)
        · rw [if_neg y] at a
          exact ⟨a, b.trans (wk1_o hb ht (by omega) (by omega) (by omega))⟩
/-! the tick's number, the timers' cells -/
theorem li_0 (h : li_ I J m n0 n T W P L) (hT : T < 1000000) (h0 : J (m + 1) 0 = nI X) (hX : X + 1 < 2147483648) : li_ I (i2_u J (m + 1) 0 (nI (X + 1))) m n0 n (T + 1) W P L := by
  obtain ⟨hip, hn, hq, ⟨c9, c10, c11⟩, hw, r6, r7⟩ := h
  have eT : ∀ x f, ra_T (i2_u J (m + 1) 0 (nI (X + 1))) m x f = ra_T J m x f := fun x f => i2_uj (by omega)
  have mono : ∀ v, ¬ J (m + 1) 0 < v → ¬ i2_u J (m + 1) 0 (nI (X + 1)) (m + 1) 0 < v := fun v q => by
    rw [i2_us]
    rw [h0] at q
    exact Int32.not_lt.mpr (Int32.le_trans (Int32.not_lt.mp q) (nI_le (by omega) hX))
  have hG := ix_nw hip.2 hT
  have er : i2_u (off_ J m) (m + 1) 0 (off_ J m (m + 1) 0 + 1) (m + 1) = i2_u J (m + 1) 0 (nI (X + 1)) (m + 1) := by
    rw [off_r, h0, nI_1]
    exact u_row off_r
  refine ⟨⟨(i2_ua (by omega)).trans hip.1, ?_⟩, hn, fun x hx => ?_, ⟨?_, ?_, ?_⟩, fun x q1 q2 => (eT x 6).trans (hw x q1 q2), (i2_uj (by omega)).trans r6, (i2_uj (by omega)).trans r7⟩
  · refine ix_mix (L := L) hG (off_r.trans er.symm) ?_ i2_us (fun j => ?_) (fun t ht => ?_) (fun t q1 q2 => ?_)
    · obtain ⟨x, x1, x2⟩ := hip.2.2.2.2.2.2.1
      refine ⟨x, x1, ?_⟩
      rw [← x2]
      unfold off_
      exact ((i2_uj (by decide)).trans (i2_ua (by omega))).trans (i2_uj (by decide)).symm
    · have := ix_z hip.2 j
      unfold off_ at this ⊢
      rw [i2_ua (by omega), i2_ua (by omega), i2_ua (by omega), i2_ua (by omega)]
      rw [i2_ua (by omega), i2_ua (by omega)] at this
      exact this
    · have := hip.2.2.2.2.2.2.2.2.2 t ht
      unfold off_ at this ⊢
      rw [i2_ua (by omega), i2_ua (by omega)]
      rw [i2_ua (by omega)] at this
      exact this
    · have := hip.2.2.1.2.2.2 t q1 q2
      unfold off_ at this ⊢
      rw [i2_ua (by omega), i2_ua (by omega)]
      rw [i2_ua (by omega)] at this
      exact this
  · obtain ⟨a, b, c, d⟩ := hq x hx
    simp only [eT]
    refine ⟨fun z => ?_, fun z => ?_, c, d⟩
    · rcases a z with y | ⟨y0, y | ⟨y1, y | y⟩⟩
      · exact Or.inl y
      · exact Or.inr ⟨mono _ y0, Or.inl y⟩
      · exact Or.inr ⟨mono _ y0, Or.inr ⟨y1, Or.inl y⟩⟩
      · exact Or.inr ⟨mono _ y0, Or.inr ⟨y1, Or.inr ⟨y.1, mono _ y.2⟩⟩⟩
    · rcases b z with y | y
      · exact Or.inl y
      · exact Or.inr ⟨y.1, mono _ y.2⟩
  · rw [i2_ua (by omega), c9]
    simp only [eT]
  · rw [i2_ua (by omega), i2_uj (by omega)]
    exact c10
  · rw [i2_ua (by omega), c11]
    simp only [eT]
end Lap5
