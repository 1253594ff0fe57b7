/-! what the acts leave: tokens, timers, what was taken; who is out ends as before, who is aside has a cause -/
section Xg
variable {I J N : Nat → Nat → Int32} {m n T W P L : Nat}
def xj_ (j : Nat) : Prop := j = 2 ∨ (10 ≤ j ∧ j < 60 ∧ j % 10 = 5) ∨ j = 84 ∨ (200 ≤ j ∧ j < 5800 ∧ ((j - 200) % 14 = 6 ∨ (j - 200) % 14 = 11 ∨ (j - 200) % 14 = 13))
def xg_ (m n : Nat) (I J : fI) : Prop := (∀ j, (j = 2 ∨ j = 84) → J (m + 1) j = I (m + 1) j) ∧ (∀ l, l < 5 → ra_L J m l 5 = ra_L I m l 5) ∧ (∀ t, t < n → ra_T J m t 6 = 3 → ra_T I m t 6 = 3 ∧ ra_T J m t 11 = ra_T I m t 11) ∧ ∀ t, t < n → ra_T J m t 6 = 5 → (ra_T I m t 6 = 5 ∧ ra_T J m t 13 = ra_T I m t 13) ∨ ∃ c, c ≤ 101 ∧ ra_T J m t 13 = nI c
theorem xg_rf : xg_ m n I I := ⟨fun _ _ => rfl, fun _ _ => rfl, fun _ _ h => ⟨h, rfl⟩, fun _ _ h => Or.inl ⟨h, rfl⟩⟩
theorem xg_tr (h : xg_ m n I J) (h' : xg_ m n J N) : xg_ m n I N := by
  refine ⟨fun j q => (h'.1 j q).trans (h.1 j q), fun l q => (h'.2.1 l q).trans (h.2.1 l q), fun t q z => ?_, fun t q z => ?_⟩
  · obtain ⟨a, b⟩ := h'.2.2.1 t q z
    obtain ⟨c, d⟩ := h.2.2.1 t q a
    exact ⟨c, b.trans d⟩
  · rcases h'.2.2.2 t q z with ⟨a, b⟩ | b
    · rcases h.2.2.2 t q a with ⟨c, d⟩ | ⟨c, c1, c2⟩
      · exact Or.inl ⟨c, b.trans d⟩
      · exact Or.inr ⟨c, c1, b.trans c2⟩
    · exact Or.inr b
theorem xg_1 (hn : n ≤ 400) {t : Nat} (ho : ∀ j, xj_ j → j ≠ 200 + 14 * t + 6 → j ≠ 200 + 14 * t + 11 → j ≠ 200 + 14 * t + 13 → J (m + 1) j = I (m + 1) j) (h6 : ¬ ra_T J m t 6 = 3) (h5 : ra_T J m t 6 = 5 → ∃ c, c ≤ 101 ∧ ra_T J m t 13 = nI c) : xg_ m n I J := by
  by_cases ht : t < 400
  · refine ⟨fun j q => ho j (by unfold xj_; omega) (by omega) (by omega) (by omega), fun l q => ho _ (by unfold xj_; omega) (by omega) (by omega) (by omega), fun x q z => ?_, fun x q z => ?_⟩
    · by_cases e : x = t
      · rw [e] at z
        exact absurd z h6
      · have o : ∀ f, (f = 6 ∨ f = 11 ∨ f = 13) → ra_T J m x f = ra_T I m x f := fun f y => ho _ (by unfold xj_; omega) (by omega) (by omega) (by omega)
        exact ⟨(o 6 (by omega)).symm.trans z, o 11 (by omega)⟩
    · by_cases e : x = t
      · rw [e] at z ⊢
        exact Or.inr (h5 z)
      · have o : ∀ f, (f = 6 ∨ f = 11 ∨ f = 13) → ra_T J m x f = ra_T I m x f := fun f y => ho _ (by unfold xj_; omega) (by omega) (by omega) (by omega)
        exact Or.inl ⟨(o 6 (by omega)).symm.trans z, o 13 (by omega)⟩
  · refine ⟨fun j q => ho j (by unfold xj_; omega) (by omega) (by omega) (by omega), fun l q => ho _ (by unfold xj_; omega) (by omega) (by omega) (by omega), fun x q z => ?_, fun x q z => ?_⟩
    · have o : ∀ f, (f = 6 ∨ f = 11 ∨ f = 13) → ra_T J m x f = ra_T I m x f := fun f y => ho _ (by unfold xj_; omega) (by omega) (by omega) (by omega)
      exact ⟨(o 6 (by omega)).symm.trans z, o 11 (by omega)⟩
    · have o : ∀ f, (f = 6 ∨ f = 11 ∨ f = 13) → ra_T J m x f = ra_T I m x f := fun f y => ho _ (by unfold xj_; omega) (by omega) (by omega) (by omega)
      exact Or.inl ⟨(o 6 (by omega)).symm.trans z, o 13 (by omega)⟩
theorem xg_eq (hn : n ≤ 400) (ho : ∀ j, xj_ j → J (m + 1) j = I (m + 1) j) : xg_ m n I J := by
  have o : ∀ x f, x < n → (f = 6 ∨ f = 11 ∨ f = 13) → ra_T J m x f = ra_T I m x f := fun x f q y => ho _ (by unfold xj_; omega)
  refine ⟨fun j q => ho j (by unfold xj_; omega), fun l q => ho _ (by unfold xj_; omega), fun x q z => ⟨(o x 6 q (by omega)).symm.trans z, o x 11 q (by omega)⟩, fun x q z => Or.inl ⟨(o x 6 q (by omega)).symm.trans z, o x 13 q (by omega)⟩⟩
theorem xg_log (hn : n ≤ 400) {x1 x3 x4 : Int32} {t : Nat} : xg_ m n I (sp_log I m x1 t x3 x4) := xg_eq hn (fun _ _ => sp_log_r)
theorem xg_cls (hn : n ≤ 400) : xg_ m n I (ra_cls I m n 5) := xg_eq hn (fun j q => cl_o (by unfold xj_ at q; omega))
theorem xg_fr1 {pb : Int32} (hb : rb_ I m n pb) {t : Nat} (ht : t < n) : xg_ m n I (sp_fr1 I m n t) := by
  have hn := hb.2.1
  refine xg_1 (t := t) hn (fun j q q1 q2 q3 => sp_fr1_o hb ht (by unfold xj_ at q; omega) (by omega) (by omega)) ?_ (fun z => ?_)
  · rw [show ra_T (sp_fr1 I m n t) m t 6 = 0 from sp_fr1_6]
    decide
  · rw [show ra_T (sp_fr1 I m n t) m t 6 = 0 from sp_fr1_6] at z
    exact absurd z (by decide)
theorem xg_frs {pb : Int32} : ∀ {ts : List Nat} {I : fI}, (∀ t, t ∈ ts → t < n) → rb_ I m n pb → xg_ m n I (sp_frs I m n ts)
  | [], _, _, _ => xg_rf
  | t :: ts, I, h, hb => xg_tr (xg_fr1 hb (h t List.mem_cons_self)) (xg_frs (ts := ts) (I := sp_fr1 I m n t) (fun x q => h x (List.mem_cons_of_mem _ q)) (rb_fr1 hb (h t List.mem_cons_self)))
theorem xg_wk1 {pb : Int32} (hb : rb_ I m n pb) {t : Nat} (ht : t < n) : xg_ m n I (sp_wk1 I m n t) := by
  have hn := hb.2.1
  refine xg_1 (t := t) hn (fun j q q1 q2 q3 => wk1_o hb ht (by unfold xj_ at q; omega) (by omega) (by omega)) ?_ (fun z => ?_)
  · rw [show ra_T (sp_wk1 I m n t) m t 6 = 0 from wk1_6]
    decide
  · rw [show ra_T (sp_wk1 I m n t) m t 6 = 0 from wk1_6] at z
    exact absurd z (by decide)
theorem xg_wk {pb : Int32} : ∀ (k : Nat) {I : fI}, rb_ I m n pb → xg_ m n I (sp_wk k I m n)
  | 0, _, _ => xg_rf
  | k + 1, I, hb => by
    unfold sp_wk
    cases hq : sp_nr I m n with
    | none => exact xg_rf
    | some t =>
      simp only
      split
      · exact xg_rf
      · exact xg_tr (xg_wk1 hb (nr_of hq).1) (xg_wk k (rb_wk1 hb (nr_of hq).1))
theorem xg_done {pb : Int32} (hb : rb_ I m n pb) {t w : Nat} (ht : t < n) (hw : w < 6) : xg_ m n I (sp_done I m n t w) := by
  have hn := hb.2.1
  obtain ⟨A, hA⟩ : ∃ A, A = i2_u (sp_lw (i2_u (sp_log I m 2 t (nI w) 0) (m + 1) (60 + 4 * w + 2) (I (m + 1) (60 + 4 * w + 2) + 1)) m t w) (m + 1) (200 + 14 * t + 12) (I (m + 1) 0) := ⟨_, rfl⟩
  have Ao : ∀ j, j ≠ 60 + 4 * w + 2 → j ≠ 60 + 4 * w → j ≠ 200 + 14 * t + 9 → j ≠ 200 + 14 * t + 10 → j ≠ 200 + 14 * t + 11 → j ≠ 200 + 14 * t + 12 → A (m + 1) j = I (m + 1) j := fun j q1 q2 q3 q4 q5 q6 => by
    rw [hA, i2_uj q6, sp_lw_o (by omega), i2_uj q1, sp_log_r]
  have hbA : rb_ (i2_u A (m + 1) (200 + 14 * t + 6) 4) m n pb := rb_T6 (rb_o hb (Ao _ (by omega) (by omega) (by omega) (by omega) (by omega) (by omega)) (fun x q => Ao _ (by omega) (by omega) (by omega) (by omega) (by omega) (by omega)) (fun l q => Ao _ (by omega) (by omega) (by omega) (by omega) (by omega) (by omega)))
  have e : sp_done I m n t w = ra_cls (sp_frs (i2_u A (m + 1) (200 + 14 * t + 6) 4) m n (sp_hs (i2_u A (m + 1) (200 + 14 * t + 6) 4) m n (nI t))) m n 5 := by rw [hA]; rfl
  rw [e]
  refine xg_tr (xg_1 (t := t) hn (fun j q q1 q2 q3 => ?_) ?_ (fun z => ?_)) (xg_tr (xg_frs (fun x q => (hs_lt q).1) hbA) (xg_cls hn))
  · rw [i2_uj q1]
    exact Ao j (by unfold xj_ at q; omega) (by unfold xj_ at q; omega) (by unfold xj_ at q; omega) (by unfold xj_ at q; omega) q2 (by unfold xj_ at q; omega)
  · rw [show ra_T (i2_u A (m + 1) (200 + 14 * t + 6) 4) m t 6 = 4 from i2_us]
    decide
  · rw [show ra_T (i2_u A (m + 1) (200 + 14 * t + 6) 4) m t 6 = 4 from i2_us] at z
    exact absurd z (by decide)
theorem xg_back {pb : Int32} (hb : rb_ I m n pb) {t w : Nat} (ht : t < n) (hw : w < 6) : xg_ m n I (sp_fr1 (sp_lw I m t w) m n t) := by
  have hn := hb.2.1
  have hbA : rb_ (sp_lw I m t w) m n pb := rb_o hb (sp_lw_o (by omega)) (fun x q => sp_lw_o (by omega)) (fun l q => sp_lw_o (by omega))
  refine xg_1 (t := t) hn (fun j q q1 q2 q3 => ?_) ?_ (fun z => ?_)
  · rw [sp_fr1_o hbA ht (by unfold xj_ at q; omega) (by omega) (by omega)]
    exact sp_lw_o (by unfold xj_ at q; omega)
  · rw [show ra_T (sp_fr1 (sp_lw I m t w) m n t) m t 6 = 0 from sp_fr1_6]
    decide
  · rw [show ra_T (sp_fr1 (sp_lw I m t w) m n t) m t 6 = 0 from sp_fr1_6] at z
    exact absurd z (by decide)
theorem bl_13 {t : Nat} {x : Int32} : ra_T (sp_bl I m t x) m t 13 = x := by
  unfold ra_T sp_bl
  split
  · unfold ra_blame
    split
    · exact i2_us
    · rw [i2_ua (by omega), i2_ua (by omega), i2_us]
  · exact i2_us
theorem xg_as1 (hn : n ≤ 400) {t c : Nat} (ht : t < n) (hc : c ≤ 101) : xg_ m n I (sp_as1 I m t (nI c)) := by
  refine xg_1 (t := t) hn (fun j q q1 q2 q3 => as1_o (by unfold xj_ at q; omega) (by omega) (by omega) (by omega) (by omega)) ?_ (fun _ => ⟨c, hc, ?_⟩)
  · rw [show ra_T (sp_as1 I m t (nI c)) m t 6 = 5 from as1_6 (by omega)]
    decide
  · refine Eq.trans ?_ (bl_13 (I := I) (m := m) (t := t))
    exact sp_ga_o (by omega) (by omega) (by omega)
theorem xg_asd (hn : n ≤ 400) {c : Nat} (hc : c ≤ 101) : ∀ {ts : List Nat} {I : fI}, (∀ t, t ∈ ts → t < n) → xg_ m n I (sp_asd I m ts (nI c))
  | [], _, _ => xg_rf
  | t :: ts, I, h => xg_tr (xg_as1 hn (h t List.mem_cons_self) hc) (xg_asd hn hc (ts := ts) (I := sp_as1 I m t (nI c)) (fun x q => h x (List.mem_cons_of_mem _ q)))
theorem xg_dr (hn : n ≤ 400) : ∀ (k : Nat) {I : fI} {lv : List Nat} {c : Nat}, c ≤ 101 → xg_ m n I (sp_dr k I m n lv (nI c)).1
  | 0, _, _, _, _ => xg_rf
  | k + 1, I, lv, c, hc => xg_tr (xg_asd hn hc (fun t q => by
      rw [List.mem_filter, List.mem_range] at q
      exact q.1)) (xg_dr hn k (c := 100) (by decide))
theorem xg_fail (hn : n ≤ 400) {t w k c : Nat} (ht : t < n) (hw : w < 6) (hc : c ≤ 101) : xg_ m n I (sp_fail I m n t w k (nI c)).2 := by
  have A13 : ra_T (sp_f8 I m t w (nI c)) m t 13 = nI c := bl_13
  have Ao : ∀ j, xj_ j → j ≠ 200 + 14 * t + 11 → j ≠ 200 + 14 * t + 13 → sp_f8 I m t w (nI c) (m + 1) j = I (m + 1) j := fun j q q1 q2 => f8_o (by unfold xj_ at q; omega) (by omega) (by omega) (by omega) (by omega)
  unfold sp_fail
  split
  · show xg_ m n I (sp_f5 (sp_f8 I m t w (nI c)) m n t k (nI c))
    obtain ⟨A, hA⟩ : ∃ A, A = sp_f8 I m t w (nI c) := ⟨_, rfl⟩
    rw [← hA] at Ao A13 ⊢
    unfold sp_f5
    obtain ⟨X, hX⟩ : ∃ X, X = (if A m 8 = 0 then i2_u A (m + 3) k (A (m + 3) k + 1) else A) := ⟨_, rfl⟩
    rw [← hX]
    have Xo : ∀ j, X (m + 1) j = A (m + 1) j := fun j => by
      rw [hX]
      split
      · exact i2_ua (by omega)
      · rfl
    refine xg_tr (xg_1 (t := t) hn (fun j q q1 q2 q3 => ?_) ?_ (fun _ => ⟨c, hc, ?_⟩)) (xg_tr (xg_dr hn 401 (c := 100) (by decide)) (xg_cls hn))
    · rw [sp_ga_o (by unfold xj_ at q; omega) (by omega) (by omega), Xo]
      exact Ao j q q2 q3
    · rw [ga_s (by omega) (by omega), if_pos rfl]
      decide
    · refine Eq.trans ?_ A13
      show sp_ga X m t (nI c) (m + 1) (200 + 14 * t + 13) = _
      rw [sp_ga_o (by omega) (by omega) (by omega), Xo]
      rfl
  · show xg_ m n I (sp_f2 (sp_f8 I m t w (nI c)) m t)
    have e6 : ra_T (sp_f2 (sp_f8 I m t w (nI c)) m t) m t 6 = 2 := by
      unfold sp_f2 ra_T
      rw [i2_uj (by omega), i2_us]
    refine xg_1 (t := t) hn (fun j q q1 q2 q3 => ?_) (by rw [e6]; decide) (fun z => by rw [e6] at z; exact absurd z (by decide))
    unfold sp_f2
    rw [i2_uj (by unfold xj_ at q; omega), i2_uj q1]
    exact Ao j q q2 q3
theorem xg_fl (h : ix_ I m n T W P L) {t c : Nat} (ht : t < n) (h6 : ra_T I m t 6 = 3) (hc : c ≤ 101) : xg_ m n I (sp_fl I m n t (nI c)) := by
  obtain ⟨w, k, hw, h9, hk, h3, e9, e3, -⟩ := ix_out h ht h6
  unfold sp_fl
  rw [e9, e3]
  exact xg_fail (ix_4 h) ht hw hc
theorem xg_fls (hT : T < 1000000) : ∀ (ts : List Nat) {I : fI} {L : Nat}, ix_ I m n T W P L → L + 410 * ts.length < 1999990000 → (List.range n).filter (en_ I m) = ts → xg_ m n I (sp_fls I m n ts) ∧ ∀ x, x < n → en_ (sp_fls I m n ts) m x = false
  | [], I, L, h, _, hts => ⟨xg_rf, fun x hx => by
      cases he : en_ I m x with
      | false => exact he
      | true =>
        have : x ∈ (List.range n).filter (en_ I m) := List.mem_filter.mpr ⟨List.mem_range.mpr hx, he⟩
        rw [hts] at this
        cases this⟩
  | t :: ts, I, L, h, hL, hts => by
    rw [List.length_cons] at hL
    have hm : t < n ∧ en_ I m t = true := by
      have : t ∈ (List.range n).filter (en_ I m) := by rw [hts]; exact List.mem_cons_self
      rw [List.mem_filter, List.mem_range] at this
      exact this
    have h1 := ix_fl (c := 0) h hT (by omega) hm.1 (en_3 hm.2)
    have ih := xg_fls hT ts h1 (by omega) (hs_tl hts (fun x q => fl_en h hm.1 (en_3 hm.2) q))
    exact ⟨xg_tr (xg_fl (c := 0) h hm.1 (en_3 hm.2) (by decide)) ih.1, ih.2⟩
end Xg
