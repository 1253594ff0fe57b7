/-! the run on paper: one round of it -/
section Run3
variable {I J N : Nat → Nat → Int32} {m n Pb t w X : Nat} {en : Nat → Int32}
def pr_ (J : fI) (m n Pb w : Nat) (en : Nat → Int32) (X : Nat) : Prop := pp_ J m n Pb ∧ J (m + 1) 0 = nI X ∧ eo_ J m n en X ∧ ou_ J m n ≤ w
def sv_ (m n w : Nat) (J : fI) (en : Nat → Int32) : fI × (Nat → Int32) := fsv m n (w - ou_ (sp_wk 401 J m n) m n) (sp_wk 401 J m n) en
def vx_ (m n w : Nat) (J : fI) (en : Nat → Int32) : Int32 := nx_ (sv_ m n w J en).1 m n (sv_ m n w J en).2
def n4_ (m n w : Nat) (J : fI) (en : Nat → Int32) : fI := i2_u (sv_ m n w J en).1 (m + 1) 0 (vx_ m n w J en)
def d4_ (m n w : Nat) (J : fI) (en : Nat → Int32) : List Nat := dl_ (n4_ m n w J en) m n (sv_ m n w J en).2
def frw (m n w : Nat) (x0 : Int32) : Nat → fI → (Nat → Int32) → Int32 → Int32 → (Nat → Int32) → Int32 × Int32 × Int32 × (Nat → Int32)
  | 0, _, _, _, _, e => (0, 0, 0, e)
  | f + 1, J, en, la, id, e => if vx_ m n w J en = -1 then (J (m + 1) 0 - x0, la, id, e) else
    frw m n w x0 f (fcs (n4_ m n w J en) m n (d4_ m n w J en)) (sv_ m n w J en).2 (lst_ la (d4_ m n w J en)) (id + nI (w - ou_ (sv_ m n w J en).1 m n) * (vx_ m n w J en - J (m + 1) 0)) (emp_ (n4_ m n w J en) m (vx_ m n w J en - x0) e (d4_ m n w J en))
theorem ou_eq (h : ∀ x, x < n → (ra_T N m x 6 = 3 ↔ ra_T J m x 6 = 3)) : ou_ N m n = ou_ J m n := cn_eq (fun x hx => decide_eq_decide.mpr (h x hx))
theorem rc2_eq (h : ∀ x, x < n → (ra_T N m x 6 = 2 ↔ ra_T J m x 6 = 2)) : rc2_ N m n = rc2_ J m n := cn_eq (fun x hx => decide_eq_decide.mpr (h x hx))
theorem rc2_401 (h : pp_ J m n Pb) : rc2_ J m n < 401 := by
  have := cn_le (fun t => decide (ra_T J m t 6 = 2)) n
  have := h.1.1.2.1
  unfold rc2_
  omega
theorem dl_m {t : Nat} (h : t ∈ dl_ J m n en) : t < n ∧ ra_T J m t 6 = 3 ∧ ¬ J (m + 1) 0 < en t := by
  unfold dl_ at h
  rw [List.mem_filter, List.mem_range] at h
  exact ⟨h.1, of_decide_eq_true h.2⟩
theorem dl_mem {t : Nat} (h1 : t < n) (h2 : ra_T J m t 6 = 3) (h3 : ¬ J (m + 1) 0 < en t) : t ∈ dl_ J m n en := by
  unfold dl_
  rw [List.mem_filter, List.mem_range]
  exact ⟨h1, decide_eq_true ⟨h2, h3⟩⟩
/-- after waking and serving -/
theorem pr_wk (h : pr_ J m n Pb w en X) : pr_ (sp_wk 401 J m n) m n Pb w en X ∧ ou_ (sp_wk 401 J m n) m n = ou_ J m n ∧ (∀ v x, x < n → ra_st (sp_wk 401 J m n) m v x = ra_st J m v x) ∧ (∀ x, x < n → ra_T (sp_wk 401 J m n) m x 6 = 2 → nI X < ra_T (sp_wk 401 J m n) m x 8) ∧ sj_6 m J (sp_wk 401 J m n) := by
  obtain ⟨h1, h2, h3, h4⟩ := h
  obtain ⟨⟨a1, a2, a3⟩, a4, a5, a6, a7, a8⟩ := wk_all 401 h1 (rc2_401 h1)
  have eo : ou_ (sp_wk 401 J m n) m n = ou_ J m n := ou_eq (fun x _ => a5 x)
  exact ⟨⟨a1, a2.trans h2, fun x hx q => h3 x hx ((a5 x).mp q), by omega⟩, eo, a4, fun x hx q => by rw [← h2]; exact a6 x hx q, a3⟩
theorem pr_sv (h : pr_ J m n Pb w en X) (hX : X + 20 < 2147483648) : pr_ (sv_ m n w J en).1 m n Pb w (sv_ m n w J en).2 X ∧ (∀ v x, x < n → ra_st (sv_ m n w J en).1 m v x = ra_st J m v x) ∧ rc2_ (sv_ m n w J en).1 m n = rc2_ (sp_wk 401 J m n) m n ∧ (∀ x, x < n → ra_T (sv_ m n w J en).1 m x 6 = 2 → nI X < ra_T (sv_ m n w J en).1 m x 8) ∧ sj_6 m J (sv_ m n w J en).1 ∧ (1 ≤ w → ou_ (sv_ m n w J en).1 m n = 0 → ra_lane (sv_ m n w J en).1 m n 1 = none) := by
  obtain ⟨⟨h1, h2, h3, h4⟩, h5, h6, h7, h8⟩ := pr_wk h
  obtain ⟨⟨i1, i2, i3, i4⟩, i5, i6, i7, i8, i9, i10⟩ := fsv_all (w - ou_ (sp_wk 401 J m n) m n) h1 h2 hX h3
  refine ⟨⟨i1, i2, i4, ?_⟩, fun v x hx => (i5 v x hx).trans (h6 v x hx), rc2_eq i6, fun x hx q => ?_, sj_tr h8 i3, fun hw q => ?_⟩
  · unfold sv_
    omega
  · have := h7 x hx ((i6 x hx).mp q)
    unfold sv_
    rw [i7 x]
    exact this
  · unfold sv_ at q ⊢
    have hz := i10 (by omega) q
    rw [hz.1]
    exact hz.2
theorem pr_nx (h : pr_ J m n Pb w en X) (hX : X + 20 < 2147483648) (hw : 1 ≤ w) : (vx_ m n w J en = -1 ∧ cn_ (ra_st (sv_ m n w J en).1 m (-1)) n = 0) ∨ ∃ Y, vx_ m n w J en = nI Y ∧ X < Y ∧ (Y ≤ X + 20 ∨ Y < 1000000000) ∧ 0 < cn_ (ra_st (sv_ m n w J en).1 m (-1)) n ∧ pr_ (fcs (n4_ m n w J en) m n (d4_ m n w J en)) m n Pb w (sv_ m n w J en).2 Y ∧ nu_ (sp_wk 401 (fcs (n4_ m n w J en) m n (d4_ m n w J en)) m n) m n + 1 ≤ nu_ (sp_wk 401 J m n) m n ∧ pp_ (n4_ m n w J en) m n Pb ∧ n4_ m n w J en (m + 1) 0 = nI Y ∧ (∀ x, x < n → ra_T (sv_ m n w J en).1 m x 6 = 3 → ¬ (sv_ m n w J en).2 x < nI Y) := by
  obtain ⟨⟨a1, a2, a3, a4⟩, b1, b2, b3, b4, b5⟩ := pr_sv h hX
  have b1' := (pr_wk h).2.2.1
  rcases nx_all a1 hX a3 b3 with ⟨c1, c2, c3⟩ | ⟨Y, c1, c2, c3, c4, c5, c6⟩
  · exact Or.inl ⟨c1, no_st a1 c2 c3 (b5 hw c2)⟩
  · have c1 : vx_ m n w J en = nI Y := c1
    have hY : Y < 2147483648 := by omega
    have e4 : ∀ x f, ra_T (n4_ m n w J en) m x f = ra_T (sv_ m n w J en).1 m x f := fun x f => i2_uj (by omega)
    have r4 : n4_ m n w J en (m + 1) 0 = nI Y := by
      unfold n4_
      rw [i2_us, c1]
    have p4 : pp_ (n4_ m n w J en) m n Pb := pp_0 a1
    have hd : ∀ t, t ∈ d4_ m n w J en → t < n ∧ ra_T (n4_ m n w J en) m t 6 = 3 := fun t q => ⟨(dl_m q).1, (dl_m q).2.1⟩
    obtain ⟨⟨f1, f2, f3⟩, f4, f5, f6, f7⟩ := fcs_all (d4_ m n w J en) p4 hd rg_nd
    have pF : pr_ (fcs (n4_ m n w J en) m n (d4_ m n w J en)) m n Pb w (sv_ m n w J en).2 Y := by
      refine ⟨f1, f2.trans r4, fun x hx q => ?_, ?_⟩
      · obtain ⟨g1, g2⟩ := (f5 x hx).mp q
        rw [e4] at g1
        obtain ⟨e, q1, q2, q3⟩ := a3 x hx g1
        have : nI Y < nI e := by
          rw [← q3]
          refine Classical.byContradiction (fun z => g2 (dl_mem hx (by rw [e4]; exact g1) (by rw [r4]; exact z)))
        rw [nI_ltI (by omega) (by omega)] at this
        exact ⟨e, this, by omega, q3⟩
      · refine Nat.le_trans (cn_sub (fun x hx q => ?_)) a4
        have := ((f5 x hx).mp (of_decide_eq_true q)).1
        rw [e4] at this
        exact decide_eq_true this
    obtain ⟨⟨w1, w2, w3⟩, w4, w5, w6, w7, w8⟩ := wk_all 401 f1 (rc2_401 f1)
    have s4 : ∀ v x, ra_st (n4_ m n w J en) m v x = ra_st (sv_ m n w J en).1 m v x := fun v x => by
      unfold ra_st
      rw [e4, e4]
    have n1 : cn_ (ra_st (sp_wk 401 (fcs (n4_ m n w J en) m n (d4_ m n w J en)) m n) m (-1)) n = cn_ (ra_st (fcs (n4_ m n w J en) m n (d4_ m n w J en)) m (-1)) n := cn_eq (fun x hx => w4 _ x hx)
    have n2 : cn_ (ra_st (sv_ m n w J en).1 m (-1)) n = cn_ (ra_st (sp_wk 401 J m n) m (-1)) n := cn_eq (fun x hx => (b1 _ x hx).trans (b1' _ x hx).symm)
    have n3 : rc2_ (fcs (n4_ m n w J en) m n (d4_ m n w J en)) m n = rc2_ (sv_ m n w J en).1 m n := rc2_eq (fun x hx => by rw [f6 x hx, e4])
    have n5 : cn_ (ra_st (fcs (n4_ m n w J en) m n (d4_ m n w J en)) m (-1)) n ≤ cn_ (ra_st (sv_ m n w J en).1 m (-1)) n := cn_sub (fun x hx q => by
      rw [f4 _ x hx, Bool.and_eq_true, s4] at q
      exact q.1)
    have pos : 0 < cn_ (ra_st (sv_ m n w J en).1 m (-1)) n := by
      rcases c6 with ⟨x, x1, x2, -⟩ | ⟨x, x1, x2, -⟩
      · exact cn_pos (decide_eq_true ⟨Or.inl rfl, by rw [x2]; decide⟩) x1
      · exact cn_pos (decide_eq_true ⟨Or.inl rfl, by rw [x2]; decide⟩) x1
    refine Or.inr ⟨Y, c1, c2, c3, pos, pF, ?_, p4, r4, c4⟩
    unfold nu_
    rw [n1]
    rcases c6 with ⟨x, x1, x2, x3⟩ | ⟨x, x1, x2, x3⟩
    · have n6 : cn_ (ra_st (fcs (n4_ m n w J en) m n (d4_ m n w J en)) m (-1)) n < cn_ (ra_st (sv_ m n w J en).1 m (-1)) n := cn_lt (t := x) (fun y hy q => by
        rw [f4 _ y hy, Bool.and_eq_true, s4] at q
        exact q.1) x1 (by
        have hin : x ∈ d4_ m n w J en := dl_mem x1 (by rw [e4]; exact x2) (by rw [r4, x3]; exact fun q => Int32.lt_irrefl q)
        rw [f4 _ x x1, decide_eq_false (fun q => q hin), Bool.and_false]) (decide_eq_true ⟨Or.inl rfl, by rw [x2]; decide⟩)
      omega
    · have n6 := w8 ⟨x, x1, (f6 x x1).mpr (by rw [e4]; exact x2), by rw [f2, r4, f7 x, e4, x3]; exact fun q => Int32.lt_irrefl q⟩
      omega
theorem frw_e {x0 la id : Int32} {e : Nat → Int32} {f : Nat} (h : vx_ m n w J en = -1) : frw m n w x0 (f + 1) J en la id e = (J (m + 1) 0 - x0, la, id, e) := if_pos h
theorem frw_s {x0 la id : Int32} {e : Nat → Int32} {f : Nat} (h : ¬ vx_ m n w J en = -1) : frw m n w x0 (f + 1) J en la id e = frw m n w x0 f (fcs (n4_ m n w J en) m n (d4_ m n w J en)) (sv_ m n w J en).2 (lst_ la (d4_ m n w J en)) (id + nI (w - ou_ (sv_ m n w J en).1 m n) * (vx_ m n w J en - J (m + 1) 0)) (emp_ (n4_ m n w J en) m (vx_ m n w J en - x0) e (d4_ m n w J en)) := if_neg h
end Run3
