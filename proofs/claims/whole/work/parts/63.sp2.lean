/-! done, failing, passes, taking, resting -/
section Sp2
variable {B : mm_T} {I : Nat → Nat → Int32} {m n : Nat}
theorem frs_ok {pb : Int32} : ∀ {ts : List Nat} {J : Nat → Nat → Int32} {b : Nat}, (∀ t, t ∈ ts → t < n) → rb_ J m n pb → lb_ J m b → b + ts.length < 2000000000 → rb_ (sp_frs J m n ts) m n pb ∧ lb_ (sp_frs J m n ts) m (b + ts.length)
  | [], J, b, _, h, h', _ => ⟨h, h'⟩
  | t :: ts, J, b, hm, h, h', hb => by
    have ht := hm t List.mem_cons_self
    have hb : b + (ts.length + 1) < 2000000000 := hb
    have ih := frs_ok (ts := ts) (J := sp_fr1 J m n t) (b := b + 1) (fun t' q => hm t' (List.mem_cons_of_mem _ q)) (rb_fr1 h ht) (lb_fr1 h ht h' (by omega)) (by omega)
    show rb_ (sp_frs (sp_fr1 J m n t) m n ts) m n pb ∧ lb_ (sp_frs (sp_fr1 J m n t) m n ts) m (b + (ts.length + 1))
    rw [show b + (ts.length + 1) = b + 1 + ts.length by omega]
    exact ih
theorem frs_o {pb : Int32} {a j : Nat} : ∀ {ts : List Nat} {J : Nat → Nat → Int32}, (∀ t, t ∈ ts → t < n) → rb_ J m n pb → (a ≠ m + 1 ∨ ((∀ t, t ∈ ts → j ≠ 200 + 14 * t + 6) ∧ (j < 10 ∨ 60 ≤ j ∨ j % 10 ≠ 4))) → a ≠ m + 6 → (a ≠ m ∨ j ≠ 6) → sp_frs J m n ts a j = J a j
  | [], J, _, _, _, _, _ => rfl
  | t :: ts, J, hm, h, ho, h6, h0 => by
    have ht := hm t List.mem_cons_self
    have ih := frs_o (a := a) (j := j) (ts := ts) (J := sp_fr1 J m n t) (fun t' q => hm t' (List.mem_cons_of_mem _ q)) (rb_fr1 h ht) (ho.imp id (fun q => ⟨fun t' ht' => q.1 t' (List.mem_cons_of_mem _ ht'), q.2⟩)) h6 h0
    show sp_frs (sp_fr1 J m n t) m n ts a j = _
    rw [ih, sp_fr1_o h ht (ho.imp id (fun q => ⟨q.1 t List.mem_cons_self, q.2⟩)) h6 h0]
theorem hs_len {x : Int32} : (sp_hs I m n x).length ≤ n := by
  unfold sp_hs
  rw [← cn_len]
  exact cn_le _ _
theorem hs_lt {x : Int32} {t : Nat} (h : t ∈ sp_hs I m n x) : t < n ∧ ra_T I m t 6 = 1 ∧ ra_T I m t 4 = x := by
  unfold sp_hs at h
  rw [List.mem_filter, List.mem_range] at h
  exact ⟨h.1, of_decide_eq_true h.2⟩
theorem rb_T6 {pb : Int32} {t : Nat} {x : Int32} (hb : rb_ I m n pb) : rb_ (i2_u I (m + 1) (200 + 14 * t + 6) x) m n pb := rb_o hb (i2_uj (by omega)) (fun t' _ => i2_uj (by omega)) (fun l hl => i2_uj (by omega))
theorem frees_ok {pb : Int32} {b t : Nat} (hb : rb_ I m n pb) (hL : lb_ I m b) (hb2 : b < 1999000000) : rb_ (sp_frees I m n t) m n pb ∧ lb_ (sp_frees I m n t) m (b + (sp_hs (i2_u I (m + 1) (200 + 14 * t + 6) 4) m n (nI t)).length) := by
  have := hb.2.1
  have h' := hs_len (I := i2_u I (m + 1) (200 + 14 * t + 6) 4) (m := m) (n := n) (x := nI t)
  exact frs_ok (fun t' ht' => (hs_lt ht').1) (rb_T6 hb) (lb_o hL (i2_ua (by omega)) (i2_ua (by omega)) (Nat.le_refl _)) (by omega)
/-! closing -/
theorem cl_o {a j : Nat} (h : a ≠ m + 1 ∨ j < 10 ∨ 60 ≤ j ∨ j % 10 ≠ 3) : ra_cls I m n 5 a j = I a j := ra_cls_o 5 (h.imp id (fun q l hl => by omega))
/-! done -/
def sp_done (I : Nat → Nat → Int32) (m n t w : Nat) : Nat → Nat → Int32 :=
  ra_cls (sp_frees (i2_u (sp_lw (i2_u (sp_log I m 2 t (nI w) 0) (m + 1) (60 + 4 * w + 2) (I (m + 1) (60 + 4 * w + 2) + 1)) m t w) (m + 1) (200 + 14 * t + 12) (I (m + 1) 0)) m n t) m n 5
theorem rc_done (RK : rf_ok B m) {pb : Int32} (hb : rb_ I m n pb) {b t w : Nat} (hL : lb_ I m b) (hb2 : b < 1998000000) (hw : ra_T I m t 9 = nI w) (hw6 : w < 6) {x1 : Int32} (h1 : x1 = nI t) (ht : t < n) {P : (Nat → Nat → Int32) → Prop} (K : P (sp_done I m n t w)) : rs_v mt_X11_isDoneNow [pv_r m, pv_i x1] B I P := by
  subst h1
  have h4 := hb.2.1
  refine wq_X11_isDoneNow_0 RK ⟨t, ⟨rfl, by omega⟩, ?_⟩
  rw [show I (m + 1) (200 + 14 * t + 9) = nI w from hw]
  refine rc_log RK hL (by omega) rfl (by omega) ⟨w, ⟨rfl, hw6⟩, fun I4 h4' => ?_⟩
  rw [sp_log_r] at h4'
  refine rc_lw RK (t := t) (w := w) (by rw [h4']; unfold ra_T; rw [i2_uj (by omega), sp_log_r]; exact hw) hw6 rfl (by omega) (fun I6 h6 => ?_)
  rw [sp_lw_o (by omega), h4', i2_uj (by omega), sp_log_r] at h6
  have hb6 : rb_ I6 m n pb := by
    rw [h6]
    refine rb_o hb ?_ (fun t' _ => ?_) (fun l hl => ?_)
    · rw [i2_uj (by omega), sp_lw_o (by omega), i2_uj (by omega), sp_log_r]
    · unfold ra_T
      rw [i2_uj (by omega), sp_lw_o (by omega), i2_uj (by omega), sp_log_r]
    · unfold ra_L
      rw [i2_uj (by omega), sp_lw_o (by omega), i2_uj (by omega), sp_log_r]
  have hL6 : lb_ I6 m (b + 1) := by
    rw [h6]
    refine lb_o (lb_log (x1 := 2) (t := t) (x3 := nI w) (x4 := 0) hL (by omega)) ?_ ?_ (Nat.le_refl _)
    · rw [i2_ua (by omega), sp_lw_o (by omega), i2_ua (by omega)]
    · rw [i2_ua (by omega), sp_lw_o (by omega), i2_ua (by omega)]
  refine rc_frees RK hb6 hL6 (by omega) rfl ht (rc_closes RK (frees_ok hb6 hL6 (by omega)).1.1 h4 ?_)
  rw [h6]
  exact K
/-! going aside and the counts -/
theorem ga_s {c : Int32} {t t' : Nat} (ht : t < 400) (ht' : t' < 400) : ra_T (sp_ga I m t c) m t' 6 = if t' = t then 5 else ra_T I m t' 6 := by
  by_cases e : t' = t
  · rw [if_pos e, e]
    unfold sp_ga ra_T
    rw [sp_log_r, i2_ua (by omega), i2_uj (by omega), i2_at, if_neg, i2_us]
    rintro ⟨-, h⟩
    omega
  · rw [if_neg e]
    exact sp_ga_o (by omega) (by omega) (by omega)
theorem ga_3 {c : Int32} {t a : Nat} (ha : I (m + 1) 3 = nI a) (ha4 : a < 400) : sp_ga I m t c (m + 1) 3 = nI (a + 1) := by
  unfold sp_ga
  rw [sp_log_r, i2_ua (by omega), i2_us, ha, nI_clamp (by omega)]
/-- counts when one task's state changes -/
theorem cs_one {J : Nat → Nat → Int32} {t : Nat} {v : Int32} (s : Int32) (ht : t < n) (h : ∀ t', t' < n → ra_T J m t' 6 = if t' = t then v else ra_T I m t' 6) : cn_ (fun t' => decide (ra_T J m t' 6 = s)) n + (if ra_T I m t 6 = s then 1 else 0) = cn_ (fun t' => decide (ra_T I m t' 6 = s)) n + (if v = s then 1 else 0) := by
  have hcn := cn_one (p := fun t' => decide (ra_T J m t' 6 = s) && decide (t' < n)) (q := fun t' => decide (ra_T I m t' 6 = s) && decide (t' < n)) (t := t) (fun i hi => by
    by_cases hin : i < n
    · simp only [hin, decide_true, Bool.and_true]
      rw [h i hin, if_neg hi]
    · simp [hin]) ht
  have e1 : cn_ (fun t' => decide (ra_T J m t' 6 = s) && decide (t' < n)) n = cn_ (fun t' => decide (ra_T J m t' 6 = s)) n := cn_eq (fun i hi => by simp [hi])
  have e2 : cn_ (fun t' => decide (ra_T I m t' 6 = s) && decide (t' < n)) n = cn_ (fun t' => decide (ra_T I m t' 6 = s)) n := cn_eq (fun i hi => by simp [hi])
  rw [e1, e2, h t ht, if_pos rfl] at hcn
  simpa [ht] using hcn
theorem hc_ga {t : Nat} {c : Int32} (h4 : n ≤ 400) (ht : t < n) (h1 : ¬ ra_T I m t 6 = 1) : hc_ (sp_ga I m t c) m n = hc_ I m n := by
  have := cs_one (I := I) (J := sp_ga I m t c) (m := m) (n := n) (t := t) (v := 5) 1 ht (fun t' ht' => ga_s (by omega) (by omega))
  rw [if_neg h1, if_neg (by decide)] at this
  exact this
theorem cn5_lt {t : Nat} (ht : t < n) (h5 : ¬ ra_T I m t 6 = 5) : cn_ (fun t => decide (ra_T I m t 6 = 5)) n < n := by
  have := cn_lt (p := fun t => decide (ra_T I m t 6 = 5)) (q := fun _ => true) (t := t) (n := n) (fun _ _ _ => rfl) ht (decide_eq_false h5) rfl
  have h' : cn_ (fun _ => true) n ≤ n := cn_le _ _
  omega
theorem dv_o {J : Nat → Nat → Int32} {b b' : Nat} (h : dv_ I m n b) (h1 : J (m + 1) 1 = I (m + 1) 1) (h3 : J (m + 1) 3 = I (m + 1) 3) (hT : ∀ t, t < n → ra_T J m t 4 = ra_T I m t 4 ∧ ra_T J m t 6 = ra_T I m t 6) (h8 : J m 8 = I m 8) (h6 : lb_ J m b') (hc : ∀ t, t < n → cb_ I m t → cb_ J m t) : dv_ J m n b' := by
  refine ⟨h1.trans h.1, h.2.1, fun t ht => ?_, fun t ht => hc t ht (h.2.2.2.1 t ht), ?_, h6⟩
  · rw [(hT t ht).1]
    exact h.2.2.1 t ht
  · rw [h3, h.2.2.2.2.1]
    congr 1
    exact cn_eq (fun t ht => by rw [(hT t ht).2])
theorem dv_ga {b t : Nat} {c : Int32} (h : dv_ I m n b) (hb : b < 2000000000) (ht : t < n) (h5 : ¬ ra_T I m t 6 = 5) : dv_ (sp_ga I m t c) m n (b + 1) := by
  obtain ⟨h1, h2, h3, h4, h6, h7⟩ := h
  have h8 := cn5_lt ht h5
  have hcn := cs_one (I := I) (J := sp_ga I m t c) (m := m) (n := n) (t := t) (v := 5) 5 ht (fun t' ht' => ga_s (by omega) (by omega))
  rw [if_neg h5, if_pos rfl] at hcn
  refine ⟨(sp_ga_o (by omega) (by omega) (by omega)).trans h1, h2, fun t' ht' => ?_, fun t' ht' => ?_, ?_, lb_ga h7 hb⟩
  · rw [show ra_T (sp_ga I m t c) m t' 4 = ra_T I m t' 4 from sp_ga_o (by omega) (by omega) (by omega)]
    exact h3 t' ht'
  · exact cb_o (h4 t' ht') (sp_ga_o (by omega) (by omega) (by omega)) (sp_ga_o (by omega) (by omega) (by omega))
  · rw [ga_3 h6 (by omega)]
    congr 1
    omega
/-! failing -/
def sp_f8 (I : Nat → Nat → Int32) (m t w : Nat) (c : Int32) : Nat → Nat → Int32 :=
  sp_bl (sp_log (sp_lw (i2_u (i2_u (i2_u I (m + 1) (200 + 14 * t + 7) (I (m + 1) (200 + 14 * t + 7) + 1)) (m + 1) (60 + 4 * w + 3) (I (m + 1) (60 + 4 * w + 3) + 1)) m 9 (I m 9 + 1)) m t w) m 3 t (nI w) c) m t c
def sp_f2 (I : Nat → Nat → Int32) (m t : Nat) : Nat → Nat → Int32 := i2_u (i2_u I (m + 1) (200 + 14 * t + 6) 2) (m + 1) (200 + 14 * t + 8) (I (m + 1) 0 + (I (m + 1) 6 <<< ((I (m + 1) (200 + 14 * t + 7) - 1) &&& 31)))
def sp_f5 (I : Nat → Nat → Int32) (m n t k : Nat) (c : Int32) : Nat → Nat → Int32 := ra_cls (sp_drags (sp_ga (if I m 8 = 0 then i2_u I (m + 3) k (I (m + 3) k + 1) else I) m t c) m n t 100).1 m n 5
def sp_fail (I : Nat → Nat → Int32) (m n t w k : Nat) (c : Int32) : Int32 × (Nat → Nat → Int32) :=
  if I (m + 1) 7 ≤ I (m + 1) (200 + 14 * t + 7) + 1 then (5, sp_f5 (sp_f8 I m t w c) m n t k c) else (2, sp_f2 (sp_f8 I m t w c) m t)
theorem f8_o {t w a j : Nat} {c : Int32} (h : a ≠ m + 1 ∨ (j ≠ 200 + 14 * t + 7 ∧ j ≠ 60 + 4 * w + 3 ∧ j ≠ 60 + 4 * w ∧ j ≠ 200 + 14 * t + 9 ∧ j ≠ 200 + 14 * t + 10 ∧ j ≠ 200 + 14 * t + 11 ∧ j ≠ 200 + 14 * t + 13)) (h0 : a ≠ m ∨ (j ≠ 9 ∧ j ≠ 6)) (h6 : a ≠ m + 6) (h4 : a ≠ m + 4) (h5 : a ≠ m + 5) : sp_f8 I m t w c a j = I a j := by
  unfold sp_f8
  rw [sp_bl_o (by omega) h4 h5, sp_log_o h6 (by omega), sp_lw_o (by omega), i2_at, if_neg (by omega), i2_at, if_neg (by omega), i2_at, if_neg (by omega)]
theorem f8_7 {t w : Nat} {c : Int32} (hw : w < 6) : sp_f8 I m t w c (m + 1) (200 + 14 * t + 7) = I (m + 1) (200 + 14 * t + 7) + 1 := by
  unfold sp_f8
  rw [sp_bl_o (by omega) (by omega) (by omega), sp_log_r, sp_lw_o (by omega), i2_ua (by omega), i2_uj (by omega), i2_us]
theorem f8_lb {t w b : Nat} {c : Int32} (h : lb_ I m b) (hb : b < 2000000000) : lb_ (sp_f8 I m t w c) m (b + 1) := by
  unfold sp_f8
  refine lb_o (lb_log (b := b) (lb_o h ?_ ?_ (Nat.le_refl _)) hb) (sp_bl_o (by omega) (by omega) (by omega)) (sp_bl_o (by omega) (by omega) (by omega)) (Nat.le_refl _)
  · rw [sp_lw_o (by omega), i2_uj (by omega), i2_ua (by omega), i2_ua (by omega)]
  · rw [sp_lw_o (by omega), i2_uj (by omega), i2_ua (by omega), i2_ua (by omega)]
theorem f8_cb {t t' w : Nat} {c : Int32} (h : cb_ I m t') : cb_ (sp_f8 I m t w c) m t' := by
  unfold sp_f8
  refine cb_bl (cb_o h ?_ ?_)
  · rw [sp_log_o (by omega) (by omega), sp_lw_o (by omega), i2_uj (by omega), i2_ua (by omega), i2_ua (by omega)]
  · rw [sp_log_o (by omega) (by omega), sp_lw_o (by omega), i2_ua (by omega), i2_ua (by omega), i2_ua (by omega)]
theorem f8_dv {t w b : Nat} {c : Int32} (h : dv_ I m n b) (hw : w < 6) (hb : b < 2000000000) : dv_ (sp_f8 I m t w c) m n (b + 1) := by
  have := h.2.1
  refine dv_o h (f8_o (by omega) (by omega) (by omega) (by omega) (by omega)) (f8_o (by omega) (by omega) (by omega) (by omega) (by omega)) (fun t' ht' => ⟨f8_o (by omega) (by omega) (by omega) (by omega) (by omega), f8_o (by omega) (by omega) (by omega) (by omega) (by omega)⟩) (f8_o (by omega) (by omega) (by omega) (by omega) (by omega)) (f8_lb h.2.2.2.2.2 hb) (fun t' _ h => f8_cb h)
theorem hc_o {J : Nat → Nat → Int32} (hT : ∀ t, t < n → ra_T J m t 6 = ra_T I m t 6) : hc_ J m n = hc_ I m n := cn_eq (fun t ht => by rw [hT t ht])
theorem dr_ok : ∀ (k : Nat) {I : Nat → Nat → Int32} {lv : List Nat} {c : Int32} {b : Nat}, dv_ I m n b → zr_ I m → b + hc_ I m n < 2000000000 → ∃ b', dv_ (sp_dr k I m n lv c).1 m n b' ∧ b' + hc_ (sp_dr k I m n lv c).1 m n = b + hc_ I m n ∧ zr_ (sp_dr k I m n lv c).1 m
  | 0, I, lv, c, b, hd, hz, hb => ⟨b, hd, rfl, hz⟩
  | k + 1, I, lv, c, b, hd, hz, hb => by
    obtain ⟨o1, o2, o3⟩ := asd_ok (c := c) (ts := (List.range n).filter (sp_p I m lv)) hd.2.1 rg_nd (fun j hj => by
      rw [List.mem_filter, List.mem_range] at hj
      exact ⟨hj.1, (sp_p_of hj.2).1⟩) hd hz hb
    obtain ⟨b', h1, h2, h3⟩ := dr_ok k (lv := (List.range n).filter (sp_p I m lv)) (c := 100) o2 o3 (by omega)
    exact ⟨b', h1, h2.trans (by omega), h3⟩
/-- what dragging leaves as it is -/
theorem asd_o {c : Int32} {a j : Nat} : ∀ {ts : List Nat} {I : Nat → Nat → Int32}, (a ≠ m + 1 ∨ ((∀ t, t ∈ ts → j ≠ 200 + 14 * t + 6 ∧ j ≠ 200 + 14 * t + 13) ∧ j ≠ 3 ∧ j < 5800)) → (a ≠ m ∨ (j ≠ 10 ∧ j ≠ 6)) → a ≠ m + 6 → a ≠ m + 4 → a ≠ m + 5 → sp_asd I m ts c a j = I a j
  | [], _, _, _, _, _, _ => rfl
  | t :: ts, I, h, h0, h6, h4, h5 => by
    show sp_asd (sp_as1 I m t c) m ts c a j = _
    rw [asd_o (h.imp id (fun q => ⟨fun t' ht' => q.1 t' (List.mem_cons_of_mem _ ht'), q.2⟩)) h0 h6 h4 h5]
    refine as1_o ?_ h0 h6 h4 h5
    rcases h with h | h
    · exact Or.inl h
    · have := h.1 t List.mem_cons_self
      omega
theorem dr_o {a j : Nat} : ∀ (k : Nat) {I : Nat → Nat → Int32} {lv : List Nat} {c : Int32}, (a ≠ m + 1 ∨ ((∀ t, t < n → ra_T I m t 6 = 1 → j ≠ 200 + 14 * t + 6 ∧ j ≠ 200 + 14 * t + 13) ∧ j ≠ 3 ∧ j < 5800)) → n ≤ 400 → (a ≠ m ∨ (j ≠ 10 ∧ j ≠ 6)) → a ≠ m + 6 → a ≠ m + 4 → a ≠ m + 5 → (sp_dr k I m n lv c).1 a j = I a j
  | 0, _, _, _, _, _, _, _, _, _ => rfl
  | k + 1, I, lv, c, h, hn, h0, h6, h4, h5 => by
    have mem : ∀ t, t ∈ (List.range n).filter (sp_p I m lv) → t < n ∧ ra_T I m t 6 = 1 := fun j hj => by
      rw [List.mem_filter, List.mem_range] at hj
      exact ⟨hj.1, (sp_p_of hj.2).1⟩
    show (sp_dr k (sp_asd I m ((List.range n).filter (sp_p I m lv)) c) m n ((List.range n).filter (sp_p I m lv)) 100).1 a j = _
    have e : ∀ {a j : Nat}, (a ≠ m + 1 ∨ ((∀ t, t < n → ra_T I m t 6 = 1 → j ≠ 200 + 14 * t + 6 ∧ j ≠ 200 + 14 * t + 13) ∧ j ≠ 3 ∧ j < 5800)) → (a ≠ m ∨ (j ≠ 10 ∧ j ≠ 6)) → a ≠ m + 6 → a ≠ m + 4 → a ≠ m + 5 → sp_asd I m ((List.range n).filter (sp_p I m lv)) c a j = I a j := fun h h0 h6 h4 h5 => asd_o (h.imp id (fun q => ⟨fun t ht => q.1 t (mem t ht).1 (mem t ht).2, q.2⟩)) h0 h6 h4 h5
    rw [dr_o k ?_ hn h0 h6 h4 h5, e h h0 h6 h4 h5]
    rcases h with h | h
    · exact Or.inl h
    · refine Or.inr ⟨fun t ht h1 => ?_, h.2⟩
      by_cases hq : ra_T I m t 6 = 1
      · exact h.1 t ht hq
      · have : ra_T (sp_asd I m ((List.range n).filter (sp_p I m lv)) c) m t 6 = ra_T I m t 6 := e (Or.inr ⟨fun t' ht' h1' => by
          have : t ≠ t' := fun z => hq (by rw [z]; exact h1')
          omega, by omega, by omega⟩) (by omega) (by omega) (by omega) (by omega)
        rw [this] at h1
        exact absurd h1 hq
theorem rc_fail (RK : rf_ok B m) {b t w k : Nat} (hd : dv_ I m n b) (hz : zr_ I m) (hb : b + hc_ I m n < 1999000000) (hw : ra_T I m t 9 = nI w) (hw6 : w < 6) (hk : ra_T I m t 3 = nI k) (hk' : k < 10000) (h6 : ra_T I m t 6 = 3) {x1 c : Int32} (h1 : x1 = nI t) (ht : t < n) {P : Int32 → (Nat → Nat → Int32) → Prop} (K : P (sp_fail I m n t w k c).1 (sp_fail I m n t w k c).2) : rs_i mt_X11_failsNow [pv_r m, pv_i x1, pv_i c] B I P := by
  subst h1
  have h4 := hd.2.1
  refine wq_X11_failsNow_0 RK ⟨t, ⟨rfl, by omega⟩, fun I2 h2 => ⟨w, ⟨hw, hw6⟩, fun I4 h4' I5 h5 => ?_⟩⟩
  rw [h2, i2_uj (by omega)] at h4'
  rw [h4', i2_ua (by omega), i2_ua (by omega)] at h5
  have hw5 : ra_T I5 m t 9 = nI w := by
    rw [h5]
    unfold ra_T
    rw [i2_ua (by omega), i2_uj (by omega), i2_uj (by omega)]
    exact hw
  rw [show I (m + 1) (200 + 14 * t + 9) = nI w from hw]
  have hL5 : lb_ (sp_lw I5 m t w) m b := by
    refine lb_o hd.2.2.2.2.2 ?_ ?_ (Nat.le_refl _)
    · rw [sp_lw_o (by omega), h5, i2_uj (by omega), i2_ua (by omega), i2_ua (by omega)]
    · rw [sp_lw_o (by omega), h5, i2_uj (by omega), i2_ua (by omega), i2_ua (by omega)]
  have hC5 : cb_ (sp_log (sp_lw I5 m t w) m 3 t (nI w) c) m t := by
    refine cb_o (hd.2.2.2.1 t ht) ?_ ?_
    · rw [sp_log_o (by omega) (by omega), sp_lw_o (by omega), h5, i2_uj (by omega), i2_ua (by omega), i2_ua (by omega)]
    · rw [sp_log_o (by omega) (by omega), sp_lw_o (by omega), h5, i2_ua (by omega), i2_ua (by omega), i2_ua (by omega)]
  refine rc_lw RK hw5 hw6 rfl (by omega) (rc_log RK hL5 (by omega) rfl (by omega) (rc_bl RK hC5 rfl (by omega) ?_))
  have e8 : sp_bl (sp_log (sp_lw I5 m t w) m 3 t (nI w) c) m t c = sp_f8 I m t w c := by
    rw [h5]
    rfl
  rw [e8]
  unfold sp_fail at K
  have d8 := f8_dv (t := t) (w := w) (c := c) hd hw6 (by omega)
  have e7 : sp_f8 I m t w c (m + 1) 7 = I (m + 1) 7 := f8_o (by omega) (by omega) (by omega) (by omega) (by omega)
  have eT : ∀ t', t' < n → ra_T (sp_f8 I m t w c) m t' 6 = ra_T I m t' 6 := fun t' ht' => f8_o (by omega) (by omega) (by omega) (by omega) (by omega)
  have z8 : zr_ (sp_f8 I m t w c) m := zr_o hz (fun _ => f8_o (by omega) (by omega) (by omega) (by omega) (by omega)) (fun _ => f8_o (by omega) (by omega) (by omega) (by omega) (by omega))
  have fin : ∀ J : Nat → Nat → Int32, dv_ J m n (b + 1) → zr_ J m → (∀ t', t' < n → ra_T J m t' 6 = ra_T I m t' 6) → P 5 (ra_cls (sp_drags (sp_ga J m t c) m n t 100).1 m n 5) → rs_v mt_X11_goesAside [pv_r m, pv_i (nI t), pv_i c] B J (fun I9 => rs_i mt_X11_drags [pv_r m, pv_i (nI t), pv_i 100] B I9 (fun v11 I10 => rs_v mt_X11_closes [pv_r m] B I10 (fun I12 => P 5 I12))) := by
    intro J dJ zJ hJ K
    have h5 : ¬ ra_T J m t 6 = 5 := by rw [hJ t ht, h6]; decide
    have h1 : ¬ ra_T J m t 6 = 1 := by rw [hJ t ht, h6]; decide
    have hlt := cn5_lt ht h5
    have hcJ : hc_ J m n = hc_ I m n := hc_o hJ
    have dg := dv_ga (c := c) dJ (by omega) ht h5
    have zg : zr_ (sp_ga J m t c) m := zr_o zJ (fun _ => sp_ga_o (by omega) (by omega) (by omega)) (fun _ => sp_ga_o (by omega) (by omega) (by omega))
    have hg := hc_ga (c := c) h4 ht h1
    refine rc_ga RK dJ.2.2.2.2.2 (by omega) dJ.2.2.2.2.1 (by omega) rfl (by omega) (rc_drags RK dg zg (by omega) rfl ht ?_)
    obtain ⟨b', h7, -, -⟩ := dr_ok 401 (lv := [t]) (c := 100) dg zg (by omega)
    exact rc_closes RK h7.1 h4 K
  refine ⟨fun c1 => ?_, fun c1 => ?_⟩
  · rw [e7, f8_7 hw6] at c1
    rw [if_pos c1] at K
    have K : P 5 (sp_f5 (sp_f8 I m t w c) m n t k c) := K
    unfold sp_f5 at K
    refine ⟨fun c2 => ?_, fun c2 => ⟨k, ⟨?_, hk'⟩, fun I14 h14 => ?_⟩⟩
    · rw [if_neg c2] at K
      exact fin _ d8 z8 eT K
    · exact (f8_o (by omega) (by omega) (by omega) (by omega) (by omega)).trans hk
    · rw [if_pos c2, ← h14] at K
      refine fin I14 ?_ ?_ ?_ K
      · rw [h14]
        exact dv_o d8 (i2_ua (by omega)) (i2_ua (by omega)) (fun _ _ => ⟨i2_ua (by omega), i2_ua (by omega)⟩) (i2_ua (by omega)) (lb_o d8.2.2.2.2.2 (i2_ua (by omega)) (i2_ua (by omega)) (Nat.le_refl _)) (fun _ _ h => cb_o h (i2_ua (by omega)) (i2_ua (by omega)))
      · rw [h14]
        exact zr_o z8 (fun _ => i2_ua (by omega)) (fun _ => i2_ua (by omega))
      · intro t' ht'
        rw [h14]
        unfold ra_T
        rw [i2_ua (by omega)]
        exact eT t' ht'
  · have c1' := c1
    rw [e7, f8_7 hw6] at c1'
    rw [if_neg c1'] at K
    intro I19 h19 I20 h20
    rw [h19, i2_uj (by omega), i2_uj (by omega), i2_uj (by omega)] at h20
    rw [h20]
    exact K
end Sp2
