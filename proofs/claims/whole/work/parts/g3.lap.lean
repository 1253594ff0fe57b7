/-! lapse: what a tick does on paper: rows alone, and the rest stays -/
section Lap
variable {I J N G : Nat → Nat → Int32} {m n t T W P L L' : Nat}
/-- off paper -/
def off_ (J : fI) (m : Nat) : fI := i2_u J m 8 0
theorem off_r : off_ J m (m + 1) = J (m + 1) := funext (fun _ => i2_ua (by omega))
theorem ix_mix (hG : ix_ G m n T W P L') (hr : N (m + 1) = G (m + 1)) (h6 : ∃ x, x ≤ L ∧ N m 6 = nI x) (h8 : N m 8 = 0) (hz : zr_ N m) (hc : ∀ t, t < n → ∃ c, c ≤ 20 ∧ N (m + 4) t = nI c) (hZ : ∀ t, n ≤ t → t < 400 → N (m + 4) t = 0) : ix_ N m n T W P L := by
  obtain ⟨⟨a1, a2, a3, a4⟩, ⟨b1, b2, b3, b4⟩, c1, c2, c3, c4, c5, c6, c7⟩ := hG
  refine ⟨⟨?_, ?_, ?_, ?_⟩, ⟨?_, ?_, ?_, hZ⟩, ?_, ?_, ?_, h6, h8, hz, hc⟩
  · simp only [ivT, tv_, bl_, ra_T] at a1 ⊢
    rw [hr]; exact a1
  · simp only [ivL, ra_L] at a2 ⊢
    rw [hr]; exact a2
  · simp only [ivW, ra_T, ra_W] at a3 ⊢
    rw [hr]; exact a3
  · simp only [ivH, ra_T] at a4 ⊢
    rw [hr]; exact a4
  · simp only [ivC, ra_L] at b1 ⊢
    rw [hr]
    simp only [st_row hr]
    exact b1
  · simp only [ivS, ra_T] at b2 ⊢
    rw [hr]; exact b2
  · simp only [ivR] at b3 ⊢
    rw [st_row hr]; exact b3
  · rw [hr]; exact c1
  · rw [hr]; exact c2
  · simp only [ra_L] at c3 ⊢
    rw [hr]; exact c3
/-! rows alone -/
theorem log_row (e : J (m + 1) = I (m + 1)) {x1 x3 x4 : Int32} {t : Nat} : sp_log J m x1 t x3 x4 (m + 1) = sp_log I m x1 t x3 x4 (m + 1) := funext (fun j => by rw [sp_log_r, sp_log_r, e])
theorem ua_row {a : Nat} (h : a ≠ m + 1) {j : Nat} {x : Int32} : i2_u J a j x (m + 1) = J (m + 1) := funext (fun k => i2_ua (fun z => h z.symm))
theorem bl_r {x : Int32} : sp_bl J m t x (m + 1) = i2_u J (m + 1) (200 + 14 * t + 13) x (m + 1) := by
  unfold sp_bl
  split
  · unfold ra_blame
    split
    · rfl
    · rw [ua_row (by omega), ua_row (by omega)]
  · rfl
theorem bl_row (e : J (m + 1) = I (m + 1)) {x : Int32} : sp_bl J m t x (m + 1) = sp_bl I m t x (m + 1) := by rw [bl_r, bl_r, u_row e]
theorem ga_row (e : J (m + 1) = I (m + 1)) {x : Int32} : sp_ga J m t x (m + 1) = sp_ga I m t x (m + 1) := by
  unfold sp_ga
  refine log_row ?_
  rw [ua_row (a := m) (by omega), ua_row (a := m) (by omega), e]
  exact u_row (u_row (u_row e))
theorem as1_row (e : J (m + 1) = I (m + 1)) {x : Int32} : sp_as1 J m t x (m + 1) = sp_as1 I m t x (m + 1) := ga_row (bl_row e)
theorem asd_row {x : Int32} : ∀ {ts : List Nat} {J I : fI}, J (m + 1) = I (m + 1) → sp_asd J m ts x (m + 1) = sp_asd I m ts x (m + 1)
  | [], _, _, e => e
  | t :: ts, J, I, e => by
    show sp_asd (sp_as1 J m t x) m ts x (m + 1) = sp_asd (sp_as1 I m t x) m ts x (m + 1)
    exact asd_row (as1_row e)
theorem p_row (e : J (m + 1) = I (m + 1)) {lv : List Nat} : sp_p J m lv = sp_p I m lv := by
  unfold sp_p ra_T
  rw [e]
theorem dr_row : ∀ (k : Nat) {J I : fI} {lv : List Nat} {c : Int32}, J (m + 1) = I (m + 1) → (sp_dr k J m n lv c).1 (m + 1) = (sp_dr k I m n lv c).1 (m + 1) ∧ (sp_dr k J m n lv c).2 = (sp_dr k I m n lv c).2
  | 0, _, _, _, _, e => ⟨e, rfl⟩
  | k + 1, J, I, lv, c, e => by
    unfold sp_dr
    rw [p_row e]
    have ih := dr_row k (J := sp_asd J m ((List.range n).filter (sp_p I m lv)) c) (I := sp_asd I m ((List.range n).filter (sp_p I m lv)) c) (lv := (List.range n).filter (sp_p I m lv)) (c := 100) (asd_row e)
    exact ⟨ih.1, by rw [ih.2]⟩
theorem clk_row (e : J (m + 1) = I (m + 1)) : ∀ (k : Nat), ra_cls J m n k (m + 1) = ra_cls I m n k (m + 1)
  | 0 => e
  | k + 1 => by
    have ih := clk_row e k
    show (if ra_L J m k 3 = 1 ∧ cn_ (ra_st J m (nI k)) n = 0 then i2_u (ra_cls J m n k) (m + 1) (10 + 10 * k + 3) 2 else ra_cls J m n k : fI) (m + 1) = (if ra_L I m k 3 = 1 ∧ cn_ (ra_st I m (nI k)) n = 0 then i2_u (ra_cls I m n k) (m + 1) (10 + 10 * k + 3) 2 else ra_cls I m n k : fI) (m + 1)
    rw [st_row e, show ra_L J m k 3 = ra_L I m k 3 by unfold ra_L; rw [e]]
    split
    · exact u_row ih
    · exact ih
theorem lw_row (e : J (m + 1) = I (m + 1)) {w : Nat} : sp_lw J m t w (m + 1) = sp_lw I m t w (m + 1) := u_row (u_row (u_row (u_row e)))
theorem f8_row (e : J (m + 1) = I (m + 1)) {w : Nat} {c : Int32} : sp_f8 J m t w c (m + 1) = sp_f8 I m t w c (m + 1) := by
  unfold sp_f8
  refine bl_row (log_row (lw_row ?_))
  rw [ua_row (a := m) (by omega), ua_row (a := m) (by omega), e]
  exact u_row (u_row e)
theorem fail_row (e : J (m + 1) = I (m + 1)) {w k : Nat} {c : Int32} : (sp_fail J m n t w k c).2 (m + 1) = (sp_fail I m n t w k c).2 (m + 1) := by
  unfold sp_fail
  rw [e]
  have e8 : sp_f8 J m t w c (m + 1) = sp_f8 I m t w c (m + 1) := f8_row e
  split
  · show sp_f5 _ m n t k c (m + 1) = sp_f5 _ m n t k c (m + 1)
    unfold sp_f5 sp_drags
    have e9 : ∀ K : fI, (if K m 8 = 0 then i2_u K (m + 3) k (K (m + 3) k + 1) else K : fI) (m + 1) = K (m + 1) := fun K => by
      split
      · exact ua_row (by omega)
      · rfl
    exact clk_row (dr_row 401 (ga_row (by rw [e9, e9]; exact e8))).1 5
  · show sp_f2 _ m t (m + 1) = sp_f2 _ m t (m + 1)
    unfold sp_f2
    rw [e8]
    exact u_row (u_row e8)
theorem fl_row (e : J (m + 1) = I (m + 1)) {c : Int32} : sp_fl J m n t c (m + 1) = sp_fl I m n t c (m + 1) := by
  unfold sp_fl
  rw [show ra_T J m t 9 = ra_T I m t 9 by unfold ra_T; rw [e], show ra_T J m t 3 = ra_T I m t 3 by unfold ra_T; rw [e]]
  exact fail_row e
/-! on paper the rest stays -/
def py_ (m : Nat) (J N : fI) : Prop := (∀ a j, a ≠ m + 1 → (a ≠ m ∨ (j ≠ 9 ∧ j ≠ 10 ∧ j ≠ 11)) → N a j = J a j)
theorem py_rf : py_ m J J := fun _ _ _ _ => rfl
theorem py_tr (h : py_ m I J) (h' : py_ m J N) : py_ m I N := fun a j q1 q2 => (h' a j q1 q2).trans (h a j q1 q2)
theorem py_8 (h : py_ m J N) (h8 : J m 8 = 1) : N m 8 = 1 := (h m 8 (by omega) (by omega)).trans h8
theorem py_u {j : Nat} {x : Int32} : py_ m J (i2_u J (m + 1) j x) := fun a k q _ => i2_ua q
theorem py_m {j : Nat} {x : Int32} (hj : j = 9 ∨ j = 10 ∨ j = 11) : py_ m J (i2_u J m j x) := fun a k q1 q2 => by rw [i2_at, if_neg (by omega)]
theorem log_p (h8 : J m 8 = 1) {x1 x3 x4 : Int32} : sp_log J m x1 t x3 x4 = J := by
  unfold sp_log
  rw [if_neg (by rw [h8]; decide)]
theorem bl_p (h8 : J m 8 = 1) {x : Int32} : sp_bl J m t x = i2_u J (m + 1) (200 + 14 * t + 13) x := by
  unfold sp_bl
  rw [if_neg (by rw [h8]; decide)]
theorem ga_p (h8 : J m 8 = 1) {x : Int32} : sp_ga J m t x = i2_u (i2_u (i2_u (i2_u J (m + 1) (200 + 14 * t + 6) 5) (m + 1) (5800 + (J (m + 1) 3).toNatClampNeg) (nI t)) (m + 1) 3 (nI ((J (m + 1) 3).toNatClampNeg + 1))) m 10 (J m 10 + 1) := by
  unfold sp_ga
  exact log_p (by rw [i2_uj (by decide), i2_ua (by omega), i2_ua (by omega), i2_ua (by omega)]; exact h8)
theorem py_ga (h8 : J m 8 = 1) {x : Int32} : py_ m J (sp_ga J m t x) := by
  rw [ga_p h8]
  exact py_tr (py_tr (py_tr py_u py_u) py_u) (py_m (by omega))
theorem py_as1 (h8 : J m 8 = 1) {x : Int32} : py_ m J (sp_as1 J m t x) := by
  unfold sp_as1
  have h1 : py_ m J (sp_bl J m t x) := by rw [bl_p h8]; exact py_u
  exact py_tr h1 (py_ga (py_8 h1 h8))
theorem py_asd {x : Int32} : ∀ {ts : List Nat} {J : fI}, J m 8 = 1 → py_ m J (sp_asd J m ts x)
  | [], _, _ => py_rf
  | t :: ts, J, h8 => py_tr (py_as1 h8) (py_asd (ts := ts) (J := sp_as1 J m t x) (py_8 (py_as1 h8) h8))
theorem py_dr : ∀ (k : Nat) {J : fI} {lv : List Nat} {c : Int32}, J m 8 = 1 → py_ m J (sp_dr k J m n lv c).1
  | 0, _, _, _, _ => py_rf
  | k + 1, J, lv, c, h8 => by
    unfold sp_dr
    have h1 : py_ m J (sp_asd J m ((List.range n).filter (sp_p J m lv)) c) := py_asd h8
    exact py_tr h1 (py_dr k (py_8 h1 h8))
theorem py_cls : py_ m J (ra_cls J m n 5) := fun a j q _ => cl_o (Or.inl q)
theorem py_lw {w : Nat} : py_ m J (sp_lw J m t w) := fun a j q _ => sp_lw_o (Or.inl q)
theorem py_f8 (h8 : J m 8 = 1) {w : Nat} {c : Int32} : py_ m J (sp_f8 J m t w c) := by
  unfold sp_f8
  have h1 : py_ m J (sp_lw (i2_u (i2_u (i2_u J (m + 1) (200 + 14 * t + 7) (J (m + 1) (200 + 14 * t + 7) + 1)) (m + 1) (60 + 4 * w + 3) (J (m + 1) (60 + 4 * w + 3) + 1)) m 9 (J m 9 + 1)) m t w) := py_tr (py_tr (py_tr py_u py_u) (py_m (by omega))) py_lw
  rw [log_p (py_8 h1 h8), bl_p (py_8 h1 h8)]
  exact py_tr h1 py_u
theorem py_fail (h8 : J m 8 = 1) {w k : Nat} {c : Int32} : py_ m J (sp_fail J m n t w k c).2 := by
  unfold sp_fail
  have h1 : py_ m J (sp_f8 J m t w c) := py_f8 h8
  have g8 := py_8 h1 h8
  split
  · show py_ m J (sp_f5 (sp_f8 J m t w c) m n t k c)
    unfold sp_f5 sp_drags
    rw [if_neg (by rw [g8]; decide)]
    have h2 : py_ m (sp_f8 J m t w c) (sp_ga (sp_f8 J m t w c) m t c) := py_ga g8
    exact py_tr h1 (py_tr h2 (py_tr (py_dr 401 (py_8 h2 g8)) py_cls))
  · show py_ m J (sp_f2 (sp_f8 J m t w c) m t)
    exact py_tr h1 (py_tr py_u py_u)
theorem py_fl (h8 : J m 8 = 1) {c : Int32} : py_ m J (sp_fl J m n t c) := py_fail h8
/-- the invariant on paper -/
def ip_ (J : fI) (m n T W P L : Nat) : Prop := J m 8 = 1 ∧ ix_ (off_ J m) m n T W P L
theorem ip_mk (h : ip_ J m n T W P L) (hp : py_ m J N) (hG : ix_ G m n T W P L') (hr : N (m + 1) = G (m + 1)) : ip_ N m n T W P L := by
  obtain ⟨h8, hx⟩ := h
  have o : ∀ a j, a ≠ m + 1 → a ≠ m → off_ N m a j = off_ J m a j := fun a j q1 q2 => by
    unfold off_
    rw [i2_ua q2, i2_ua q2]
    exact hp a j q1 (Or.inl q2)
  refine ⟨py_8 hp h8, ix_mix hG (off_r.trans hr) ?_ i2_us (fun j => ?_) (fun t ht => ?_) (fun t q1 q2 => ?_)⟩
  · obtain ⟨x, x1, x2⟩ := hx.2.2.2.2.2.1
    refine ⟨x, x1, ?_⟩
    rw [← x2]
    unfold off_
    rw [i2_uj (by decide), i2_uj (by decide)]
    exact hp m 6 (by omega) (by omega)
  · have := ix_z hx j
    rw [o _ _ (by omega) (by omega), o _ _ (by omega) (by omega)]
    exact this
  · rw [o _ _ (by omega) (by omega)]
    exact hx.2.2.2.2.2.2.2.2 t ht
  · rw [o _ _ (by omega) (by omega)]
    exact hx.2.1.2.2.2 t q1 q2
theorem ip_fl (h : ip_ J m n T W P L) (hT : T < 1000000) (hL : L < 1999990000) (ht : t < n) (h6 : ra_T J m t 6 = 3) {c : Int32} : ip_ (sp_fl J m n t c) m n T W P L := by
  have h6' : ra_T (off_ J m) m t 6 = 3 := by
    unfold ra_T
    rw [off_r]
    exact h6
  exact ip_mk h (py_fl h.1) (ix_fl h.2 hT hL ht h6') (fl_row off_r.symm)
end Lap
