/-! a tick: what the reference does, and that it keeps the invariant -/
section Tick
variable {B : mm_T} {I J : Nat → Nat → Int32} {m n T W P L : Nat}
def sp_fl (I : Nat → Nat → Int32) (m n t : Nat) (c : Int32) : Nat → Nat → Int32 := (sp_fail I m n t (ra_T I m t 9).toNatClampNeg (ra_T I m t 3).toNatClampNeg c).2
def en_ (I : Nat → Nat → Int32) (m t : Nat) : Bool := decide (ra_T I m t 6 = 3 ∧ ¬ I (m + 1) 0 < ra_T I m t 11)
def sp_fls (I : Nat → Nat → Int32) (m n : Nat) (ts : List Nat) : Nat → Nat → Int32 := ts.foldl (fun J t => sp_fl J m n t 0) I
/-- who is out has a worker and a key -/
theorem ix_out (h : ix_ I m n T W P L) {t : Nat} (ht : t < n) (h6 : ra_T I m t 6 = 3) : ∃ w k, w < 6 ∧ ra_T I m t 9 = nI w ∧ k < 10000 ∧ ra_T I m t 3 = nI k ∧ (ra_T I m t 9).toNatClampNeg = w ∧ (ra_T I m t 3).toNatClampNeg = k ∧ ra_W I m w 0 = nI t ∧ ra_T I m t 11 ≠ -1 := by
  obtain ⟨k, hk, e3⟩ := (h.1.1.2.2 t ht).2.2.1
  rcases h.1.2.2.1.1 t ht with ⟨-, w, k', e, a2, a3, a4, a5, a6, a7, a8⟩ | ⟨z, -⟩
  · exact ⟨w, k, a2, a3, hk, e3, by rw [a3]; exact nI_clamp (by omega), by rw [e3]; exact nI_clamp (by omega), a4, by rw [a8]; exact nI_nm (by omega)⟩
  · exact absurd h6 z
theorem ix_fl (h : ix_ I m n T W P L) (hT : T < 1000000) (hL : L < 1999990000) {t : Nat} (ht : t < n) (h6 : ra_T I m t 6 = 3) {c : Int32} : ix_ (sp_fl I m n t c) m n T W P (L + 410) := by
  obtain ⟨w, k, hw, h9, hk, h3, e9, e3, -⟩ := ix_out h ht h6
  unfold sp_fl
  rw [e9, e3]
  exact ix_fail h hT hL ht hw h6 h9
/-- what a failing leaves of the others -/
theorem fl_o (h : ix_ I m n T W P L) {t : Nat} (ht : t < n) (h6 : ra_T I m t 6 = 3) {c : Int32} : (∀ x, x < n → x ≠ t → (ra_T (sp_fl I m n t c) m x 6 = ra_T I m x 6 ∨ (ra_T I m x 6 = 1 ∧ ra_T (sp_fl I m n t c) m x 6 = 5)) ∧ ∀ f, f < 13 → f ≠ 6 → ra_T (sp_fl I m n t c) m x f = ra_T I m x f) ∧ (∀ j, j < 200 → j ≠ 3 → (j < 10 ∨ 84 ≤ j) → sp_fl I m n t c (m + 1) j = I (m + 1) j) ∧ (ra_T (sp_fl I m n t c) m t 6 = 2 ∨ ra_T (sp_fl I m n t c) m t 6 = 5) := by
  have hn := ix_4 h
  obtain ⟨w, k, hw, h9, hk, h3, e9, e3, -⟩ := ix_out h ht h6
  unfold sp_fl
  rw [e9, e3]
  obtain ⟨F, hF⟩ : ∃ F, F = sp_f8 I m t w c := ⟨_, rfl⟩
  have fo : ∀ a j, (a ≠ m + 1 ∨ (j ≠ 200 + 14 * t + 7 ∧ j ≠ 60 + 4 * w + 3 ∧ j ≠ 60 + 4 * w ∧ j ≠ 200 + 14 * t + 9 ∧ j ≠ 200 + 14 * t + 10 ∧ j ≠ 200 + 14 * t + 11 ∧ j ≠ 200 + 14 * t + 13)) → (a ≠ m ∨ (j ≠ 9 ∧ j ≠ 6)) → a ≠ m + 6 → a ≠ m + 4 → a ≠ m + 5 → F a j = I a j := fun a j q1 q2 q3 q4 q5 => by rw [hF]; exact f8_o q1 q2 q3 q4 q5
  have F8 : F m 8 = 0 := (fo _ _ (by omega) (by omega) (by omega) (by omega) (by omega)).trans (ix_8 h)
  unfold sp_fail
  rw [← hF]
  by_cases hc : I (m + 1) 7 ≤ I (m + 1) (200 + 14 * t + 7) + 1
  · rw [if_pos hc]
    show (∀ x, x < n → x ≠ t → (ra_T (sp_f5 F m n t k c) m x 6 = _ ∨ (_ ∧ ra_T (sp_f5 F m n t k c) m x 6 = 5)) ∧ ∀ f, f < 13 → f ≠ 6 → ra_T (sp_f5 F m n t k c) m x f = _) ∧ (∀ j, j < 200 → j ≠ 3 → (j < 10 ∨ 84 ≤ j) → sp_f5 F m n t k c (m + 1) j = _) ∧ (ra_T (sp_f5 F m n t k c) m t 6 = 2 ∨ ra_T (sp_f5 F m n t k c) m t 6 = 5)
    unfold sp_f5 sp_drags
    rw [if_pos F8]
    obtain ⟨A, hA⟩ : ∃ A, A = sp_ga (i2_u F (m + 3) k (F (m + 3) k + 1)) m t c := ⟨_, rfl⟩
    rw [← hA]
    have ao : ∀ a j, (a ≠ m + 1 ∨ (j ≠ 200 + 14 * t + 6 ∧ j ≠ 3 ∧ j < 5800)) → (a ≠ m ∨ (j ≠ 10 ∧ j ≠ 6)) → a ≠ m + 6 → a ≠ m + 3 → A a j = F a j := fun a j q1 q2 q3 q4 => by rw [hA, sp_ga_o q1 q2 q3, i2_ua q4]
    have cT : ∀ x f, ra_T (ra_cls (sp_dr 401 A m n [t] 100).1 m n 5) m x f = ra_T (sp_dr 401 A m n [t] 100).1 m x f := fun x f => ra_cls_T (by omega)
    have A6 : ra_T A m t 6 = 5 := by rw [hA, ga_s (by omega) (by omega), if_pos rfl]
    refine ⟨fun x q e => ⟨?_, fun f q1 q2 => ?_⟩, fun j q1 q2 q3 => ?_, Or.inr ?_⟩
    · rw [cT]
      have eA : ra_T A m x 6 = ra_T I m x 6 := (ao _ _ (by omega) (by omega) (by omega) (by omega)).trans (fo _ _ (by omega) (by omega) (by omega) (by omega) (by omega))
      rcases dr_s hn 401 (I := A) (lv := [t]) (c := 100) q with z | z
      · rw [z, eA]; exact Or.inl rfl
      · rw [eA] at z; exact Or.inr z
    · rw [cT, dr_T hn (by omega) q2 (by omega) 401 q]
      exact (ao _ _ (by omega) (by omega) (by omega) (by omega)).trans (fo _ _ (by omega) (by omega) (by omega) (by omega) (by omega))
    · rw [cl_o (by omega), dr_o 401 (Or.inr ⟨fun t' _ _ => by omega, by omega, by omega⟩) hn (by omega) (by omega) (by omega) (by omega)]
      exact (ao _ _ (by omega) (by omega) (by omega) (by omega)).trans (fo _ _ (by omega) (by omega) (by omega) (by omega) (by omega))
    · rw [cT]
      rcases dr_s hn 401 (I := A) (lv := [t]) (c := 100) ht with z | z
      · rw [z, A6]
      · exact z.2
  · rw [if_neg hc]
    show (∀ x, x < n → x ≠ t → (ra_T (sp_f2 F m t) m x 6 = _ ∨ (_ ∧ ra_T (sp_f2 F m t) m x 6 = 5)) ∧ ∀ f, f < 13 → f ≠ 6 → ra_T (sp_f2 F m t) m x f = _) ∧ (∀ j, j < 200 → j ≠ 3 → (j < 10 ∨ 84 ≤ j) → sp_f2 F m t (m + 1) j = _) ∧ (ra_T (sp_f2 F m t) m t 6 = 2 ∨ ra_T (sp_f2 F m t) m t 6 = 5)
    have po : ∀ a j, (a ≠ m + 1 ∨ (j ≠ 200 + 14 * t + 6 ∧ j ≠ 200 + 14 * t + 8)) → sp_f2 F m t a j = F a j := fun a j q => by
      unfold sp_f2
      rw [i2_at, if_neg (by omega), i2_at, if_neg (by omega)]
    refine ⟨fun x q e => ⟨Or.inl ?_, fun f q1 q2 => ?_⟩, fun j q1 q2 q3 => ?_, Or.inl ?_⟩
    · exact (po _ _ (by omega)).trans (fo _ _ (by omega) (by omega) (by omega) (by omega) (by omega))
    · exact (po _ _ (by omega)).trans (fo _ _ (by omega) (by omega) (by omega) (by omega) (by omega))
    · exact (po _ _ (by omega)).trans (fo _ _ (by omega) (by omega) (by omega) (by omega) (by omega))
    · unfold sp_f2 ra_T
      rw [i2_uj (by omega), i2_us]
theorem fl_en (h : ix_ I m n T W P L) {t : Nat} (ht : t < n) (h6 : ra_T I m t 6 = 3) {c : Int32} {x : Nat} (hx : x < n) : en_ (sp_fl I m n t c) m x = (en_ I m x && decide (x ≠ t)) := by
  obtain ⟨o1, o2, o3⟩ := fl_o (c := c) h ht h6
  unfold en_
  rw [o2 0 (by decide) (by decide) (by decide)]
  by_cases e : x = t
  · rw [e]
    rw [decide_eq_false (p := ra_T (sp_fl I m n t c) m t 6 = 3 ∧ _) (fun q => by
      rcases o3 with z | z
      · rw [z] at q; exact absurd q.1 (by decide)
      · rw [z] at q; exact absurd q.1 (by decide))]
    simp
  · obtain ⟨p1, p2⟩ := o1 x hx e
    rw [p2 11 (by decide) (by decide)]
    rcases p1 with z | ⟨z1, z2⟩
    · rw [z]; simp [e]
    · rw [z1, z2]
      have a1 : ¬ ((5 : Int32) = 3) := by decide
      have a2 : ¬ ((1 : Int32) = 3) := by decide
      simp [a1, a2]
theorem ts_len (h : ix_ I m n T W P L) {p : Nat → Bool} (hp : ∀ t, t < n → p t = true → ra_T I m t 6 ≤ 3) : ((List.range n).filter p).length ≤ 48 := by
  have h1 := h.2.1.2.2.1
  unfold ivR at h1
  have : ((List.range n).filter p).length = cn_ p n := (cn_len p n).symm
  rw [this]
  refine Nat.le_trans (cn_sub (fun t ht q => ?_)) h1
  exact decide_eq_true ⟨Or.inl rfl, hp t ht q⟩
theorem en_3 {t : Nat} (h : en_ I m t = true) : ra_T I m t 6 = 3 := (of_decide_eq_true h).1
theorem ix_fls (hT : T < 1000000) : ∀ (ts : List Nat) {I : Nat → Nat → Int32} {L : Nat}, ix_ I m n T W P L → L + 410 * ts.length < 1999990000 → (List.range n).filter (en_ I m) = ts → ix_ (sp_fls I m n ts) m n T W P (L + 410 * ts.length)
  | [], I, L, h, _, _ => h
  | t :: ts, I, L, h, hL, hts => by
    rw [List.length_cons] at hL
    have hm : t < n ∧ en_ I m t = true := by
      have : t ∈ (List.range n).filter (en_ I m) := by rw [hts]; exact List.mem_cons_self
      rw [List.mem_filter, List.mem_range] at this
      exact this
    have h1 := ix_fl (c := 0) h hT (by omega) hm.1 (en_3 hm.2)
    have := ix_fls hT ts h1 (by omega) (hs_tl hts (fun x q => fl_en h hm.1 (en_3 hm.2) q))
    rw [show L + 410 + 410 * ts.length = L + 410 * (t :: ts).length by rw [List.length_cons]; omega] at this
    exact this
theorem rc_fls (RK : rf_ok B m) (hT : T < 1000000) {Q : (Nat → Nat → Int32) → Prop} : ∀ (k t : Nat) {I : Nat → Nat → Int32} {L : Nat}, t + k = n → ix_ I m n T W P L → L + 410 * ((List.range n).filter (en_ I m)).length < 1998900000 → (∀ x, x < t → en_ I m x = false) → (rs_v mt_X11_wakes [pv_r m] B (sp_fls I m n ((List.range n).filter (en_ I m))) (fun I1 => rw_v mt_X11_ticks 68 [some (pv_r m), some (pv_i 0), none, none] [] B I1 Q)) → rw_v mt_X11_ticks 12 [some (pv_r m), some (pv_i (nI t)), none, none] [] B I Q
  | 0, t, I, L, ht, h, _, hf, K => by
    have ht : t = n := by omega
    have e : (List.range n).filter (en_ I m) = [] := by
      rw [List.filter_eq_nil_iff]
      intro x q
      rw [hf x (by have := List.mem_range.mp q; omega)]
      decide
    rw [e] at K
    rw [ht]
    exact wq_X11_ticks_12 RK ⟨fun _ => K, fun c => absurd (nI_end (ix_1 h)) c⟩
  | k + 1, t, I, L, ht, h, hL, hf, K => by
    have hn := ix_4 h
    have htn : t < n := by omega
    have nx : en_ I m t = false → rw_v mt_X11_ticks 12 [some (pv_r m), some (pv_i (nI (t + 1))), none, none] [] B I Q := fun hh => rc_fls RK hT k (t + 1) (by omega) h hL (fun x q => by
      rcases Nat.lt_or_ge x t with z | z
      · exact hf x z
      · rw [show x = t by omega]; exact hh) K
    refine wq_X11_ticks_12 RK ⟨fun c => absurd c (nI_done (ix_1 h) hn htn), fun _ => ⟨t, ⟨rfl, by omega⟩, fun c => nx (decide_eq_false (fun q => c q.1)), fun c => ⟨fun c2 => nx (decide_eq_false (fun q => q.2 c2)), fun c2 => ?_⟩⟩⟩
    have c : ra_T I m t 6 = 3 := c
    have ht1 : en_ I m t = true := decide_eq_true ⟨c, c2⟩
    obtain ⟨w, k', hw, h9, hk, h3, e9, e3, -⟩ := ix_out h htn c
    have hcn : hc_ I m n ≤ n := cn_le _ _
    have hsplit : (List.range n).filter (en_ I m) = t :: (List.range' (t + 1) k).filter (en_ I m) := by
      rw [rg_mid htn, List.filter_append, List.filter_cons, if_pos ht1]
      have e0 : (List.range' 0 t).filter (en_ I m) = [] := by
        rw [List.filter_eq_nil_iff]
        intro x q
        rw [hf x (by have := List.mem_range'_1.mp q; omega)]
        decide
      rw [e0, show n - t - 1 = k by omega]
      rfl
    have htl := hs_tl (p' := en_ (sp_fl I m n t 0) m) hsplit (fun x q => fl_en h htn c q)
    rw [hsplit] at K hL
    rw [List.length_cons] at hL
    refine rc_fail RK (ix_dv h) (ix_z h) (by omega) h9 hw h3 hk c rfl htn ?_
    have e : (sp_fail I m n t w k' 0).2 = sp_fl I m n t 0 := by unfold sp_fl; rw [e9, e3]
    rw [e]
    refine rc_fls RK hT k (t + 1) (by omega) (ix_fl h hT (by omega) htn c) (by rw [htl]; omega) (fun x q => ?_) (by rw [htl]; exact K)
    rw [fl_en h htn c (by omega)]
    rcases Nat.lt_or_ge x t with z | z
    · rw [hf x z]; rfl
    · rw [show x = t by omega]; simp
/-! waking -/
theorem ix_wk (hP : P < 2147483648) : ∀ (k : Nat) {I : Nat → Nat → Int32} {L : Nat}, ix_ I m n T W P L → L + rc2_ I m n < 1999999000 → ix_ (sp_wk k I m n) m n T W P (L + rc2_ I m n)
  | 0, I, L, h, _ => ix_up h (Nat.le_refl _) (Nat.le_refl _) (Nat.le_refl _) (Nat.le_add_right _ _)
  | k + 1, I, L, h, hL => by
    unfold sp_wk
    cases hq : sp_nr I m n with
    | none => exact ix_up h (Nat.le_refl _) (Nat.le_refl _) (Nat.le_refl _) (Nat.le_add_right _ _)
    | some t =>
      obtain ⟨ht, h2⟩ := nr_of hq
      simp only
      split
      · exact ix_up h (Nat.le_refl _) (Nat.le_refl _) (Nat.le_refl _) (Nat.le_add_right _ _)
      · have hc := rc2_wk1 (ix_rb h hP) ht h2
        have h1 := ix_wk1 h hP (by omega) ht h2
        have := ix_wk hP k h1 (by omega)
        rw [show L + 1 + rc2_ (sp_wk1 I m n t) m n = L + rc2_ I m n by omega] at this
        exact this
theorem rc2_le (h : ix_ I m n T W P L) : rc2_ I m n ≤ 48 := by
  have := ts_len h (p := fun t => decide (ra_T I m t 6 = 2)) (fun t _ q => by rw [of_decide_eq_true q]; decide)
  rw [← cn_len] at this
  exact this
theorem wk_o {pb : Int32} : ∀ (k : Nat) {I : Nat → Nat → Int32} {j : Nat}, rb_ I m n pb → (j < 10 ∨ (60 ≤ j ∧ j < 200) ∨ 5800 ≤ j) → n ≤ 400 → sp_wk k I m n (m + 1) j = I (m + 1) j
  | 0, _, _, _, _, _ => rfl
  | k + 1, I, j, hb, hj, hn => by
    unfold sp_wk
    cases hq : sp_nr I m n with
    | none => rfl
    | some t =>
      have ht := (nr_of hq).1
      simp only
      split
      · rfl
      · rw [wk_o k (rb_wk1 hb ht) hj hn]
        exact wk1_o hb ht (by omega) (by omega) (by omega)
/-! timers -/
def nn_ (I : Nat → Nat → Int32) (m : Nat) : Nat := (I (m + 1) 1).toNatClampNeg
def sp_tm1 (I : Nat → Nat → Int32) (m c : Nat) : Nat → Nat → Int32 :=
  if I (m + 1) (85 + 8 * c + 7) = I (m + 1) 0 then
    i2_u (i2_u (sp_comes I m (nn_ I m) (I (m + 1) (85 + 8 * c + 0)) (I (m + 1) (85 + 8 * c + 1)) (I (m + 1) (85 + 8 * c + 2)) (I (m + 1) (85 + 8 * c + 3)) (-1)).2 (m + 1) (85 + 8 * c + 7) (I (m + 1) (85 + 8 * c + 7) + I (m + 1) (85 + 8 * c + 4))) (m + 1)
      (if (sp_comes I m (nn_ I m) (I (m + 1) (85 + 8 * c + 0)) (I (m + 1) (85 + 8 * c + 1)) (I (m + 1) (85 + 8 * c + 2)) (I (m + 1) (85 + 8 * c + 3)) (-1)).1 < 0 then 85 + 8 * c + 6 else 85 + 8 * c + 5)
      (if (sp_comes I m (nn_ I m) (I (m + 1) (85 + 8 * c + 0)) (I (m + 1) (85 + 8 * c + 1)) (I (m + 1) (85 + 8 * c + 2)) (I (m + 1) (85 + 8 * c + 3)) (-1)).1 < 0 then I (m + 1) (85 + 8 * c + 6) + 1 else I (m + 1) (85 + 8 * c + 5) + 1)
  else I
def sp_tms (I : Nat → Nat → Int32) (m k : Nat) : Nat → Nat → Int32 := (List.range k).foldl (fun J c => sp_tm1 J m c) I
theorem nn_e (h : ix_ I m n T W P L) : nn_ I m = n := by
  have := ix_4 h
  unfold nn_
  rw [ix_1 h]
  exact nI_clamp (by omega)
/-- one comes (or not): the invariant, with as many tasks as there are then -/
theorem ix_comes (h : ix_ I m n T W P L) (hT : T < 1000000) (hP : P < 2147483648) (hL : L < 1999999999) {x1 x2 x3 x4 x5 : Int32} : ∃ n', n ≤ n' ∧ ix_ (sp_comes I m n x1 x2 x3 x4 x5).2 m n' T W P (L + 1) := by
  unfold sp_comes
  by_cases z : sp_why I m n x1 x2 x3 x4 x5 = 0
  · rw [if_pos z]
    exact ⟨n + 1, by omega, ix_com h hT hP hL z⟩
  · rw [if_neg z]
    exact ⟨n, Nat.le_refl _, ix_up h (Nat.le_refl _) (Nat.le_refl _) (Nat.le_refl _) (Nat.le_succ _)⟩
theorem comes_t {x1 x2 x3 x4 x5 : Int32} {j : Nat} (hn : n ≤ 400) (hj : j = 0 ∨ (84 ≤ j ∧ j < 200)) : (sp_comes I m n x1 x2 x3 x4 x5).2 (m + 1) j = I (m + 1) j := by
  unfold sp_comes
  by_cases z : sp_why I m n x1 x2 x3 x4 x5 = 0
  · rw [if_pos z]
    obtain ⟨l, p, s, k, hl, e1, -⟩ := why_0 hn z
    subst e1
    show sp_com I m n (nI l) x2 x3 x4 x5 (m + 1) j = _
    unfold sp_com
    rw [sp_log_r]
    split
    · exact sp_new_o (by omega)
    · have e : sp_wt (sp_new I m n (nI l) x2 x3 x4 x5) m (n + 1) n (m + 1) j = sp_new I m n (nI l) x2 x3 x4 x5 (m + 1) j := by
        unfold sp_wt
        rw [sp_new_n.1, nI_clamp (by omega)]
        unfold ra_wait
        rw [i2_uj (by omega)]
        split
        · rfl
        · rw [i2_uj (by omega)]
      rw [e]
      exact sp_new_o (by omega)
  · rw [if_neg z]
theorem ix_tmo (h : ix_ I m n T W P L) {j : Nat} {x : Int32} (hj : 84 < j ∧ j < 181) : ix_ (i2_u I (m + 1) j x) m n T W P L :=
  ix_o h (fun a j' q1 _ _ _ _ _ q => by rw [i2_at, if_neg (by omega)]) (by rw [i2_ua (by omega)]; exact ix_log h) (i2_ua (by omega))
theorem ix_tm1 (h : ix_ I m n T W P L) (hT : T < 1000000) (hP : P < 2147483648) (hL : L < 1999999999) {c : Nat} (hc : c < 12) : ∃ n', n ≤ n' ∧ ix_ (sp_tm1 I m c) m n' T W P (L + 1) := by
  unfold sp_tm1
  rw [nn_e h]
  split
  · obtain ⟨n', h1, h2⟩ := ix_comes h hT hP hL (x1 := I (m + 1) (85 + 8 * c + 0)) (x2 := I (m + 1) (85 + 8 * c + 1)) (x3 := I (m + 1) (85 + 8 * c + 2)) (x4 := I (m + 1) (85 + 8 * c + 3)) (x5 := -1)
    refine ⟨n', h1, ix_tmo (ix_tmo h2 (by omega)) ?_⟩
    split <;> omega
  · exact ⟨n, Nat.le_refl _, ix_up h (Nat.le_refl _) (Nat.le_refl _) (Nat.le_refl _) (Nat.le_succ _)⟩
theorem tm1_o (hn : nn_ I m ≤ 400) {c j : Nat} (hj : j = 0 ∨ j = 84) : sp_tm1 I m c (m + 1) j = I (m + 1) j := by
  unfold sp_tm1
  split
  · rw [i2_uj (by split <;> omega), i2_uj (by omega)]
    exact comes_t hn (by omega)
  · rfl
theorem tms_s {k : Nat} : sp_tms I m (k + 1) = sp_tm1 (sp_tms I m k) m k := by
  unfold sp_tms
  rw [List.range_succ, List.foldl_append]
  rfl
theorem ix_tms (h : ix_ I m n T W P L) (hT : T < 1000000) (hP : P < 2147483648) (hL : L < 1999999900) : ∀ k, k ≤ 12 → ∃ n', n ≤ n' ∧ ix_ (sp_tms I m k) m n' T W P (L + k) ∧ sp_tms I m k (m + 1) 0 = I (m + 1) 0 ∧ sp_tms I m k (m + 1) 84 = I (m + 1) 84
  | 0, _ => ⟨n, Nat.le_refl _, h, rfl, rfl⟩
  | k + 1, hk => by
    obtain ⟨n1, h1, h2, h3, h4⟩ := ix_tms h hT hP hL k (by omega)
    obtain ⟨n2, h5, h6⟩ := ix_tm1 h2 hT hP (by omega) (c := k) (by omega)
    have hn : nn_ (sp_tms I m k) m ≤ 400 := by rw [nn_e h2]; exact ix_4 h2
    rw [tms_s]
    exact ⟨n2, by omega, h6, (tm1_o hn (Or.inl rfl)).trans h3, (tm1_o hn (Or.inr rfl)).trans h4⟩
end Tick
