/-! what the reference's writers do, as functions of its ints: the log, a cause, going aside, leaving a worker, waiting, freeing -/
section Sp1
variable {B : mm_T} {I : Nat → Nat → Int32} {m n : Nat}
def sp_log (I : Nat → Nat → Int32) (m : Nat) (x1 : Int32) (t : Nat) (x3 x4 : Int32) : Nat → Nat → Int32 := if I m 8 = 0 then ra_wr I m (I m 6).toNatClampNeg x1 t x3 x4 else I
def lb_ (I : Nat → Nat → Int32) (m b : Nat) : Prop := I m 8 = 0 → ∃ L, L ≤ b ∧ I m 6 = nI L
theorem rc_log (RK : rf_ok B m) {b t : Nat} (hL : lb_ I m b) (hb : b < 2000000000) {x1 x2 x3 x4 : Int32} (h2 : x2 = nI t) (ht : t < 400) {P : (Nat → Nat → Int32) → Prop} (K : P (sp_log I m x1 t x3 x4)) : rs_v mt_X11_writes [pv_r m, pv_i x1, pv_i x2, pv_i x3, pv_i x4] B I P := by
  unfold sp_log at K
  by_cases h8 : I m 8 = 0
  · obtain ⟨L, h1, h3⟩ := hL h8
    rw [if_pos h8, h3, nI_clamp (by omega)] at K
    exact rc_writes RK h8 h3 (by omega) h2 ht K
  · rw [if_neg h8] at K
    exact rc_writesP RK h8 K
theorem sp_log_o {x1 x3 x4 : Int32} {t a j : Nat} (h : a ≠ m + 6) (h' : a ≠ m ∨ j ≠ 6) : sp_log I m x1 t x3 x4 a j = I a j := by
  have h'' : ¬ (a = m ∧ j = 6) := by omega
  unfold sp_log
  split
  · simp [ra_wr, i2_u, h, h'']
  · rfl
theorem sp_log_r {x1 x3 x4 : Int32} {t j : Nat} : sp_log I m x1 t x3 x4 (m + 1) j = I (m + 1) j := sp_log_o (by omega) (by omega)
theorem lb_log {x1 x3 x4 : Int32} {t b : Nat} (h : lb_ I m b) (hb : b < 2000000000) : lb_ (sp_log I m x1 t x3 x4) m (b + 1) := by
  intro h8
  rw [sp_log_o (by omega) (by omega)] at h8
  obtain ⟨L, h1, h3⟩ := h h8
  refine ⟨L + 1, by omega, ?_⟩
  unfold sp_log
  rw [if_pos h8, h3, nI_clamp (by omega)]
  unfold ra_wr
  exact i2_us
theorem lb_o {J : Nat → Nat → Int32} {b b' : Nat} (h : lb_ I m b) (h8 : J m 8 = I m 8) (h6 : J m 6 = I m 6) (hb : b ≤ b') : lb_ J m b' := by
  intro q
  rw [h8] at q
  obtain ⟨L, h1, h3⟩ := h q
  exact ⟨L, by omega, h6.trans h3⟩
/-! a cause -/
def sp_bl (I : Nat → Nat → Int32) (m t : Nat) (x : Int32) : Nat → Nat → Int32 := if I m 8 = 0 then ra_blame I m t (I (m + 4) t).toNatClampNeg x else i2_u I (m + 1) (200 + 14 * t + 13) x
def cb_ (I : Nat → Nat → Int32) (m t : Nat) : Prop := I m 8 = 0 → ∃ c, c ≤ 20 ∧ I (m + 4) t = nI c
theorem rc_bl (RK : rf_ok B m) {t : Nat} (hC : cb_ I m t) {x1 x2 : Int32} (h1 : x1 = nI t) (ht : t < 400) {P : (Nat → Nat → Int32) → Prop} (K : P (sp_bl I m t x2)) : rs_v mt_X11_blames [pv_r m, pv_i x1, pv_i x2] B I P := by
  unfold sp_bl at K
  by_cases h8 : I m 8 = 0
  · obtain ⟨c, hc, h3⟩ := hC h8
    rw [if_pos h8, h3, nI_clamp (by omega)] at K
    exact rc_blames RK h8 h3 hc h1 ht K
  · rw [if_neg h8] at K
    exact rc_blamesP RK h8 h1 ht K
theorem sp_bl_o {x : Int32} {t a j : Nat} (h : a ≠ m + 1 ∨ j ≠ 200 + 14 * t + 13) (h4 : a ≠ m + 4) (h5 : a ≠ m + 5) : sp_bl I m t x a j = I a j := by
  have h' : ¬ (a = m + 1 ∧ j = 200 + 14 * t + 13) := by omega
  unfold sp_bl
  split
  · unfold ra_blame
    split
    · exact if_neg h'
    · simp [i2_u, h4, h5, h']
  · exact if_neg h'
theorem cb_bl {x : Int32} {t t' : Nat} (h : cb_ I m t') : cb_ (sp_bl I m t x) m t' := by
  intro h8
  rw [sp_bl_o (by omega) (by omega) (by omega)] at h8
  obtain ⟨c, hc, h3⟩ := h h8
  by_cases e : t' = t
  · subst e
    unfold sp_bl
    rw [if_pos h8, h3, nI_clamp (by omega)]
    unfold ra_blame
    split
    · exact ⟨c, hc, by rw [i2_ua (by omega)]; exact h3⟩
    · exact ⟨c + 1, by omega, i2_us⟩
  · refine ⟨c, hc, ?_⟩
    rw [← h3]
    unfold sp_bl
    rw [if_pos h8]
    unfold ra_blame
    split
    · rw [i2_ua (by omega)]
    · rw [i2_uj e, i2_ua (by omega), i2_ua (by omega)]
theorem cb_o {J : Nat → Nat → Int32} {t : Nat} (h : cb_ I m t) (h8 : J m 8 = I m 8) (h4 : J (m + 4) t = I (m + 4) t) : cb_ J m t := by
  intro q
  rw [h8] at q
  obtain ⟨c, hc, h3⟩ := h q
  exact ⟨c, hc, h4.trans h3⟩
/-! going aside -/
def sp_ga (I : Nat → Nat → Int32) (m t : Nat) (x : Int32) : Nat → Nat → Int32 :=
  sp_log (i2_u (i2_u (i2_u (i2_u I (m + 1) (200 + 14 * t + 6) 5) (m + 1) (5800 + (I (m + 1) 3).toNatClampNeg) (nI t)) (m + 1) 3 (nI ((I (m + 1) 3).toNatClampNeg + 1))) m 10 (I m 10 + 1)) m 4 t (-1) x
theorem rc_ga (RK : rf_ok B m) {b t a : Nat} (hL : lb_ I m b) (hb : b < 2000000000) (ha : I (m + 1) 3 = nI a) (ha4 : a < 400) {x1 x2 : Int32} (h1 : x1 = nI t) (ht : t < 400) {P : (Nat → Nat → Int32) → Prop} (K : P (sp_ga I m t x2)) : rs_v mt_X11_goesAside [pv_r m, pv_i x1, pv_i x2] B I P := by
  subst h1
  unfold sp_ga at K
  rw [ha, nI_clamp (by omega)] at K
  refine wq_X11_goesAside_0 RK ⟨t, ⟨rfl, ht⟩, fun I2 h2 => ?_⟩
  have e3 : I2 (m + 1) 3 = nI a := by rw [h2, i2_uj (by omega)]; exact ha
  refine ⟨5800 + a, ⟨nI_ae rfl e3, by omega⟩, fun I4 h4 I5 h5 I6 h6 => ?_⟩
  have e4 : I4 (m + 1) 3 + 1 = nI (a + 1) := by rw [h4, i2_uj (by omega), e3, nI_1]
  have e5 : I5 m 10 = I m 10 := by rw [h5, h4, h2, i2_ua (by omega), i2_ua (by omega), i2_ua (by omega)]
  have e6 : I6 = i2_u (i2_u (i2_u (i2_u I (m + 1) (200 + 14 * t + 6) 5) (m + 1) (5800 + a) (nI t)) (m + 1) 3 (nI (a + 1))) m 10 (I m 10 + 1) := by rw [h6, e5, h5, e4, h4, h2]
  rw [← e6] at K
  refine rc_log RK (b := b) (lb_o hL ?_ ?_ (Nat.le_refl _)) hb rfl ht K
  · rw [e6, i2_uj (by omega), i2_ua (by omega), i2_ua (by omega), i2_ua (by omega)]
  · rw [e6, i2_uj (by omega), i2_ua (by omega), i2_ua (by omega), i2_ua (by omega)]
theorem sp_ga_o {x : Int32} {t a j : Nat} (h : a ≠ m + 1 ∨ (j ≠ 200 + 14 * t + 6 ∧ j ≠ 3 ∧ j < 5800)) (h' : a ≠ m ∨ (j ≠ 10 ∧ j ≠ 6)) (h6 : a ≠ m + 6) : sp_ga I m t x a j = I a j := by
  unfold sp_ga
  rw [sp_log_o h6 (by omega), i2_at, if_neg (by omega), i2_at, if_neg (by omega), i2_at, if_neg (by omega), i2_at, if_neg (by omega)]
theorem lb_ga {x : Int32} {t b : Nat} (h : lb_ I m b) (hb : b < 2000000000) : lb_ (sp_ga I m t x) m (b + 1) := by
  unfold sp_ga
  refine lb_log (lb_o h ?_ ?_ (Nat.le_refl _)) hb
  · rw [i2_uj (by omega), i2_ua (by omega), i2_ua (by omega), i2_ua (by omega)]
  · rw [i2_uj (by omega), i2_ua (by omega), i2_ua (by omega), i2_ua (by omega)]
/-! leaving a worker -/
def sp_lw (I : Nat → Nat → Int32) (m t w : Nat) : Nat → Nat → Int32 := i2_u (i2_u (i2_u (i2_u I (m + 1) (60 + 4 * w + 0) (-1)) (m + 1) (200 + 14 * t + 9) (-1)) (m + 1) (200 + 14 * t + 10) (-1)) (m + 1) (200 + 14 * t + 11) (-1)
theorem rc_lw (RK : rf_ok B m) {t w : Nat} (hw : ra_T I m t 9 = nI w) (hw6 : w < 6) {x1 : Int32} (h1 : x1 = nI t) (ht : t < 400) {P : (Nat → Nat → Int32) → Prop} (K : P (sp_lw I m t w)) : rs_v mt_X11_leavesWorker [pv_r m, pv_i x1] B I P := by
  refine wq_X11_leavesWorker_0 RK ⟨t, ⟨h1, ht⟩, w, ⟨hw, hw6⟩, fun I3 h3 I4 h4 I5 h5 I6 h6 => ?_⟩
  rw [h6, h5, h4, h3]
  exact K
theorem sp_lw_o {t w a j : Nat} (h : a ≠ m + 1 ∨ (j ≠ 60 + 4 * w ∧ j ≠ 200 + 14 * t + 9 ∧ j ≠ 200 + 14 * t + 10 ∧ j ≠ 200 + 14 * t + 11)) : sp_lw I m t w a j = I a j := by
  unfold sp_lw
  rw [i2_at, if_neg (by omega), i2_at, if_neg (by omega), i2_at, if_neg (by omega), i2_at, if_neg (by omega)]
/-! the board: tasks' lanes, passes -/
def rb_ (I : Nat → Nat → Int32) (m n : Nat) (pb : Int32) : Prop := I (m + 1) 1 = nI n ∧ n ≤ 400 ∧ (∀ t, t < n → ∃ l, l < 5 ∧ ra_T I m t 0 = nI l) ∧ ∀ l, l < 5 → 0 ≤ ra_L I m l 4 ∧ ra_L I m l 4 ≤ pb
theorem rb_o {J : Nat → Nat → Int32} {pb : Int32} (h : rb_ I m n pb) (h1 : J (m + 1) 1 = I (m + 1) 1) (hT : ∀ t, t < n → ra_T J m t 0 = ra_T I m t 0) (hL : ∀ l, l < 5 → ra_L J m l 4 = ra_L I m l 4) : rb_ J m n pb :=
  ⟨h1.trans h.1, h.2.1, fun t ht => by rw [hT t ht]; exact h.2.2.1 t ht, fun l hl => by rw [hL l hl]; exact h.2.2.2 l hl⟩
theorem rb_log {pb : Int32} {x1 x3 x4 : Int32} {t : Nat} (h : rb_ I m n pb) : rb_ (sp_log I m x1 t x3 x4) m n pb := rb_o h sp_log_r (fun _ _ => sp_log_r) (fun _ _ => sp_log_r)
/-! waiting -/
def sp_wt (I : Nat → Nat → Int32) (m n t : Nat) : Nat → Nat → Int32 := ra_wait I m n (ra_T I m t 0).toNatClampNeg t
theorem rc_wt (RK : rf_ok B m) {pb : Int32} (h : rb_ I m n pb) {x1 : Int32} {t : Nat} (h1 : x1 = nI t) (ht : t < n) {P : (Nat → Nat → Int32) → Prop} (K : P (sp_wt I m n t)) : rs_v mt_X11_waitsNow [pv_r m, pv_i x1] B I P := by
  obtain ⟨l, hl, e⟩ := h.2.2.1 t ht
  unfold sp_wt at K
  rw [e, nI_clamp (by omega)] at K
  have := h.2.1
  exact rc_waitsNow RK h.1 h.2.1 (fun l hl => (h.2.2.2 l hl).1) h1 (by omega) e hl K
theorem sp_wt_o {pb : Int32} (hb : rb_ I m n pb) {t a j : Nat} (ht : t < n) (h : a ≠ m + 1 ∨ (j ≠ 200 + 14 * t + 6 ∧ (j < 10 ∨ 60 ≤ j ∨ j % 10 ≠ 4))) : sp_wt I m n t a j = I a j := by
  obtain ⟨l, hl, e⟩ := hb.2.2.1 t ht
  unfold sp_wt
  rw [e, nI_clamp (by omega)]
  unfold ra_wait
  rw [i2_at, if_neg (by omega)]
  split
  · rfl
  · rw [i2_at, if_neg (by omega)]
theorem sp_wt_6 {t : Nat} : sp_wt I m n t (m + 1) (200 + 14 * t + 6) = 0 := i2_us
theorem ra_lane_5 {x : Int32} {q : Nat} (h : ra_lane I m n x = some q) : q < 5 := (bs_lt h).1
theorem ra_up_b {pb : Int32} (h : ∀ l, l < 5 → 0 ≤ ra_L I m l 4 ∧ ra_L I m l 4 ≤ pb) {l : Nat} (hl : l < 5) : 0 ≤ ra_up I m n l ∧ ra_up I m n l ≤ pb := by
  unfold ra_up
  cases e : ra_lane I m n 0 with
  | none => exact h l hl
  | some q =>
    simp only
    split
    · exact h q (ra_lane_5 e)
    · exact h l hl
theorem rb_wt {pb : Int32} (hb : rb_ I m n pb) {t : Nat} (ht : t < n) : rb_ (sp_wt I m n t) m n pb := by
  refine ⟨(sp_wt_o hb ht (by omega)).trans hb.1, hb.2.1, fun t' ht' => ?_, fun l' hl' => ?_⟩
  · have : ra_T (sp_wt I m n t) m t' 0 = ra_T I m t' 0 := sp_wt_o hb ht (by omega)
    rw [this]
    exact hb.2.2.1 t' ht'
  · obtain ⟨l, hl, e⟩ := hb.2.2.1 t ht
    have e2 : ra_L (sp_wt I m n t) m l' 4 = if ra_live I m n (nI l) = true then ra_L I m l' 4 else if l' = l then ra_up I m n l else ra_L I m l' 4 := by
      unfold sp_wt ra_L
      rw [e, nI_clamp (by omega)]
      unfold ra_wait
      rw [i2_at, if_neg (by omega)]
      split
      · rfl
      · rw [i2_at]
        by_cases q : l' = l
        · rw [if_pos q, if_pos ⟨rfl, by omega⟩]
        · rw [if_neg q, if_neg (by omega)]
    rw [e2]
    split
    · exact hb.2.2.2 l' hl'
    · split
      · exact ra_up_b hb.2.2.2 hl
      · exact hb.2.2.2 l' hl'
theorem lb_wt {pb : Int32} (hb : rb_ I m n pb) {t b : Nat} (ht : t < n) (h : lb_ I m b) : lb_ (sp_wt I m n t) m b := lb_o h (sp_wt_o hb ht (by omega)) (sp_wt_o hb ht (by omega)) (Nat.le_refl _)
/-! freeing -/
def sp_fr1 (I : Nat → Nat → Int32) (m n t : Nat) : Nat → Nat → Int32 := sp_log (sp_wt I m n t) m 5 t (-1) 0
def sp_hp (I : Nat → Nat → Int32) (m : Nat) (x : Int32) (t : Nat) : Bool := decide (ra_T I m t 6 = 1 ∧ ra_T I m t 4 = x)
def sp_hs (I : Nat → Nat → Int32) (m n : Nat) (x : Int32) : List Nat := (List.range n).filter (sp_hp I m x)
def sp_frs (I : Nat → Nat → Int32) (m n : Nat) (ts : List Nat) : Nat → Nat → Int32 := ts.foldl (fun J t => sp_fr1 J m n t) I
def sp_frees (I : Nat → Nat → Int32) (m n t : Nat) : Nat → Nat → Int32 := sp_frs (i2_u I (m + 1) (200 + 14 * t + 6) 4) m n (sp_hs (i2_u I (m + 1) (200 + 14 * t + 6) 4) m n (nI t))
theorem sp_fr1_o {pb : Int32} (hb : rb_ I m n pb) {t a j : Nat} (ht : t < n) (h : a ≠ m + 1 ∨ (j ≠ 200 + 14 * t + 6 ∧ (j < 10 ∨ 60 ≤ j ∨ j % 10 ≠ 4))) (h' : a ≠ m + 6) (h'' : a ≠ m ∨ j ≠ 6) : sp_fr1 I m n t a j = I a j := by
  unfold sp_fr1
  rw [sp_log_o h' h'', sp_wt_o hb ht h]
theorem sp_fr1_6 {t : Nat} : sp_fr1 I m n t (m + 1) (200 + 14 * t + 6) = 0 := by
  unfold sp_fr1
  rw [sp_log_r, sp_wt_6]
theorem rb_fr1 {pb : Int32} (hb : rb_ I m n pb) {t : Nat} (ht : t < n) : rb_ (sp_fr1 I m n t) m n pb := rb_log (rb_wt hb ht)
theorem lb_fr1 {pb : Int32} (hb : rb_ I m n pb) {t b : Nat} (ht : t < n) (h : lb_ I m b) (hb2 : b < 2000000000) : lb_ (sp_fr1 I m n t) m (b + 1) := lb_log (lb_wt hb ht h) hb2
theorem rc_frees (RK : rf_ok B m) {pb : Int32} (hb : rb_ I m n pb) {b t : Nat} (hL : lb_ I m b) (hb2 : b < 1999000000) {x1 : Int32} (h1 : x1 = nI t) (ht : t < n) {P : (Nat → Nat → Int32) → Prop} (K : P (sp_frees I m n t)) : rs_v mt_X11_frees [pv_r m, pv_i x1] B I P := by
  subst h1
  have h4 := hb.2.1
  refine wq_X11_frees_0 RK ⟨t, ⟨rfl, by omega⟩, fun I2 h2 => ?_⟩
  have hbI : rb_ I2 m n pb := by
    rw [h2]
    exact rb_o hb (i2_uj (by omega)) (fun t' _ => i2_uj (by omega)) (fun l hl => i2_uj (by omega))
  have hLI : lb_ I2 m b := by
    rw [h2]
    exact lb_o hL (i2_ua (by omega)) (i2_ua (by omega)) (Nat.le_refl _)
  unfold sp_frees sp_hs at K
  rw [← h2, rg_0] at K
  have loop : ∀ k s (J : Nat → Nat → Int32), s + k = n → rb_ J m n pb → lb_ J m (b + s) → (∀ s' f, s ≤ s' → f < 14 → ra_T J m s' f = ra_T I2 m s' f) → P (sp_frs J m n ((List.range' s k).filter (sp_hp I2 m (nI t)))) → rw_v mt_X11_frees 10 [some (pv_r m), some (pv_i (nI t)), some (pv_i (nI s))] [] B J P := by
    intro k
    induction k with
    | zero =>
      intro s J hs hJ _ _ K
      have hs : s = n := by omega
      subst hs
      exact wq_X11_frees_10 RK ⟨fun _ => K, fun c => absurd (nI_end hJ.1) c⟩
    | succ k ih =>
      intro s J hs hJ hLJ hT K
      have hnx : sp_hp I2 m (nI t) s = false → rw_v mt_X11_frees 10 [some (pv_r m), some (pv_i (nI t)), some (pv_i (nI (s + 1)))] [] B J P := fun hf =>
        ih (s + 1) J (by omega) hJ (lb_o hLJ rfl rfl (by omega)) (fun s' f h1 h2 => hT s' f (by omega) h2) (by rw [rg_skip hf] at K; exact K)
      refine wq_X11_frees_10 RK ⟨fun c => absurd c (nI_done hJ.1 h4 (by omega)), fun _ => ⟨s, ⟨rfl, by omega⟩, fun c => hnx ?_, fun c => ⟨fun c2 => ?_, fun c2 => hnx ?_⟩⟩⟩
      · refine decide_eq_false (fun q => c ?_)
        rw [← hT s 6 (Nat.le_refl _) (by decide)] at q
        exact q.1
      · have hp : sp_hp I2 m (nI t) s = true := by
          refine decide_eq_true ?_
          rw [← hT s 6 (Nat.le_refl _) (by decide), ← hT s 4 (Nat.le_refl _) (by decide)]
          exact ⟨c, c2⟩
        rw [rg_cons hp] at K
        have hs' : s < n := by omega
        refine rc_wt RK hJ rfl hs' (rc_log RK (lb_wt hJ hs' hLJ) (by omega) rfl (by omega) ?_)
        exact ih (s + 1) _ (by omega) (rb_fr1 hJ hs') (lb_fr1 hJ hs' hLJ (show b + s < 2000000000 by omega)) (fun s' f h1 h2 => by
          rw [← hT s' f (by omega) h2]
          exact sp_fr1_o hJ hs' (by omega) (by omega) (by omega)) K
      · refine decide_eq_false (fun q => c2 ?_)
        rw [← hT s 4 (Nat.le_refl _) (by decide)] at q
        exact q.2
  exact loop n 0 I2 (by omega) hbI hLI (fun _ _ _ _ => rfl) K
end Sp1
