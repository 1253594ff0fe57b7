/-! THE CLASS: waiting again, done, failing -/
section Cpl
variable {M M' : mm_T} {I J : Nat → Nat → Int32} {m n : Nat} {ta tm : Nat → Nat}
def ivT (I : Nat → Nat → Int32) (m n : Nat) : Prop := tv_ I m n ∧ bl_ I m n ∧ ∀ t, t < n → (∃ p, p < 10 ∧ ra_T I m t 1 = nI p) ∧ (∃ s, s < 21 ∧ 1 ≤ s ∧ ra_T I m t 2 = nI s) ∧ (∃ k, k < 10000 ∧ ra_T I m t 3 = nI k) ∧ (∃ c, c < 1000000 ∧ ra_T I m t 5 = nI c) ∧ (ra_T I m t 6 ≤ 3 → ∃ r, r < 9 ∧ ra_T I m t 7 = nI r)
def ivL (I : Nat → Nat → Int32) (m : Nat) : Prop := (∀ l, l < 5 → (∃ w, w < 10 ∧ 1 ≤ w ∧ ra_L I m l 0 = nI w) ∧ (∃ r, r < 33 ∧ 1 ≤ r ∧ ra_L I m l 1 = nI r) ∧ (∃ k, k < 7 ∧ 1 ≤ k ∧ ra_L I m l 2 = nI k) ∧ ∃ s, s < 3 ∧ ra_L I m l 3 = nI s) ∧ (∃ a, a < 100 ∧ 1 ≤ a ∧ I (m + 1) 4 = nI a) ∧ (∃ a, a < 100 ∧ 1 ≤ a ∧ I (m + 1) 5 = nI a) ∧ (∃ a, a < 21 ∧ 1 ≤ a ∧ I (m + 1) 6 = nI a) ∧ (∃ a, a < 10 ∧ 1 ≤ a ∧ I (m + 1) 7 = nI a) ∧ (∃ a, a < 49 ∧ 1 ≤ a ∧ I (m + 1) 8 = nI a) ∧ ∃ a, a < 10 ∧ 1 ≤ a ∧ I (m + 1) 9 = nI a
def ivW (I : Nat → Nat → Int32) (m n : Nat) : Prop := (∀ t, t < n → (ra_T I m t 6 = 3 ∧ ∃ w k e, w < 6 ∧ ra_T I m t 9 = nI w ∧ ra_W I m w 0 = nI t ∧ k < 1000000000 ∧ ra_T I m t 10 = nI k ∧ e < 1000000000 ∧ ra_T I m t 11 = nI e) ∨ (¬ ra_T I m t 6 = 3 ∧ ra_T I m t 9 = -1 ∧ ra_T I m t 10 = -1 ∧ ra_T I m t 11 = -1)) ∧ (∀ t, t < n → (ra_T I m t 6 = 2 ∧ ∃ d, d < 1000000000 ∧ ra_T I m t 8 = nI d) ∨ (¬ ra_T I m t 6 = 2 ∧ ra_T I m t 8 = -1)) ∧ ∀ w, w < 6 → ra_W I m w 0 = -1 ∨ ∃ t, t < n ∧ ra_W I m w 0 = nI t ∧ ra_T I m t 6 = 3 ∧ ra_T I m t 9 = nI w
def ivH (I : Nat → Nat → Int32) (m n : Nat) : Prop := ∀ t, t < n → ra_T I m t 6 = 1 → ∃ q, q < t ∧ ra_T I m t 4 = nI q ∧ ra_T I m q 6 ≤ 3
def ivC (I : Nat → Nat → Int32) (m n : Nat) : Prop := ∀ l, l < 5 → ra_L I m l 3 = 1 → cn_ (ra_st I m (nI l)) n ≠ 0
def ivS (I : Nat → Nat → Int32) (m n : Nat) : Prop := ∃ as : List Nat, I (m + 1) 3 = nI as.length ∧ as.Nodup ∧ (∀ t, t ∈ as ↔ t < n ∧ ra_T I m t 6 = 5) ∧ ∀ i x, as[i]? = some x → I (m + 1) (5800 + i) = nI x
def ivN (I : Nat → Nat → Int32) (m n T W P L : Nat) : Prop := (∃ x, x ≤ T ∧ I (m + 1) 0 = nI x) ∧ (∃ x, x ≤ W ∧ I (m + 1) 2 = nI x) ∧ (∀ l, l < 5 → ∃ p, p ≤ P ∧ ra_L I m l 4 = nI p) ∧ (∃ x, x ≤ L ∧ I m 6 = nI x) ∧ I m 8 = 0 ∧ zr_ I m ∧ ∀ t, t < n → ∃ c, c ≤ 20 ∧ I (m + 4) t = nI c
def ivR (I : Nat → Nat → Int32) (m n : Nat) : Prop := cn_ (ra_st I m (-1)) n ≤ 48
theorem ivS_n (h : ivS I m n) (hn : n ≤ 400) : I (m + 1) 3 = nI (cn_ (fun t => decide (ra_T I m t 6 = 5)) n) := by
  obtain ⟨as, h1, h2, h3, -⟩ := h
  rw [h1, cn_len]
  congr 1
  refine Nat.le_antisymm ?_ ?_
  · exact List.Nodup.length_le_of_subset h2 (fun t q => by
      rw [List.mem_filter, List.mem_range]
      exact ⟨((h3 t).mp q).1, decide_eq_true ((h3 t).mp q).2⟩)
  · exact List.Nodup.length_le_of_subset rg_nd (fun t q => by
      rw [List.mem_filter, List.mem_range] at q
      exact (h3 t).mpr ⟨q.1, of_decide_eq_true q.2⟩)
/-! closing is in the class already -/
theorem cls_3 {l : Nat} (hl : l < 5) : ra_L (ra_cls I m n 5) m l 3 = opn_ I m n l := by
  have e : ∀ k, l < k → ra_cls I m n k (m + 1) (10 + 10 * l + 3) = opn_ I m n l := by
    intro k
    induction k with
    | zero => intro h; omega
    | succ k ih =>
      intro h
      show (if _ then i2_u _ _ _ _ else _ : Nat → Nat → Int32) _ _ = _
      by_cases q : l = k
      · subst q
        have eo : ra_cls I m n l (m + 1) (10 + 10 * l + 3) = I (m + 1) (10 + 10 * l + 3) := ra_cls_o l (Or.inr (fun l' hl' => by omega))
        unfold opn_ ra_L
        split
        · rw [i2_us]
        · exact eo
      · split
        · rw [i2_uj (by omega)]
          exact ih (by omega)
        · exact ih (by omega)
  exact e 5 hl
theorem cls_st {x : Int32} {t : Nat} : ra_st (ra_cls I m n 5) m x t = ra_st I m x t := ra_st_eq (fun f _ => ra_cls_T (by omega))
theorem opn_cls {l : Nat} (hl : l < 5) : opn_ (ra_cls I m n 5) m n l = opn_ I m n l := by
  have e : opn_ (ra_cls I m n 5) m n l = if opn_ I m n l = 1 ∧ cn_ (ra_st I m (nI l)) n = 0 then 2 else opn_ I m n l := by
    show (if ra_L (ra_cls I m n 5) m l 3 = 1 ∧ cn_ (ra_st (ra_cls I m n 5) m (nI l)) n = 0 then 2 else ra_L (ra_cls I m n 5) m l 3) = _
    rw [cls_3 hl, cn_eq (p := ra_st (ra_cls I m n 5) m (nI l)) (q := ra_st I m (nI l)) (fun _ _ => cls_st)]
  rw [e, if_neg]
  rintro ⟨h1, h2⟩
  unfold opn_ at h1
  by_cases q : ra_L I m l 3 = 1 ∧ cn_ (ra_st I m (nI l)) n = 0
  · rw [if_pos q] at h1
    exact absurd h1 (by decide)
  · rw [if_neg q] at h1
    exact q ⟨h1, h2⟩
theorem re_cls (h : re_ M I m n ta tm) : re_ M (ra_cls I m n 5) m n ta tm := by
  refine re_L h fx_rf (fun a j q => cl_o (by omega)) ?_
  intro l hl
  rw [opn_cls hl]
  refine ⟨(h.1.2.2.2 l hl).1, fun f q => ?_⟩
  have e : ra_L (ra_cls I m n 5) m l (5 + f) = ra_L I m l (5 + f) := cl_o (by omega)
  rw [e]
  exact (h.1.2.2.2 l hl).2 f q
theorem cls_id (h : ivC I m n) : ∀ l, l < 5 → opn_ I m n l = ra_L I m l 3 := fun l hl => by
  unfold opn_
  rw [if_neg (fun q => h l hl q.1 q.2)]
/-! waiting again -/
theorem ce_waitAgain (h : re_ M I m n ta tm) (h8 : I m 8 = 0) {L : Nat} (hL : I m 6 = nI L) (hL2 : L < 2000000000) {t : Nat} (ht : t < n) (hst : sd_ (sgI I m t) = true) {P : mm_T → Prop} (K : ∀ M', re_ M' (sp_fr1 I m n t) m n ta tm → P M') : cs_v mt_X10_waitAgain [pv_r 5, pv_r (ta t)] M P := by
  have h4 := re_4 h
  obtain ⟨l1, l2⟩ := lm_of h.1.2.1.2.1 ht
  have wo : ∀ a j, a ≠ m + 1 → sp_wt I m n t a j = I a j := fun a j q => by
    show i2_u (lft_ I m n (lmI I m t)) (m + 1) (200 + 14 * t + 6) 0 a j = I a j
    rw [i2_at, if_neg (by omega), lft_o (by omega)]
  refine wc_X10_waitAgain_0 (re_m5 h) ?_
  rw [h.1.1.1.2.1]
  refine ⟨(br_S h.1.2.1).1, ce_await h ht hst (fun M1 h1 => ce_note h1 ((wo _ _ (by omega)).trans h8) ((wo _ _ (by omega)).trans hL) hL2 ht (x3 := -1) (Or.inl ⟨rfl, rfl⟩) (fun M2 h2 => K M2 h2))⟩
/-! those that are held behind one wait, one after the other -/
theorem hs_hd {p : Nat → Bool} {t : Nat} {ts : List Nat} (h : (List.range n).filter p = t :: ts) : fi_ p n 0 = some t := by
  rw [fi_find, ← List.range_eq_range', ← List.head?_filter, h]
  rfl
theorem hs_nil {p : Nat → Bool} (h : (List.range n).filter p = []) : fi_ p n 0 = none := by
  rw [fi_find, ← List.range_eq_range', ← List.head?_filter, h]
  rfl
theorem hs_tl {p p' : Nat → Bool} {t : Nat} {ts : List Nat} (h : (List.range n).filter p = t :: ts) (hp : ∀ i, i < n → p' i = (p i && decide (i ≠ t))) : (List.range n).filter p' = ts := by
  have e : (List.range n).filter p' = ((List.range n).filter p).filter (fun i => decide (i ≠ t)) := by
    rw [List.filter_filter]
    refine fl_eq (fun i hi => ?_)
    rw [hp i hi, Bool.and_comm]
  have hnd : ((List.range n).filter p).Nodup := rg_nd
  rw [h] at hnd
  rw [List.nodup_cons] at hnd
  rw [e, h, List.filter_cons, if_neg (by simp)]
  rw [List.filter_eq_self]
  intro i hi
  have : i ≠ t := fun z => hnd.1 (by rw [← z]; exact hi)
  simp [this]
theorem ce_hold46 {t w : Nat} (ht : t < n) {P : mm_T → Prop} : ∀ (ts : List Nat) {M : mm_T} {I : Nat → Nat → Int32} {pb : Int32} {b i : Nat}, re_ M I m n ta tm → I m 8 = 0 → bl_ I m n → rb_ I m n pb → lb_ I m b → b + ts.length < 2000000000 → (List.range n).filter (sp_hp I m (nI t)) = ts → i + ts.length ≤ 48 → (∀ M', re_ M' (sp_frs I m n ts) m n ta tm → P M') → cw_v mt_X10_completeTask 46 [some (pv_r 5), some (pv_r (ta t)), some (pv_r (86 + w)), some (pv_i (nI i)), none] [] M P
  | [], M, I, pb, b, i, h, h8, hbl, hrb, hlb, hb, hts, hi, K => by
    have h4 := re_4 h
    refine wc_X10_completeTask_46 (re_m5 h) ⟨fun _ => K M h, fun _ => ?_⟩
    rw [h.1.1.1.2.1]
    refine ⟨(br_S h.1.2.1).1, cb_held h.1.2.1 (re_hb h hbl) (re_ge h ht).2 (h.1.2.2.1.1 t ht).1.2.2.1 (by omega) ?_⟩
    rw [hs_nil hts]
    exact ⟨fun c => absurd rfl c, fun _ => K M h⟩
  | y :: ts, M, I, pb, b, i, h, h8, hbl, hrb, hlb, hb, hts, hi, K => by
    have h4 := re_4 h
    rw [List.length_cons] at hi hb
    have hy : y < n ∧ sp_hp I m (nI t) y = true := by
      have : y ∈ (List.range n).filter (sp_hp I m (nI t)) := by rw [hts]; exact List.mem_cons_self
      rw [List.mem_filter, List.mem_range] at this
      exact this
    have hy1 : ra_T I m y 6 = 1 ∧ ra_T I m y 4 = nI t := of_decide_eq_true hy.2
    obtain ⟨L, hL1, hL2⟩ := hlb h8
    refine wc_X10_completeTask_46 (re_m5 h) ⟨fun c => absurd c (show ¬ nI 48 ≤ nI i from nI_ge (by omega) (by omega)), fun _ => ?_⟩
    rw [h.1.1.1.2.1]
    refine ⟨(br_S h.1.2.1).1, cb_held h.1.2.1 (re_hb h hbl) (re_ge h ht).2 (h.1.2.2.1.1 t ht).1.2.2.1 (by omega) ?_⟩
    rw [hs_hd hts]
    have f1 : ∀ t' f, f < 14 → (t' ≠ y ∨ f ≠ 6) → ra_T (sp_fr1 I m n y) m t' f = ra_T I m t' f := fun t' f _ _ => sp_fr1_o hrb hy.1 (by omega) (by omega) (by omega)
    have f6 : ra_T (sp_fr1 I m n y) m y 6 = 0 := sp_fr1_6
    refine ⟨fun _ => ce_waitAgain h h8 hL2 (by omega) hy.1 (sd_3 (Or.inr (Or.inl hy1.1))) (fun M1 h1 => ?_), fun c => absurd c (by have := (re_ge h hy.1).1; show ¬ ta y = 0; omega)⟩
    rw [nI_1]
    refine ce_hold46 (pb := pb) (b := b + 1) ht ts h1 ((sp_fr1_o hrb hy.1 (by omega) (by omega) (by omega)).trans h8) (fun t' q => by rw [f1 t' 4 (by decide) (by omega)]; exact hbl t' q) (rb_fr1 hrb hy.1) (lb_fr1 hrb hy.1 hlb (by omega)) (by omega) (hs_tl hts (fun j hj => ?_)) (by omega) (fun M' h' => K M' h')
    unfold sp_hp
    rw [f1 j 4 (by decide) (by omega)]
    by_cases z : j = y
    · rw [z, f6]
      simp
    · rw [f1 j 6 (by decide) (by omega)]
      simp [z]
theorem hs_le (hv : tv_ I m n) {x : Int32} : ((List.range n).filter (sp_hp I m x)).length ≤ cn_ (ra_st I m (-1)) n := by
  have e : ((List.range n).filter (sp_hp I m x)).length = cn_ (sp_hp I m x) n := (cn_len _ _).symm
  rw [e]
  have := hc_le hv
  have h2 : cn_ (sp_hp I m x) n ≤ hc_ I m n := cn_mono (fun i q => by
    unfold sp_hp at q
    rw [decide_eq_true_eq] at q
    exact decide_eq_true q.1) n
  omega
theorem log_lw {t w : Nat} {x1 x3 x4 : Int32} (hw : w < 6) : sp_log (sp_lw I m t w) m x1 t x3 x4 = sp_lw (sp_log I m x1 t x3 x4) m t w := by
  unfold sp_lw
  rw [log_cm (by omega) (by omega) (by omega), log_cm (by omega) (by omega) (by omega), log_cm (by omega) (by omega) (by omega), log_cm (by omega) (by omega) (by omega)]
theorem lw_cm {t w j : Nat} {y : Int32} (h1 : j ≠ 60 + 4 * w) (h2 : j ≠ 200 + 14 * t + 9) (h3 : j ≠ 200 + 14 * t + 10) (h4 : j ≠ 200 + 14 * t + 11) : sp_lw (i2_u I (m + 1) j y) m t w = i2_u (sp_lw I m t w) (m + 1) j y := by
  unfold sp_lw
  rw [i2_cm (j := j) (Or.inr (show j ≠ 60 + 4 * w + 0 from h1)), i2_cm (j := j) (Or.inr h2), i2_cm (j := j) (Or.inr h3), i2_cm (j := j) (Or.inr h4)]
theorem ce_complete (h : re_ M I m n ta tm) (h8 : I m 8 = 0) (hbl : bl_ I m n) {pb : Int32} (hrb : rb_ I m n pb) {b : Nat} (hlb : lb_ I m b) (hb : b < 1999990000) (hR : ivR I m n) {t w : Nat} (ht : t < n) (hw : w < 6) (h6 : ra_T I m t 6 = 3) (h9 : ra_T I m t 9 = nI w) {P : mm_T → Prop} (K : ∀ M', re_ M' (sp_done I m n t w) m n ta tm → P M') : cs_v mt_X10_completeTask [pv_r 5, pv_r (ta t)] M P := by
  have h4 := re_4 h
  obtain ⟨g1, g2⟩ := re_ge h ht
  obtain ⟨L, hL1, hL2⟩ := hlb h8
  refine wc_X10_completeTask_0 (re_m5 h) ⟨g2, ce_letGo h ht hw h9 (fun M1 h1 => ⟨fun c => absurd c (by omega), fun _ => ⟨(h1.1.1.2.2.1.2.1 w hw).2.1, fun M2 e2 M3 e3 => ?_⟩⟩)⟩
  have v2 : mm_i M1 (86 + w) 3 = I (m + 1) (60 + 4 * w + 2) := (h1.2.1.2.2.1 w hw).2.2.1.trans (sp_lw_o (by omega))
  have h2 := re_wi (f := 2) (x := I (m + 1) (60 + 4 * w + 2) + 1) h1 hw (by omega)
  rw [v2] at e2
  have h2 : re_ M2 (i2_u (sp_lw I m t w) (m + 1) (60 + 4 * w + 2) (I (m + 1) (60 + 4 * w + 2) + 1)) m n ta tm := by rw [e2]; exact h2
  have v3 : mm_i M2 5 11 = I (m + 1) 0 := by
    rw [h2.2.2.2.2.1.1, i2_uj (by omega), sp_lw_o (by omega)]
  rw [v3] at e3
  have h3 := re_ti (x := I (m + 1) 0) h2 ht (j := 13) (f := 12) (by omega)
  rw [← e3] at h3
  rw [h3.1.1.1.2.1]
  refine ⟨(br_S h3.1.2.1).1, ce_change h3 (s := 4) (v := 4) ht rfl (by decide) (fun q1 q2 => absurd q2 (by decide)) (fun M4 h4' => ?_)⟩
  have eY : sp_log (i2_u (i2_u (i2_u (sp_lw I m t w) (m + 1) (60 + 4 * w + 2) (I (m + 1) (60 + 4 * w + 2) + 1)) (m + 1) (200 + 14 * t + 12) (I (m + 1) 0)) (m + 1) (200 + 14 * t + 6) 4) m 2 t (nI w) 0 = i2_u (i2_u (sp_lw (i2_u (sp_log I m 2 t (nI w) 0) (m + 1) (60 + 4 * w + 2) (I (m + 1) (60 + 4 * w + 2) + 1)) m t w) (m + 1) (200 + 14 * t + 12) (I (m + 1) 0)) (m + 1) (200 + 14 * t + 6) 4 := by
    rw [log_cm (by omega) (by omega) (by omega), log_cm (by omega) (by omega) (by omega), log_cm (by omega) (by omega) (by omega), log_lw hw, lw_cm (by omega) (by omega) (by omega) (by omega)]
  have o8 : ∀ a j, a ≠ m + 1 → i2_u (i2_u (i2_u (sp_lw I m t w) (m + 1) (60 + 4 * w + 2) (I (m + 1) (60 + 4 * w + 2) + 1)) (m + 1) (200 + 14 * t + 12) (I (m + 1) 0)) (m + 1) (200 + 14 * t + 6) 4 a j = I a j := fun a j q => by
    rw [i2_ua q, i2_ua q, i2_ua q, sp_lw_o (Or.inl q)]
  refine ce_note h4' ((o8 _ _ (by omega)).trans h8) ((o8 _ _ (by omega)).trans hL2) (by omega) ht (x3 := nI w) (Or.inr ⟨w, hw, rfl, rfl⟩) (fun M5 h5 => ?_)
  rw [eY] at h5
  obtain ⟨Y, hY⟩ : ∃ Y, Y = i2_u (i2_u (sp_lw (i2_u (sp_log I m 2 t (nI w) 0) (m + 1) (60 + 4 * w + 2) (I (m + 1) (60 + 4 * w + 2) + 1)) m t w) (m + 1) (200 + 14 * t + 12) (I (m + 1) 0)) (m + 1) (200 + 14 * t + 6) 4 := ⟨_, rfl⟩
  rw [← hY] at h5
  have yo : ∀ a j, a ≠ m + 6 → (a ≠ m ∨ j ≠ 6) → (a ≠ m + 1 ∨ (j ≠ 60 + 4 * w + 2 ∧ j ≠ 60 + 4 * w ∧ j ≠ 200 + 14 * t + 9 ∧ j ≠ 200 + 14 * t + 10 ∧ j ≠ 200 + 14 * t + 11 ∧ j ≠ 200 + 14 * t + 12 ∧ j ≠ 200 + 14 * t + 6)) → Y a j = I a j := fun a j q1 q2 q3 => by
    rw [hY, i2_at, if_neg (by omega), i2_at, if_neg (by omega), sp_lw_o (by omega), i2_at, if_neg (by omega), sp_log_o q1 q2]
  have hY6 : Y m 6 = nI (L + 1) := by
    rw [hY, i2_ua (by omega), i2_ua (by omega), sp_lw_o (by omega), i2_ua (by omega)]
    unfold sp_log
    rw [if_pos h8, hL2, nI_clamp (by omega)]
    unfold ra_wr
    exact i2_us
  have tvY := h5.1.2.1.2.1
  have hsub : cn_ (ra_st Y m (-1)) n ≤ cn_ (ra_st I m (-1)) n := by
    have e1 : cn_ (ra_st Y m (-1)) n = cn_ (fun i => ra_st Y m (-1) i && decide (i < n)) n := cn_eq (fun i hi => by simp [hi])
    have e2 : cn_ (ra_st I m (-1)) n = cn_ (fun i => ra_st I m (-1) i && decide (i < n)) n := cn_eq (fun i hi => by simp [hi])
    rw [e1, e2]
    refine cn_mono (fun i q => ?_) n
    rw [Bool.and_eq_true, decide_eq_true_eq] at q ⊢
    refine ⟨?_, q.2⟩
    have q1 := q.1
    unfold ra_st at q1 ⊢
    rw [decide_eq_true_eq] at q1 ⊢
    refine ⟨Or.inl rfl, ?_⟩
    by_cases z : i = t
    · rw [z, h6]
      decide
    · have : ra_T Y m i 6 = ra_T I m i 6 := yo _ _ (by omega) (by omega) (by omega)
      rw [← this]
      exact q1.2
  refine ce_hold46 (w := w) ht _ h5 ((yo _ _ (by omega) (by omega) (by omega)).trans h8) (fun t' q => ?_) (pb := pb) (rb_o hrb (yo _ _ (by omega) (by omega) (by omega)) (fun t' _ => yo _ _ (by omega) (by omega) (by omega)) (fun l hl => yo _ _ (by omega) (by omega) (by omega))) (b := b + 1) (fun _ => ⟨L + 1, by omega, hY6⟩) ?_ rfl ?_ (fun M6 h6' => K M6 ?_) (i := 0)
  · rw [show ra_T Y m t' 4 = ra_T I m t' 4 from yo _ _ (by omega) (by omega) (by omega)]
    exact hbl t' q
  · have := hs_le tvY (x := nI t)
    unfold ivR at hR
    omega
  · have := hs_le tvY (x := nI t)
    unfold ivR at hR
    omega
  · have := re_cls h6'
    unfold sp_done sp_frees sp_hs
    rw [← hY]
    exact this
end Cpl
