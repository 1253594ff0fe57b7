/-! THE CLASS: a task's state, waiting, serving, causes, going aside, over re_ -/
section Pr2
variable {M M' : mm_T} {I J : Nat → Nat → Int32} {m n : Nat} {ta tm : Nat → Nat}
/-- the ints where one task's state (and passes) are otherwise -/
def s6_ (I J : Nat → Nat → Int32) (m n t : Nat) (v : Int32) : Prop := ∀ t' f, t' < n → f < 14 → ra_T J m t' f = if t' = t ∧ f = 6 then v else ra_T I m t' f
theorem s6_f {t t' f : Nat} {v : Int32} (h : s6_ I J m n t v) (ht' : t' < n) (hf : f < 14) (h6 : f ≠ 6) : ra_T J m t' f = ra_T I m t' f := by
  rw [h t' f ht' hf, if_neg (fun q => h6 q.2)]
theorem s6_n {t t' : Nat} {v : Int32} (h : s6_ I J m n t v) (ht' : t' < n) (hne : t' ≠ t) : ra_T J m t' 6 = ra_T I m t' 6 := by
  rw [h t' 6 ht' (by decide), if_neg (fun q => hne q.1)]
theorem s6_t {t : Nat} {v : Int32} (h : s6_ I J m n t v) (ht : t < n) : ra_T J m t 6 = v := by
  rw [h t 6 ht (by decide), if_pos ⟨rfl, rfl⟩]
theorem s6_u {t : Nat} {v : Int32} : s6_ I (i2_u I (m + 1) (200 + 14 * t + 6) v) m n t v := fun t' f _ hf => by
  unfold ra_T
  rw [i2_at]
  by_cases q : t' = t ∧ f = 6
  · rw [if_pos q, if_pos ⟨rfl, by omega⟩]
  · rw [if_neg q, if_neg (by omega)]
theorem st_u (hv : tv_ I m n) (hvJ : tv_ J m n) {t : Nat} {v : Int32} (ht : t < n) (hJ : s6_ I J m n t v) {l : Nat} (hl : l < 5) : cn_ (ra_st J m (nI l)) n + (if lmI I m t = l ∧ sd_ (sgI I m t) = true then 1 else 0) = cn_ (ra_st I m (nI l)) n + (if lmI I m t = l ∧ sd_ v = true then 1 else 0) := by
  rw [← lk7 hv hl, ← lk7 hvJ hl]
  have eL : ∀ t', t' < n → lmI J m t' = lmI I m t' := fun t' q => by unfold lmI; rw [s6_f hJ q (by decide) (by decide)]
  have hcn := cn_one (p := fun i => (sd_ (sgI J m i) && decide (lmI J m i = l)) && decide (i < n)) (q := fun i => (sd_ (sgI I m i) && decide (lmI I m i = l)) && decide (i < n)) (t := t) (fun i hi => by
    by_cases hin : i < n
    · simp only [hin, decide_true, Bool.and_true]
      rw [eL i hin]
      unfold sgI
      rw [s6_n hJ hin hi]
    · simp [hin]) ht
  have e1 : cn_ (fun i => (sd_ (sgI J m i) && decide (lmI J m i = l)) && decide (i < n)) n = c7_ (sgI J m) (lmI J m) n l := cn_eq (fun i hi => by simp [hi])
  have e2 : cn_ (fun i => (sd_ (sgI I m i) && decide (lmI I m i = l)) && decide (i < n)) n = c7_ (sgI I m) (lmI I m) n l := cn_eq (fun i hi => by simp [hi])
  have e3 : sgI J m t = v := s6_t hJ ht
  rw [e1, e2] at hcn
  simp only [ht, decide_true, Bool.and_true, eL t ht, e3, Bool.and_eq_true, decide_eq_true_eq] at hcn
  have cm : ∀ x : Int32, (if lmI I m t = l ∧ sd_ x = true then 1 else 0 : Nat) = if sd_ x = true ∧ lmI I m t = l then 1 else 0 := fun x => by
    by_cases a : lmI I m t = l <;> by_cases b : sd_ x = true <;> simp [a, b]
  rw [cm, cm]
  exact hcn
theorem opn_u (hv : tv_ I m n) (hvJ : tv_ J m n) {t : Nat} {v : Int32} (ht : t < n) (hJ : s6_ I J m n t v) {l : Nat} (hl : l < 5) (h3 : ra_L J m l 3 = ra_L I m l 3) (hq : lmI I m t = l → sd_ (sgI I m t) = false → sd_ v = true → ra_L I m l 3 ≠ 1) : opn_ J m n l = if l = lmI I m t ∧ sd_ (sgI I m t) = true ∧ sd_ v = false ∧ opn_ I m n l = 1 ∧ cn_ (ra_st J m (nI l)) n = 0 then 2 else opn_ I m n l := by
  have e := st_u hv hvJ ht hJ hl
  unfold opn_
  rw [h3]
  by_cases q : lmI I m t = l
  · cases s1 : sd_ (sgI I m t) with
    | true =>
      cases s2 : sd_ v with
      | true =>
        rw [s1, s2] at e
        have : cn_ (ra_st J m (nI l)) n = cn_ (ra_st I m (nI l)) n := by omega
        rw [this, if_neg (fun z : l = lmI I m t ∧ true = true ∧ true = false ∧ _ => absurd z.2.2.1 (by decide))]
      | false =>
        rw [s1, s2] at e
        simp only [q, true_and, if_true, Bool.false_eq_true, and_false, if_false] at e
        have hne : ¬ (ra_L I m l 3 = 1 ∧ cn_ (ra_st I m (nI l)) n = 0) := fun z => by omega
        rw [if_neg hne]
        by_cases z : ra_L I m l 3 = 1 ∧ cn_ (ra_st J m (nI l)) n = 0
        · rw [if_pos z, if_pos ⟨q.symm, rfl, rfl, z.1, z.2⟩]
        · rw [if_neg z, if_neg (fun y => z ⟨y.2.2.2.1, y.2.2.2.2⟩)]
    | false =>
      rw [if_neg (fun z : l = lmI I m t ∧ false = true ∧ _ => absurd z.2.1 (by decide))]
      cases s2 : sd_ v with
      | false =>
        rw [s1, s2] at e
        have : cn_ (ra_st J m (nI l)) n = cn_ (ra_st I m (nI l)) n := by omega
        rw [this]
      | true =>
        have h1 := hq q s1 s2
        rw [if_neg (fun z => h1 z.1), if_neg (fun z => h1 z.1)]
  · rw [if_neg (fun z => q z.1), if_neg (fun z => q z.1)] at e
    have : cn_ (ra_st J m (nI l)) n = cn_ (ra_st I m (nI l)) n := by omega
    rw [this, if_neg (fun z : l = lmI I m t ∧ _ => q z.1.symm)]
/-- the tasks' cells behind a change of the board's -/
theorem rT_bd (h : rT_ M I m n ta) {t : Nat} {v : Int32} (ht : t < n) (hk : kd_ M M') (hi : ∀ a j, 112 ≤ a → (a ≠ ta t ∨ j ≠ 7) → mm_i M' a j = mm_i M a j) (hr : ∀ a j, 112 ≤ a → mm_r M' a j = mm_r M a j) (h7 : mm_i M' (ta t) 7 = v) (hJ : s6_ I J m n t v) (h4 : ∀ j, J (m + 4) j = I (m + 4) j) (h5 : ∀ j, J (m + 5) j = I (m + 5) j) : rT_ M' J m n ta := by
  have h1 : rT_ (mm_pi M (ta t) 7 v) (i2_u I (m + 1) (200 + 14 * t + 6) v) m n ta := rT_pi h ht (by unfold jf_; omega)
  refine rT_o h1 (fun a q => hk a q) (fun a j q _ => ?_) (fun a j q _ => hr a j q) (fun t' f q1 q2 => ?_) (fun _ _ => by rw [h4, i2_ua (by omega)]) (fun _ => by rw [h5, i2_ua (by omega)])
  · rw [mi_pi]
    by_cases z : a = ta t ∧ j = 7
    · rw [if_pos z, z.1, z.2]
      exact h7
    · rw [if_neg z]
      exact hi a j q (by omega)
  · rw [hJ t' f q1 q2, s6_u t' f q1 q2]
theorem re_tc (h : re_ M I m n ta tm) {t : Nat} (ht : t < n) : tc_ M 6 (sgI I m) (lmI I m) ta t := by
  obtain ⟨⟨a1, a2, a3, a4, a5, a6⟩, ⟨b1, b2, b3, b4, b5, b6, b7, b8⟩, -⟩ := h.1.2.2.1.1 t ht
  exact ⟨a1, a3, b5, a5, (lm_of h.1.2.1.2.1 ht).1⟩
theorem re_open (h : re_ M I m n ta tm) {l : Nat} (hl : l < 5) : mm_i M (6 + 6 + l) 4 = opn_ I m n l := (h.1.2.2.2 l hl).1
/-- what the board's change leaves of re_ -/
theorem re_bd (h : re_ M I m n ta tm) {t : Nat} {v : Int32} (ht : t < n) (f : fx_ (awI 6 (lmI I m t) (ta t)) (fun p _ => p = 6 + 3) M M') (hB : br_ M' 6 ta J m n) (hJ : s6_ I J m n t v) (hg : ∀ a j, ¬ (a = m + 1 ∧ (j = 200 + 14 * t + 6 ∨ (10 ≤ j ∧ j < 60 ∧ j % 10 = 4))) → J a j = I a j) (h7 : mm_i M' (ta t) 7 = v) (hO : ∀ l, l < 5 → mm_i M' (6 + 6 + l) 4 = opn_ J m n l) : re_ M' J m n ta tm := by
  obtain ⟨g1, g2⟩ := re_ge h ht
  have h4 := re_4 h
  obtain ⟨l1, l2⟩ := lm_of h.1.2.1.2.1 ht
  refine re_B h (fx_up f (fun a j q => ?_) (fun a j q => Or.inl q)) (fun a j q => hg a j (fun z => q ⟨z.1, by omega⟩)) hB (rT_bd h.1.2.2.1 ht (kd_fx f) (fun a j q z => f.2.2.1 _ _ (by unfold awI chI; omega)) (fun a j q => f.2.2.2.1 _ _ (by omega)) h7 hJ (fun j => hg _ _ (by omega)) (fun j => hg _ _ (by omega))) ?_
  · unfold awI chI at q
    rcases q with (q | q | q | q) | q
    · exact Or.inl (by omega)
    · exact Or.inl (by omega)
    · exact Or.inl (by omega)
    · exact Or.inr ⟨by omega, by rw [q.1]; exact g2, by omega⟩
    · exact Or.inl (by omega)
  · intro l hl
    refine ⟨hO l hl, fun f' q => ?_⟩
    rw [f.2.2.1 _ _ (by unfold awI chI; omega)]
    unfold ra_L
    rw [hg _ _ (by omega)]
    exact (h.1.2.2.2 l hl).2 f' q
theorem ce_change (h : re_ M I m n ta tm) {t s : Nat} (ht : t < n) {v : Int32} (hv : v = nI s) (hs : s < 7) (hr : sd_ (sgI I m t) = false → sd_ v = true → (sl_ (sgI I m) n).length < 48 ∧ ra_L I m (lmI I m t) 3 ≠ 1) {P : mm_T → Prop} (K : ∀ M', re_ M' (i2_u I (m + 1) (200 + 14 * t + 6) v) m n ta tm → P M') : cs_v mt_X0_change [pv_r 6, pv_r (ta t), pv_i v] M P := by
  obtain ⟨⟨a1, a2, a3, a4, a5, a6⟩, ⟨b1, b2, b3, b4, b5, b6, b7, b8⟩, -⟩ := h.1.2.2.1.1 t ht
  have h4 := re_4 h
  refine cb_change h.1.2.1 ht (re_tc h ht) ⟨b1, b2, b4⟩ (fun t' q1 _ q3 => h.1.2.2.1.2.1 t' t q1 ht q3) hv hs (fun q1 q2 => (hr q1 q2).1) (fun M' hB hT hO f => K M' ?_)
  refine re_bd h ht (fx_up f (fun a j q => Or.inl q) (fun a j q => q)) hB s6_u (fun a j q => by rw [i2_at, if_neg (by omega)]) ?_ (fun l hl => ?_)
  · have := hT.2.2.1
    rw [this, sg_u]
    exact if_pos rfl
  · rw [hO l hl, re_open h hl, opn_u h.1.2.1.2.1 hB.2.1 ht (s6_u (v := v)) hl (i2_uj (by omega)) (fun z q1 q2 => by rw [← z]; exact (hr q1 q2).2)]
theorem ce_await (h : re_ M I m n ta tm) {t : Nat} (ht : t < n) (hst : sd_ (sgI I m t) = true) {P : mm_T → Prop} (K : ∀ M', re_ M' (sp_wt I m n t) m n ta tm → P M') : cs_v mt_X0_awaitTurn [pv_r 6, pv_r (ta t)] M P := by
  have h4 := re_4 h
  obtain ⟨l1, l2⟩ := lm_of h.1.2.1.2.1 ht
  have hb : rb_ I m n 0 ∨ True := Or.inr trivial
  have wo : ∀ a j, ¬ (a = m + 1 ∧ (j = 200 + 14 * t + 6 ∨ (10 ≤ j ∧ j < 60 ∧ j % 10 = 4))) → sp_wt I m n t a j = I a j := fun a j q => by
    show i2_u (lft_ I m n (lmI I m t)) (m + 1) (200 + 14 * t + 6) 0 a j = I a j
    rw [i2_at, if_neg (by omega), lft_o (by omega)]
  have hJ : s6_ I (sp_wt I m n t) m n t 0 := fun t' f q1 q2 => by
    by_cases z : t' = t ∧ f = 6
    · rw [if_pos z, z.1, z.2]
      exact sp_wt_6
    · rw [if_neg z]
      exact wo _ _ (by omega)
  refine cb_await h.1.2.1 ht hst (fun M' hB hT hO f => K M' (re_bd h ht f hB hJ wo ?_ (fun l hl => ?_)))
  · rw [hT.2.2.1]
    exact s6_t hJ ht
  · rw [hO l hl, re_open h hl, opn_u h.1.2.1.2.1 hB.2.1 ht hJ hl (wo _ _ (by omega)) (fun _ q _ => by rw [hst] at q; cases q), if_neg (fun z => absurd z.2.2.1 (by decide))]
theorem ce_serve (h : re_ M I m n ta tm) (hrk : rk_ok I m n) (hwz : wz_ I m n) {x1 : Int32} {P : Nat → mm_T → Prop} (K0 : ra_lane I m n x1 = none → P 0 M)
    (K : ∀ l t M', ra_lane I m n x1 = some l → l < 5 → ra_first I m n (nI l) = some t → t < n → ra_T I m t 0 = nI l → ra_T I m t 6 = 0 → re_ M' (sp_srv I m t l) m n ta tm → P (ta t) M') : cs_r mt_X0_serve [pv_r 6, pv_i x1] M P := by
  have h4 := re_4 h
  refine cb_serve h.1.2.1 hrk hwz (re_0 h) K0 (fun l t M' e1 e2 e3 e4 e5 e6 hB hT hO f => K l t M' e1 e2 e3 e4 e5 e6 ?_)
  have hlm : lmI I m t = l := (lm_eq h.1.2.1.2.1 e4 e2).mp e5
  have wo : ∀ a j, ¬ (a = m + 1 ∧ (j = 200 + 14 * t + 6 ∨ (10 ≤ j ∧ j < 60 ∧ j % 10 = 4))) → sp_srv I m t l a j = I a j := fun a j q => by
    unfold sp_srv
    rw [pass_o (by omega), i2_at, if_neg (by omega)]
  have hJ : s6_ I (sp_srv I m t l) m n t 3 := fun t' f q1 q2 => by
    by_cases z : t' = t ∧ f = 6
    · rw [if_pos z, z.1, z.2]
      unfold sp_srv ra_T
      rw [pass_o (by omega), i2_us]
    · rw [if_neg z]
      exact wo _ _ (by omega)
  rw [← hlm] at f
  refine re_bd h e4 f hB hJ wo ?_ (fun l' hl' => ?_)
  · rw [hT.2.2.1]
    exact s6_t hJ e4
  · have hst : sd_ (sgI I m t) = true := sd_3 (Or.inl e6)
    rw [hO l' hl', re_open h hl', opn_u h.1.2.1.2.1 hB.2.1 e4 hJ hl' (wo _ _ (by omega)) (fun _ q _ => by rw [hst] at q; cases q), if_neg (fun z => absurd z.2.2.1 (by decide))]
/-! a cause -/
theorem mt_w {tg k : Nat} : mm_n (mm_w M tg k) = mm_n M + 1 ∧ (5 ≤ mm_n M → mm_t (mm_w M tg k) (mm_n M + 1) = mm_t M (mm_n M) + k) := by
  refine ⟨rfl, fun h5 => ?_⟩
  show mm_t (mm_w M tg k) (mm_n M) + (if 5 ≤ mm_n M then (mm_k (mm_w M tg k) (mm_n M)).2 else 0) = _
  rw [if_pos h5, mm_k_w]
  congr 1
  exact mm_t_eq (fun a ha => (mm_S_w (fr := fun _ => true) (M := M) (tg := tg) (n := k)).2.1 a ha)
theorem mi_w {tg k a j : Nat} (h : a ≠ mm_n M) : mm_i (mm_w M tg k) a j = mm_i M a j := if_neg h
theorem mr_w {tg k a j : Nat} (h : a ≠ mm_n M) : mm_r (mm_w M tg k) a j = mm_r M a j := if_neg h
theorem mr_wn {tg k j : Nat} : mm_r (mm_w M tg k) (mm_n M) j = 0 := if_pos rfl
theorem mi_wn {tg k j : Nat} : mm_i (mm_w M tg k) (mm_n M) j = 0 := if_pos rfl
theorem kd_w {tg k : Nat} : kd_ M (mm_w M tg k) := fun a q => (mm_S_w (fr := fun _ => true) (M := M) (tg := tg) (n := k)).2.1 a (mm_k_lt q)
/-- a row of causes is made -/
theorem re_mk (h : re_ M I m n ta tm) {t : Nat} (ht : t < n) (h14 : mm_r M (ta t) 14 = 0) : re_ (mm_pr (mm_w M 26 20) (ta t) 14 (mm_n M)) I m n ta tm ∧ mm_n M + 1 ≤ nb_ ∧ mm_t M (mm_n M) + 20 ≤ sb_ := by
  obtain ⟨g1, g2⟩ := re_ge h ht
  have hlt : ∀ t, t < n → ta t < mm_n M := fun t q => mm_k_lt (by rw [(re_ge h q).2]; decide)
  obtain ⟨m1, k, m2, m3, m4, m5⟩ := h.2.2.2.2.2
  have hcn : cn_ (fun t' => decide (mm_r (mm_pr (mm_w M 26 20) (ta t) 14 (mm_n M)) (ta t') 14 ≠ 0)) n = cn_ (fun t' => decide (mm_r M (ta t') 14 ≠ 0)) n + 1 := by
    have := cn_one (p := fun t' => decide (mm_r (mm_pr (mm_w M 26 20) (ta t) 14 (mm_n M)) (ta t') 14 ≠ 0) && decide (t' < n)) (q := fun t' => decide (mm_r M (ta t') 14 ≠ 0) && decide (t' < n)) (t := t) (fun i hi => by
      by_cases hin : i < n
      · have hne : ta i ≠ ta t := fun z => hi (h.1.2.2.1.2.1 i t hin ht z)
        have hn' := hlt i hin
        rw [mr_pra hne, mr_w (by omega)]
      · simp [hin]) ht
    have e1 : cn_ (fun t' => decide (mm_r (mm_pr (mm_w M 26 20) (ta t) 14 (mm_n M)) (ta t') 14 ≠ 0) && decide (t' < n)) n = cn_ (fun t' => decide (mm_r (mm_pr (mm_w M 26 20) (ta t) 14 (mm_n M)) (ta t') 14 ≠ 0)) n := cn_eq (fun i hi => by simp [hi])
    have e2 : cn_ (fun t' => decide (mm_r M (ta t') 14 ≠ 0) && decide (t' < n)) n = cn_ (fun t' => decide (mm_r M (ta t') 14 ≠ 0)) n := cn_eq (fun i hi => by simp [hi])
    have e3 : mm_n M ≠ 0 := by omega
    rw [e1, e2, mr_prs] at this
    simpa [ht, h14, e3] using this
  have hle := cn_le (fun t' => decide (mm_r (mm_pr (mm_w M 26 20) (ta t) 14 (mm_n M)) (ta t') 14 ≠ 0)) n
  have h4 := re_4 h
  refine ⟨re_Nc h (fun a q => (kd_w (tg := 26) (k := 20) a q)) (fun a j q _ => mi_w (tg := 26) (k := 20) (by omega)) (fun a j q z => ?_) (fun _ _ _ => rfl) ⟨fun t' q => ?_, h.1.2.2.1.2.1, fun t1 t2 q1 q2 => ?_⟩ ?_, ?_, ?_⟩
  · rw [mr_pr, if_neg (fun y => z ⟨by rw [y.1]; exact g1, by rw [y.1]; exact g2, y.2⟩)]
    exact mr_w (by omega)
  · obtain ⟨⟨a1, a2, a3, a4, a5, a6⟩, ⟨b1, b2, b3, b4, b5, b6, b7, b8⟩, ⟨c1, c2, c3⟩, d1, d2⟩ := h.1.2.2.1.1 t' q
    have hq := hlt t' q
    have i1 : ∀ j, mm_i (mm_pr (mm_w M 26 20) (ta t) 14 (mm_n M)) (ta t') j = mm_i M (ta t') j := fun j => mi_w (tg := 26) (k := 20) (by omega)
    have r1 : ∀ j, j ≠ 14 → mm_r (mm_pr (mm_w M 26 20) (ta t) 14 (mm_n M)) (ta t') j = mm_r M (ta t') j := fun j hj => by
      rw [mr_prj hj]
      exact mr_w (by omega)
    refine ⟨⟨kd_at kd_w a1 (by omega), a2, (i1 _).trans a3, (r1 _ (by decide)).trans a4, (r1 _ (by decide)).trans a5, (r1 _ (by decide)).trans a6⟩, ⟨(i1 _).trans b1, (i1 _).trans b2, (i1 _).trans b3, (i1 _).trans b4, (i1 _).trans b5, (i1 _).trans b6, (i1 _).trans b7, (i1 _).trans b8⟩, ⟨fun z => (i1 _).trans (c1 z), fun z => (i1 _).trans (c2 z), fun z => (i1 _).trans (c3 z)⟩, (i1 _).trans d1, ?_⟩
    unfold rcs
    by_cases e : t' = t
    · subst e
      rw [mr_prs]
      refine Or.inr ⟨m1, ⟨26, mm_k_w, by decide, by decide, by decide, by decide⟩, fun k q1 q2 => ?_⟩
      rcases d2 with d2 | ⟨d2, -⟩
      · rw [d2.2] at q2
        exact absurd q2 (nI_pos (by omega))
      · omega
    · have hne : ta t' ≠ ta t := fun z => e (h.1.2.2.1.2.1 t' t q ht z)
      rw [mr_pra hne, mr_w (by omega)]
      rcases d2 with d2 | ⟨d2, d3, d4⟩
      · exact Or.inl d2
      · refine Or.inr ⟨d2, kd_ak kd_w d3, fun k q1 q2 => ?_⟩
        obtain ⟨tg, z1, -⟩ := d3
        have := mm_k_lt (M := M) (a := mm_r M (ta t') 14) (by rw [z1]; simp)
        rw [show mm_i (mm_pr (mm_w M 26 20) (ta t) 14 (mm_n M)) (mm_r M (ta t') 14) k = mm_i M (mm_r M (ta t') 14) k from mi_w (tg := 26) (k := 20) (by omega)]
        exact d4 k q1 q2
  · have ol : ∀ t', t' < n → t' ≠ t → mm_r (mm_pr (mm_w M 26 20) (ta t) 14 (mm_n M)) (ta t') 14 = mm_r M (ta t') 14 ∧ mm_r M (ta t') 14 ≠ mm_n M := fun t' q e => by
      have hne : ta t' ≠ ta t := fun z => e (h.1.2.2.1.2.1 t' t q ht z)
      have hq := hlt t' q
      refine ⟨by rw [mr_pra hne, mr_w (by omega)], ?_⟩
      rcases (h.1.2.2.1.1 t' q).2.2.2.2 with d2 | ⟨d2, ⟨tg, z1, -⟩, -⟩
      · omega
      · have := mm_k_lt (M := M) (a := mm_r M (ta t') 14) (by rw [z1]; simp)
        omega
    by_cases e1 : t1 = t
    · by_cases e2 : t2 = t
      · intro _ _
        rw [e1, e2]
      · intro z1 z2
        rw [e1, mr_prs, (ol t2 q2 e2).1] at z2
        exact absurd z2.symm (ol t2 q2 e2).2
    · by_cases e2 : t2 = t
      · intro z1 z2
        rw [e2, mr_prs, (ol t1 q1 e1).1] at z2
        exact absurd z2 (ol t1 q1 e1).2
      · rw [(ol t1 q1 e1).1, (ol t2 q2 e2).1]
        exact h.1.2.2.1.2.2 t1 t2 q1 q2
  · refine ⟨by show 112 ≤ mm_n M + 1; omega, k, m2, m3, ?_, ?_⟩
    · rw [hcn] at hle ⊢
      show mm_n M + 1 + _ + _ + _ ≤ _
      omega
    · rw [hcn] at hle ⊢
      have e := (mt_w (M := M) (tg := 26) (k := 20)).2 (by omega)
      have e' : mm_t (mm_pr (mm_w M 26 20) (ta t) 14 (mm_n M)) (mm_n M + 1) = mm_t (mm_w M 26 20) (mm_n M + 1) := mm_t_eq (fun _ _ => rfl)
      show mm_t (mm_pr (mm_w M 26 20) (ta t) 14 (mm_n M)) (mm_n M + 1) + _ + _ + _ ≤ _
      rw [e', e]
      omega
  · unfold nb_
    omega
  · unfold sb_
    omega
/-- a cause is kept, in the row that is there -/
theorem re_kp (h : re_ M I m n ta tm) {t c : Nat} {x : Int32} (ht : t < n) (h14 : mm_r M (ta t) 14 ≠ 0) (hc : I (m + 4) t = nI c) (hc2 : c < 20) : re_ (mm_pi (mm_pi M (mm_r M (ta t) 14) c x) (ta t) 15 (nI (c + 1))) (i2_u (i2_u I (m + 5) (20 * t + c) x) (m + 4) t (nI (c + 1))) m n ta tm := by
  obtain ⟨g1, g2⟩ := re_ge h ht
  obtain ⟨r1, r2, r3⟩ : 112 ≤ mm_r M (ta t) 14 ∧ ak_ M (mm_r M (ta t) 14) 0 20 ∧ ∀ k, k < 20 → nI k < I (m + 4) t → mm_i M (mm_r M (ta t) 14) k = I (m + 5) (20 * t + k) := by
    rcases (h.1.2.2.1.1 t ht).2.2.2.2 with d | d
    · exact absurd d.1 h14
    · exact d
  have h4 := re_4 h
  have tne : ∀ t', t' < n → ta t' ≠ mm_r M (ta t) 14 := fun t' q => ne_ak (re_ge h q).2 (by decide) r2
  have fi : ∀ a j, a ≠ mm_r M (ta t) 14 → (a ≠ ta t ∨ j ≠ 15) → mm_i (mm_pi (mm_pi M (mm_r M (ta t) 14) c x) (ta t) 15 (nI (c + 1))) a j = mm_i M a j := fun a j q1 q2 => by
    rw [mi_pi, if_neg (by omega), mi_pia q1]
  have gJ : ∀ a j, a ≠ m + 4 → a ≠ m + 5 → i2_u (i2_u I (m + 5) (20 * t + c) x) (m + 4) t (nI (c + 1)) a j = I a j := fun a j q1 q2 => by rw [i2_ua q1, i2_ua q2]
  have nT : rT_ (mm_pi (mm_pi M (mm_r M (ta t) 14) c x) (ta t) 15 (nI (c + 1))) (i2_u (i2_u I (m + 5) (20 * t + c) x) (m + 4) t (nI (c + 1))) m n ta := by
    refine ⟨fun t' q => ?_, h.1.2.2.1.2.1, h.1.2.2.1.2.2⟩
    obtain ⟨⟨a1, a2, a3, a4, a5, a6⟩, ⟨b1, b2, b3, b4, b5, b6, b7, b8⟩, ⟨c1, c2, c3⟩, d1, d2⟩ := h.1.2.2.1.1 t' q
    have i1 : ∀ j, j ≠ 15 → mm_i (mm_pi (mm_pi M (mm_r M (ta t) 14) c x) (ta t) 15 (nI (c + 1))) (ta t') j = mm_i M (ta t') j := fun j hj => fi _ _ (tne t' q) (Or.inr hj)
    have eT : ∀ f, ra_T (i2_u (i2_u I (m + 5) (20 * t + c) x) (m + 4) t (nI (c + 1))) m t' f = ra_T I m t' f := fun f => gJ _ _ (by omega) (by omega)
    refine ⟨⟨a1, a2, (i1 _ (by decide)).trans a3, ?_, ?_, ?_⟩, ⟨?_, ?_, ?_, ?_, ?_, ?_, ?_, ?_⟩, ⟨?_, ?_, ?_⟩, ?_, ?_⟩
    · rw [eT]; exact a4
    · unfold lmI; rw [eT]; exact a5
    · rw [eT]; exact a6
    · rw [i1 _ (by decide), eT]; exact b1
    · rw [i1 _ (by decide), eT]; exact b2
    · rw [i1 _ (by decide), eT]; exact b3
    · rw [i1 _ (by decide), eT]; exact b4
    · rw [i1 _ (by decide), eT]; exact b5
    · rw [i1 _ (by decide), eT]; exact b6
    · rw [i1 _ (by decide), eT]; exact b7
    · rw [i1 _ (by decide), eT]; exact b8
    · rw [i1 _ (by decide), eT]; exact c1
    · rw [i1 _ (by decide), eT]; exact c2
    · rw [i1 _ (by decide), eT]; exact c3
    · by_cases e : t' = t
      · subst e
        rw [mi_pis, i2_us]
      · rw [fi _ _ (tne t' q) (Or.inl (fun z => e (h.1.2.2.1.2.1 t' t q ht z))), i2_uj e, i2_ua (by omega)]
        exact d1
    · unfold rcs
      show (mm_r M (ta t') 14 = 0 ∧ _) ∨ (112 ≤ mm_r M (ta t') 14 ∧ ak_ M (mm_r M (ta t') 14) 0 20 ∧ ∀ k, k < 20 → _ → mm_i (mm_pi (mm_pi M (mm_r M (ta t) 14) c x) (ta t) 15 (nI (c + 1))) (mm_r M (ta t') 14) k = _)
      by_cases e : t' = t
      · subst e
        refine Or.inr ⟨r1, r2, fun k q1 q2 => ?_⟩
        rw [i2_us, nI_ltI (by omega) (by omega)] at q2
        rw [mi_pia (tne t' q).symm, mi_pi, i2_ua (by omega), i2_at]
        by_cases z : k = c
        · rw [if_pos ⟨rfl, z⟩, if_pos ⟨rfl, by omega⟩]
        · rw [if_neg (fun y => z y.2), if_neg (by omega)]
          exact r3 k q1 (by rw [hc]; exact nI_lt (by omega) (by omega))
      · rw [i2_uj e, i2_ua (by omega)]
        rcases d2 with d2 | ⟨d2, d3, d4⟩
        · exact Or.inl d2
        · refine Or.inr ⟨d2, d3, fun k q1 q2 => ?_⟩
          have hne : mm_r M (ta t') 14 ≠ mm_r M (ta t) 14 := fun z => e (h.1.2.2.1.2.2 t' t q ht (by omega) z)
          rw [fi _ _ hne (Or.inl (fun z => ne_ak g2 (by decide) d3 z.symm)), i2_ua (by omega), i2_uj (by omega)]
          exact d4 k q1 q2
  obtain ⟨⟨hS, hB, hT, hL⟩, ⟨hO, hA, hW, hC⟩, hK, hD, hX, hM⟩ := h
  have hge : ∀ t, t < n → 112 ≤ ta t := fun t q => (hT.1 t q).1.2.1
  have sm : ∀ a j, a < 112 → mm_i (mm_pi (mm_pi M (mm_r M (ta t) 14) c x) (ta t) 15 (nI (c + 1))) a j = mm_i M a j := fun a j q => fi a j (by omega) (by omega)
  refine ⟨⟨?_, ?_, nT, ?_⟩, ⟨?_, ?_, ?_, ?_⟩, ?_, ?_, ?_, ?_⟩
  · exact rS_o hS (fun _ _ => rfl) (fun _ _ _ => rfl) (fun a j q => sm a j (by unfold si_ at q; omega))
  · exact br_o hB (fun _ _ => rfl) (fun _ _ _ => rfl) (fun l j q _ _ => sm _ _ (by omega)) (fun j => sm _ _ (by omega)) (fun j _ => sm _ _ (by omega)) (sm _ _ (by omega)) (fun t' j q z => fi _ _ (tne t' q) (by omega)) (fun _ _ => rfl) (fun j _ => gJ _ _ (by omega) (by omega)) (fun l f _ _ => gJ _ _ (by omega) (by omega)) (fun t f _ _ => gJ _ _ (by omega) (by omega))
  · exact rL_o hL (fun l j q _ => sm _ _ (by omega)) (fun l f _ _ _ => gJ _ _ (by omega) (by omega)) (fun t _ => ⟨gJ _ _ (by omega) (by omega), gJ _ _ (by omega) (by omega)⟩)
  · exact rO_o hO (fun _ _ => rfl) rfl (sm _ _ (by omega)) (fun _ => rfl)
  · exact rA_o hA (fun _ _ => rfl) rfl (sm _ _ (by omega)) (fun _ => rfl) (gJ _ _ (by omega) (by omega)) (fun _ _ => gJ _ _ (by omega) (by omega))
  · exact rW_o hW (fun w j q => sm _ _ (by omega)) (fun _ _ => rfl) (fun w f _ _ => gJ _ _ (by omega) (by omega))
  · refine rC_o hC (fun _ _ => rfl) (sm _ _ (by omega)) (fun _ => rfl) (fun a j q1 q2 => fi _ _ (fun z => ?_) (Or.inl (fun z => ?_))) (fun _ _ _ => rfl) (fun j _ _ => gJ _ _ (by omega) (by omega)) (sm _ _ (by omega)) (fun _ => rfl)
    · exact ne_ak q2 (by decide) r2 z
    · rw [z, g2] at q2
      exact absurd q2 (by decide)
  · exact rK_o hK (sm _ _ (by omega)) (fun _ => sm _ _ (by omega)) (fun _ => sm _ _ (by omega)) (fun _ => gJ _ _ (by omega) (by omega)) (fun t _ => gJ _ _ (by omega) (by omega))
  · exact rD_o hD (fun _ => sm _ _ (by omega)) (fun _ => sm _ _ (by omega)) (gJ _ _ (by omega) (by omega)) (fun _ => gJ _ _ (by omega) (by omega))
  · exact rX_o hX (fun _ _ => sm _ _ (by omega)) (gJ _ _ (by omega) (by omega)) (gJ _ _ (by omega) (by omega)) (gJ _ _ (by omega) (by omega))
  · exact rM_o hM rfl (mm_t_eq (fun _ _ => rfl)) (fun _ _ => rfl) (gJ _ _ (by omega) (by omega))
theorem ce_addCause (h : re_ M I m n ta tm) (h8 : I m 8 = 0) {t : Nat} (ht : t < n) (hC : cb_ I m t) {x : Int32} {P : mm_T → Prop} (K : ∀ M', re_ M' (sp_bl I m t x) m n ta tm → P M') : cs_v mt_X6_addCause [pv_r (ta t), pv_i x] M P := by
  obtain ⟨g1, g2⟩ := re_ge h ht
  obtain ⟨c, hc, e4⟩ := hC h8
  have eS : sp_bl I m t x = ra_blame I m t c x := by
    unfold sp_bl
    rw [if_pos h8, e4, nI_clamp (by omega)]
  rw [eS] at K
  unfold ra_blame at K
  refine wc_X6_addCause_0 g2 (fun M1 h1 => ?_)
  have r1 : re_ M1 (i2_u I (m + 1) (200 + 14 * t + 13) x) m n ta tm := by
    rw [h1]
    exact re_ti h ht (by omega)
  have e4' : i2_u I (m + 1) (200 + 14 * t + 13) x (m + 4) t = nI c := by rw [i2_ua (by omega)]; exact e4
  have e15 : ∀ M'', re_ M'' (i2_u I (m + 1) (200 + 14 * t + 13) x) m n ta tm → mm_i M'' (ta t) 15 = nI c := fun M'' hh => (hh.1.2.2.1.1 t ht).2.2.2.1.trans e4'
  have tail : ∀ M'', re_ M'' (i2_u I (m + 1) (200 + 14 * t + 13) x) m n ta tm → ¬ mm_r M'' (ta t) 14 = 0 → (((20 : Int32) ≤ mm_i M'' (ta t) 15 → P M'') ∧ (¬ (20 : Int32) ≤ mm_i M'' (ta t) 15 → ∃ l, ak_ M'' (mm_r M'' (ta t) 14) 0 l ∧ ∃ k, (mm_i M'' (ta t) 15 = nI k ∧ k < l) ∧ ∀ M7, M7 = mm_pi M'' (mm_r M'' (ta t) 14) k x → ∀ M10, M10 = mm_pi M7 (ta t) 15 (mm_i M7 (ta t) 15 + 1) → P M10)) := fun M'' hh h14 => by
    rw [e15 M'' hh]
    obtain ⟨r1, r2, r3⟩ : 112 ≤ mm_r M'' (ta t) 14 ∧ ak_ M'' (mm_r M'' (ta t) 14) 0 20 ∧ True := by
      rcases (hh.1.2.2.1.1 t ht).2.2.2.2 with d | d
      · exact absurd d.1 h14
      · exact ⟨d.1, d.2.1, trivial⟩
    refine ⟨fun c1 => ?_, fun c1 => ⟨20, r2, c, ⟨rfl, ?_⟩, fun M7 h7 M10 h10 => ?_⟩⟩
    · have hc20 : c = 20 := by
        rcases Nat.lt_or_ge c 20 with q | q
        · exact absurd c1 (show ¬ nI 20 ≤ nI c from nI_ge q (by decide))
        · omega
      rw [if_pos hc20] at K
      exact K M'' hh
    · rcases Nat.lt_or_ge c 20 with q | q
      · exact q
      · exact absurd (show nI 20 ≤ nI c from nI_le q (by omega)) c1
    · have hc20 : c < 20 := by
        rcases Nat.lt_or_ge c 20 with q | q
        · exact q
        · exact absurd (show nI 20 ≤ nI c from nI_le q (by omega)) c1
      rw [if_neg (by omega)] at K
      refine K M10 ?_
      have := re_kp (x := x) hh ht h14 e4' hc20
      have ne : ta t ≠ mm_r M'' (ta t) 14 := ne_ak (re_ge hh ht).2 (by decide) r2
      rw [h10, h7, mi_pia ne, e15 M'' hh, nI_1]
      exact this
  refine ⟨fun c1 => tail M1 r1 c1, fun c1 => ?_⟩
  obtain ⟨z1, z2, z3⟩ := re_mk r1 ht c1
  refine ⟨⟨z2, z3⟩, fun M13 h13 M16 h16 => ?_⟩
  have r16 : re_ M16 (i2_u I (m + 1) (200 + 14 * t + 13) x) m n ta tm := by
    rw [h16, h13]
    exact z1
  have n16 : ¬ mm_r M16 (ta t) 14 = 0 := by
    rw [h16, mr_prs]
    have := r1.2.2.2.2.2.1
    omega
  exact tail M16 r16 n16
/-! a task joins those aside -/
def sp_aa (I : Nat → Nat → Int32) (m t : Nat) : Nat → Nat → Int32 := i2_u (i2_u I (m + 1) (5800 + (I (m + 1) 3).toNatClampNeg) (nI t)) (m + 1) 3 (nI ((I (m + 1) 3).toNatClampNeg + 1))
theorem ce_asAppend (h : re_ M I m n ta tm) {t k : Nat} (ht : t < n) (hk : I (m + 1) 3 = nI k) (hk4 : k < 400) {P : mm_T → Prop} (K : ∀ M', re_ M' (sp_aa I m t) m n ta tm → P M') : cs_v mt_X4_append [pv_r 81, pv_r (ta t)] M P := by
  obtain ⟨as, a1, a2, a3, a4⟩ := h.2.1.2.1
  have : as.length = k := (nI_eq (by omega) (by omega)).mp (a1.symm.trans hk)
  subst this
  have ek : (I (m + 1) 3).toNatClampNeg = as.length := by rw [a1]; exact nI_clamp (by omega)
  refine cc_append a4 (by rw [List.length_map]; exact hk4) (re_ge h ht).2 (fun M' hR f => K M' (re_A h f (fun a j q => ?_) ⟨as ++ [t], ?_, ?_, fun i x q => ?_, ?_⟩))
  · unfold sp_aa
    rw [i2_at, if_neg (by omega), i2_at, if_neg (by omega)]
  · unfold sp_aa
    rw [i2_us, ek, List.length_append]
    rfl
  · rw [List.length_append]
    show as.length + 1 ≤ 400
    omega
  · have hl := gl_lt q
    rw [List.length_append] at hl
    have hl : i < as.length + 1 := hl
    unfold sp_aa
    rw [i2_uj (by omega), ek, i2_at]
    by_cases e : i < as.length
    · rw [List.getElem?_append_left e] at q
      rw [if_neg (by omega)]
      exact a3 i x q
    · have e : i = as.length := by omega
      subst e
      simp at q
      rw [if_pos ⟨rfl, rfl⟩, q]
      exact ⟨rfl, by rw [← q]; exact ht⟩
  · rw [List.map_append]
    exact hR
end Pr2
