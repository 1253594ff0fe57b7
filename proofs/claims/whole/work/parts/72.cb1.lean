/-! THE BOARD against the reference's ints: what both boards (the true one, the trial's) share -/
section CB1
variable {M : mm_T} {I : Nat → Nat → Int32} {m n b : Nat} {ta : Nat → Nat}
def sgI (I : Nat → Nat → Int32) (m t : Nat) : Int32 := ra_T I m t 6
def lmI (I : Nat → Nat → Int32) (m t : Nat) : Nat := (ra_T I m t 0).toNatClampNeg
def oa_ (ta : Nat → Nat) (o : Option Nat) : Nat := match o with
  | none => 0
  | some t => ta t
/-- lanes and states are such -/
def tv_ (I : Nat → Nat → Int32) (m n : Nat) : Prop := I (m + 1) 1 = nI n ∧ n ≤ 400 ∧ ∀ t, t < n → (∃ l, l < 5 ∧ ra_T I m t 0 = nI l) ∧ ∃ s, s < 7 ∧ ra_T I m t 6 = nI s
theorem lm_of (h : tv_ I m n) {t : Nat} (ht : t < n) : lmI I m t < 5 ∧ ra_T I m t 0 = nI (lmI I m t) := by
  obtain ⟨⟨l, hl, e⟩, -⟩ := h.2.2 t ht
  have : lmI I m t = l := by unfold lmI; rw [e]; exact nI_clamp (by omega)
  rw [this]
  exact ⟨hl, e⟩
theorem lm_eq (h : tv_ I m n) {t l : Nat} (ht : t < n) (hl : l < 5) : ra_T I m t 0 = nI l ↔ lmI I m t = l := by
  obtain ⟨h1, h2⟩ := lm_of h ht
  rw [h2, nI_eq (by omega) (by omega)]
theorem sd_of (h : tv_ I m n) {t : Nat} (ht : t < n) : sd_ (sgI I m t) = true ↔ ra_T I m t 6 ≤ 3 := by
  obtain ⟨-, s, hs, e⟩ := h.2.2 t ht
  unfold sd_ sgI
  rw [decide_eq_true_eq]
  exact ⟨fun q => q.2, fun q => ⟨by rw [e]; exact nI_pos' (by omega), q⟩⟩
theorem sd_3 {x : Int32} (h : x = 0 ∨ x = 1 ∨ x = 2 ∨ x = 3) : sd_ x = true := by
  rcases h with rfl | rfl | rfl | rfl <;> decide
theorem lk6 (h : tv_ I m n) {l : Nat} (hl : l < 5) : c6_ (sgI I m) (lmI I m) n l = cn_ (ra_wt I m (nI l)) n := by
  unfold c6_
  refine cn_eq (fun t ht => ?_)
  unfold ra_wt sgI
  rw [decide_eq_decide, lm_eq h ht hl]
  exact ⟨fun q => ⟨q.2, q.1⟩, fun q => ⟨q.2, q.1⟩⟩
theorem lk7 (h : tv_ I m n) {l : Nat} (hl : l < 5) : c7_ (sgI I m) (lmI I m) n l = cn_ (ra_st I m (nI l)) n := by
  unfold c7_
  refine cn_eq (fun t ht => ?_)
  unfold ra_st
  rw [Bool.eq_iff_iff, Bool.and_eq_true, decide_eq_true_eq, decide_eq_true_eq, sd_of h ht, lm_eq h ht hl]
  exact ⟨fun q => ⟨Or.inr q.2, q.1⟩, fun q => ⟨q.2, q.1.elim (fun z => absurd z (nI_nm (by omega))) id⟩⟩
theorem lk8 (h : tv_ I m n) {l : Nat} (hl : l < 5) : c8_ (sgI I m) (lmI I m) n l = cn_ (ra_many I m (nI l) 3) n := by
  unfold c8_
  refine cn_eq (fun t ht => ?_)
  unfold ra_many sgI
  rw [decide_eq_decide, lm_eq h ht hl]
  exact ⟨fun q => ⟨Or.inr q.2, q.1⟩, fun q => ⟨q.2, q.1.elim (fun z => absurd z (nI_nm (by omega))) id⟩⟩
theorem lkS (h : tv_ I m n) : (sl_ (sgI I m) n).length = cn_ (ra_st I m (-1)) n := by
  rw [cn_len]
  unfold sl_
  congr 1
  refine fl_eq (fun t ht => ?_)
  unfold ra_st
  rw [Bool.eq_iff_iff, decide_eq_true_eq, sd_of h ht]
  exact ⟨fun q => ⟨Or.inl rfl, q⟩, fun q => q.2⟩
theorem lkC {s : Nat} : cn_ (fun t => decide (sgI I m t = nI s)) n = cn_ (ra_many I m (-1) (nI s)) n := by
  refine cn_eq (fun t _ => ?_)
  unfold ra_many sgI
  rw [decide_eq_decide]
  exact ⟨fun q => ⟨Or.inl rfl, q⟩, fun q => q.2⟩
/-- what the board's lanes, rules and standing tasks hold of the ints -/
def br_ (M : mm_T) (b : Nat) (ta : Nat → Nat) (I : Nat → Nat → Int32) (m n : Nat) : Prop :=
  bd0 M b n (sgI I m) (lmI I m) ta ∧ tv_ I m n ∧ (∀ l, l < 5 → mm_i M (b + 6 + l) 1 = ra_L I m l 0 ∧ mm_i M (b + 6 + l) 2 = ra_L I m l 1 ∧ mm_i M (b + 6 + l) 3 = ra_L I m l 2 ∧ mm_i M (b + 6 + l) 5 = ra_L I m l 4) ∧ (∀ k, k < 6 → mm_i M (b + 5) k = I (m + 1) (4 + k)) ∧
  (∀ t, t < n → sd_ (sgI I m t) = true → mm_i M (ta t) 3 = ra_T I m t 1 ∧ mm_i M (ta t) 4 = ra_T I m t 2 ∧ mm_i M (ta t) 6 = ra_T I m t 5) ∧ ∀ t t', t < n → t' < n → sd_ (sgI I m t) = true → sd_ (sgI I m t') = true → ta t = ta t' → t = t'
theorem br_6 (h : br_ M b ta I m n) {l : Nat} (hl : l < 5) : mm_i M (b + 6 + l) 6 = nI (cn_ (ra_wt I m (nI l)) n) := by
  rw [(h.1.2.2.1 l hl).1, lk6 h.2.1 hl]
theorem br_7 (h : br_ M b ta I m n) {l : Nat} (hl : l < 5) : mm_i M (b + 6 + l) 7 = nI (cn_ (ra_st I m (nI l)) n) := by
  rw [(h.1.2.2.1 l hl).2.1, lk7 h.2.1 hl]
theorem br_8 (h : br_ M b ta I m n) {l : Nat} (hl : l < 5) : mm_i M (b + 6 + l) 8 = nI (cn_ (ra_many I m (nI l) 3) n) := by
  rw [(h.1.2.2.1 l hl).2.2, lk8 h.2.1 hl]
theorem br_lv (h : br_ M b ta I m n) {l : Nat} (hl : l < 5) : mm_i M (b + 6 + l) 6 = 0 ↔ ra_live I m n (nI l) = false := by
  have h4 := h.2.1.2.1
  have := cn_le (ra_wt I m (nI l)) n
  rw [br_6 h hl]
  unfold ra_live
  rw [decide_eq_false_iff_not]
  constructor
  · intro q
    have := (nI_eq (by omega) (by omega)).mp (q.trans nI_0.symm)
    omega
  · intro q
    rw [show cn_ (ra_wt I m (nI l)) n = 0 by omega, nI_0]
theorem br_lv' (h : br_ M b ta I m n) {l : Nat} (hl : l < 5) : mm_i M (b + 6 + l) 6 ≤ 0 ↔ ra_live I m n (nI l) = false := by
  have h4 := h.2.1.2.1
  have := cn_le (ra_wt I m (nI l)) n
  rw [← br_lv h hl, br_6 h hl, ← nI_0, nI_leI (by omega) (by omega), nI_eq (by omega) (by omega)]
  omega
theorem br_S (h : br_ M b ta I m n) : bS M b := h.1.1
theorem br_ln (h : br_ M b ta I m n) {l : Nat} (hl : l < 5) : mm_k M (b + 6 + l) = (3, 14) ∧ mm_r M (b + 1) l = b + 6 + l ∧ mm_i M (b + 6 + l) 0 = nI l := h.1.1.2.2.2.2.2.2.2.2.2.2.2 l hl
theorem cb_theLane (h : br_ M b ta I m n) {x1 : Int32} {P : Nat → mm_T → Prop} (K : P (oa_ (fun l => b + 6 + l) (ra_lane I m n x1)) M) : cs_r mt_X0_theLane [pv_r b, pv_i x1] M P := by
  obtain ⟨h1, h2, h3, -⟩ := br_S h
  refine wc_X0_theLane_0 h1 ⟨5, by rw [h2]; exact h3, ?_⟩
  rw [h2]
  have loop : ∀ k l, l + k = 5 → cw_r mt_X0_theLane 14 [some (pv_r b), some (pv_i x1), some (pv_r (oa_ (fun l => b + 6 + l) (bs_ (ra_may I m n x1) (ra_ps I m) l))), some (pv_r (b + 1)), some (pv_i (nI 5)), some (pv_i (nI l)), none, none] [] M P := by
    intro k
    induction k with
    | zero =>
      intro l hl
      have hl : l = 5 := by omega
      subst hl
      exact wc_X0_theLane_14 h1 ⟨fun _ => K, fun c => absurd (Int32.le_refl _) c⟩
    | succ k ih =>
      intro l hl
      have hl5 : l < 5 := by omega
      have ih := ih (l + 1) (by omega)
      obtain ⟨g1, g2, g3⟩ := br_ln h hl5
      refine wc_X0_theLane_14 h1 ⟨fun c => absurd c (nI_5 hl5), fun _ => ⟨5, h3, l, ⟨rfl, hl5⟩, ?_⟩⟩
      rw [g2]
      have skip : ra_may I m n x1 l = false → cw_r mt_X0_theLane 14 [some (pv_r b), some (pv_i x1), some (pv_r (oa_ (fun l => b + 6 + l) (bs_ (ra_may I m n x1) (ra_ps I m) l))), some (pv_r (b + 1)), some (pv_i (nI 5)), some (pv_i (nI (l + 1))), none, none] [] M P := fun hf => by
        rw [bs_f hf] at ih
        exact ih
      have took : ra_may I m n x1 l = true → ((oa_ (fun l => b + 6 + l) (bs_ (ra_may I m n x1) (ra_ps I m) l) = 0 → cw_r mt_X0_theLane 14 [some (pv_r b), some (pv_i x1), some (pv_r (b + 6 + l)), some (pv_r (b + 1)), some (pv_i (nI 5)), some (pv_i (nI (l + 1))), none, none] [] M P) ∧ (¬ oa_ (fun l => b + 6 + l) (bs_ (ra_may I m n x1) (ra_ps I m) l) = 0 → mm_k M (oa_ (fun l => b + 6 + l) (bs_ (ra_may I m n x1) (ra_ps I m) l)) = (3, 14) ∧ ((mm_i M (oa_ (fun l => b + 6 + l) (bs_ (ra_may I m n x1) (ra_ps I m) l)) 5 ≤ mm_i M (b + 6 + l) 5 → cw_r mt_X0_theLane 14 [some (pv_r b), some (pv_i x1), some (pv_r (oa_ (fun l => b + 6 + l) (bs_ (ra_may I m n x1) (ra_ps I m) l))), some (pv_r (b + 1)), some (pv_i (nI 5)), some (pv_i (nI (l + 1))), none, none] [] M P) ∧ (¬ mm_i M (oa_ (fun l => b + 6 + l) (bs_ (ra_may I m n x1) (ra_ps I m) l)) 5 ≤ mm_i M (b + 6 + l) 5 → cw_r mt_X0_theLane 14 [some (pv_r b), some (pv_i x1), some (pv_r (b + 6 + l)), some (pv_r (b + 1)), some (pv_i (nI 5)), some (pv_i (nI (l + 1))), none, none] [] M P)))) := fun ht => by
        cases hb : bs_ (ra_may I m n x1) (ra_ps I m) l with
        | none =>
          rw [bs_n ht hb] at ih
          exact ⟨fun _ => ih, fun c => absurd rfl c⟩
        | some q =>
          have hq := (bs_lt hb).1
          rw [bs_s ht hb] at ih
          have eq5 : mm_i M (b + 6 + q) 5 = ra_L I m q 4 := (h.2.2.1 q (by omega)).2.2.2
          have el5 : mm_i M (b + 6 + l) 5 = ra_L I m l 4 := (h.2.2.1 l hl5).2.2.2
          refine ⟨fun c => absurd c (by show ¬ b + 6 + q = 0; omega), fun _ => ⟨(br_ln h (show q < 5 by omega)).1, fun c => ?_, fun c => ?_⟩⟩
          · have c : mm_i M (b + 6 + q) 5 ≤ mm_i M (b + 6 + l) 5 := c
            rw [eq5, el5] at c
            rw [if_neg (show ¬ ra_ps I m l q = true by rw [show ra_ps I m l q = false from decide_eq_false (Int32.not_lt.mpr c)]; decide)] at ih
            exact ih
          · have c : ¬ mm_i M (b + 6 + q) 5 ≤ mm_i M (b + 6 + l) 5 := c
            rw [eq5, el5] at c
            rw [if_pos (show ra_ps I m l q = true from decide_eq_true (Int32.not_le.mp c))] at ih
            exact ih
      refine ⟨g1, fun c => ?_, fun c => ⟨fun c2 => ?_, fun c2 => ⟨fun c3 => ?_, fun c3 => ?_⟩⟩⟩
      · exact skip (by unfold ra_may; rw [(br_lv' h hl5).mp c]; rfl)
      · have hv : ra_live I m n (nI l) = true := by
          cases hz : ra_live I m n (nI l) with
          | true => rfl
          | false => exact absurd ((br_lv' h hl5).mpr hz) c
        exact took (by unfold ra_may; rw [hv, decide_eq_true c2]; rfl)
      · rw [(h.2.2.1 l hl5).2.2.1, br_8 h hl5] at c3
        exact skip (by unfold ra_may; rw [decide_eq_false c2, decide_eq_false (Int32.not_lt.mpr c3)]; simp)
      · have hv : ra_live I m n (nI l) = true := by
          cases hz : ra_live I m n (nI l) with
          | true => rfl
          | false => exact absurd ((br_lv' h hl5).mpr hz) c
        rw [(h.2.2.1 l hl5).2.2.1, br_8 h hl5] at c3
        exact took (by unfold ra_may; rw [hv, decide_eq_true (Int32.not_le.mp c3)]; simp)
  exact loop 5 0 (by omega)
/-! the board over another memory and other ints -/
def lft_ (I : Nat → Nat → Int32) (m n l : Nat) : Nat → Nat → Int32 := if ra_live I m n (nI l) = true then I else i2_u I (m + 1) (10 + 10 * l + 4) (ra_up I m n l)
theorem lft_o {l a j : Nat} (h : a ≠ m + 1 ∨ j ≠ 10 + 10 * l + 4) : lft_ I m n l a j = I a j := by
  unfold lft_
  split
  · rfl
  · rw [i2_at, if_neg (by omega)]
theorem lft_4 {l l' : Nat} : ra_L (lft_ I m n l) m l' 4 = if l' = l ∧ ra_live I m n (nI l) = false then ra_up I m n l else ra_L I m l' 4 := by
  unfold lft_
  cases hv : ra_live I m n (nI l) with
  | true => simp
  | false =>
    by_cases e : l' = l
    · subst e
      simp [ra_L, i2_us]
    · simp [ra_L, e, i2_at]
      intro h
      omega
theorem tv_o {J : Nat → Nat → Int32} (h : tv_ I m n) (h1 : J (m + 1) 1 = I (m + 1) 1) (hT : ∀ t, t < n → ra_T J m t 0 = ra_T I m t 0 ∧ ra_T J m t 6 = ra_T I m t 6) : tv_ J m n :=
  ⟨h1.trans h.1, h.2.1, fun t ht => by rw [(hT t ht).1, (hT t ht).2]; exact h.2.2 t ht⟩
theorem bd0_sg {sg sg' : Nat → Int32} {lm lm' : Nat → Nat} (h : bd0 M b n sg lm ta) (h1 : ∀ t, t < n → sg' t = sg t) (h2 : ∀ t, t < n → lm' t = lm t) : bd0 M b n sg' lm' ta := by
  obtain ⟨a1, a2, a3, a4, a5, a6⟩ := h
  refine ⟨a1, a2, fun l hl => ?_, fun s hs => ?_, ?_, fun t ht hs => ?_⟩
  · have e6 : c6_ sg' lm' n l = c6_ sg lm n l := cn_eq (fun t ht => by rw [h1 t ht, h2 t ht])
    have e7 : c7_ sg' lm' n l = c7_ sg lm n l := cn_eq (fun t ht => by rw [h1 t ht, h2 t ht])
    have e8 : c8_ sg' lm' n l = c8_ sg lm n l := cn_eq (fun t ht => by rw [h1 t ht, h2 t ht])
    rw [e6, e7, e8]
    exact a3 l hl
  · rw [a4 s hs]
    congr 1
    exact cn_eq (fun t ht => by rw [h1 t ht])
  · have : sl_ sg' n = sl_ sg n := fl_eq (fun t ht => by rw [h1 t ht])
    rw [this]
    exact a5
  · rw [h1 t ht] at hs
    obtain ⟨g1, g2, g3, g4, g5⟩ := a6 t ht hs
    exact ⟨g1, g2, by rw [h1 t ht]; exact g3, by rw [h2 t ht]; exact g4, by rw [h2 t ht]; exact g5⟩
/-- the board's own picture where only other places are written -/
theorem bd0_o {sg : Nat → Int32} {lm : Nat → Nat} {M' : mm_T} (h : bd0 M b n sg lm ta) (hk : ∀ a, mm_k M' a = mm_k M a) (hr : ∀ a j, (a = b ∨ a = b + 1 ∨ a = b + 2 ∨ a = b + 3) → mm_r M' a j = mm_r M a j) (hl : ∀ l j, l < 5 → (j = 0 ∨ j = 6 ∨ j = 7 ∨ j = 8) → mm_i M' (b + 6 + l) j = mm_i M (b + 6 + l) j) (hc : ∀ j, mm_i M' (b + 4) j = mm_i M (b + 4) j) (h2 : mm_i M' (b + 2) 1 = mm_i M (b + 2) 1) (ht : ∀ t, t < n → sd_ (sg t) = true → mm_i M' (ta t) 0 = mm_i M (ta t) 0 ∧ mm_i M' (ta t) 7 = mm_i M (ta t) 7 ∧ mm_r M' (ta t) 2 = mm_r M (ta t) 2) : bd0 M' b n sg lm ta := by
  obtain ⟨a1, a2, a3, a4, a5, a6⟩ := h
  refine ⟨bS_o a1 hk (fun a j q => hr a j (by omega)) (fun l q => hl l 0 q (Or.inl rfl)), a2, fun l q => ?_, fun s q => (hc s).trans (a4 s q), ro_o a5 hk (hr _ _ (by omega)) h2 (fun i => hr _ _ (by omega)), fun t q1 q2 => ?_⟩
  · rw [hl l 6 q (by omega), hl l 7 q (by omega), hl l 8 q (by omega)]
    exact a3 l q
  · obtain ⟨g1, g2, g3, g4, g5⟩ := a6 t q1 q2
    obtain ⟨e1, e2, e3⟩ := ht t q1 q2
    exact ⟨(hk _).trans g1, e1.trans g2, e2.trans g3, e3.trans g4, g5⟩
theorem cb_liftPass (h : br_ M b ta I m n) {l : Nat} (hl : l < 5) {P : mm_T → Prop} (K : ∀ M', br_ M' b ta (lft_ I m n l) m n → fx_ (fun p j => p = b + 6 + l ∧ j = 5) (fun _ _ => False) M M' → P M') : cs_v mt_X0_liftPass [pv_r b, pv_r (b + 6 + l)] M P := by
  have hS := br_S h
  refine wc_X0_liftPass_0 hS.1 (cb_theLane h ⟨(br_ln h hl).1, fun c => ?_, fun c => ?_⟩)
  · have hv : ra_live I m n (nI l) = true := by
      cases hz : ra_live I m n (nI l) with
      | true => rfl
      | false => exact absurd ((br_lv h hl).mpr hz) c
    have e : lft_ I m n l = I := by unfold lft_; rw [if_pos hv]
    exact K M (by rw [e]; exact h) fx_rf
  · have hv : ra_live I m n (nI l) = false := (br_lv h hl).mp c
    -- whatever the pass becomes
    have fin : ∀ M', fx_ (fun p j => p = b + 6 + l ∧ j = 5) (fun _ _ => False) M M' → mm_i M' (b + 6 + l) 5 = ra_up I m n l → P M' := fun M' f e5 => by
      refine K M' ?_ f
      obtain ⟨a1, a2, a3, a4, a5, a6⟩ := h
      have tne : ∀ t, t < n → sd_ (sgI I m t) = true → ta t ≠ b + 6 + l := fun t h1 h2 => (tc_ne hS (a1.2.2.2.2.2 t h1 h2).1).2.2.2.2.2.2 l hl
      have eT : ∀ t f, t < n → f < 14 → ra_T (lft_ I m n l) m t f = ra_T I m t f := fun t f _ _ => lft_o (by omega)
      refine ⟨?_, tv_o a2 (lft_o (by omega)) (fun t ht => ⟨eT t 0 ht (by decide), eT t 6 ht (by decide)⟩), fun l' hl' => ?_, fun k hk => ?_, fun t ht hs => ?_, fun t t' h1 h2 h3 h4 => ?_⟩
      · refine bd0_sg (sg := sgI I m) (lm := lmI I m) ?_ (fun t ht => eT t 6 ht (by decide)) (fun t ht => by unfold lmI; rw [eT t 0 ht (by decide)])
        exact bd0_o a1 f.2.1 (fun a j _ => f.2.2.2.1 _ _ (fun q => q)) (fun l' j _ hj => f.2.2.1 _ _ (by omega)) (fun j => f.2.2.1 _ _ (by omega)) (f.2.2.1 _ _ (by omega)) (fun t h1 h2 => ⟨f.2.2.1 _ _ (fun q => tne t h1 h2 q.1), f.2.2.1 _ _ (fun q => tne t h1 h2 q.1), f.2.2.2.1 _ _ (fun q => q)⟩)
      · have eL : ∀ g, g ≠ 4 → g < 10 → ra_L (lft_ I m n l) m l' g = ra_L I m l' g := fun g _ _ => lft_o (by omega)
        rw [eL 0 (by decide) (by decide), eL 1 (by decide) (by decide), eL 2 (by decide) (by decide), f.2.2.1 _ _ (by omega), f.2.2.1 _ _ (by omega), f.2.2.1 _ _ (by omega)]
        refine ⟨(a3 l' hl').1, (a3 l' hl').2.1, (a3 l' hl').2.2.1, ?_⟩
        rw [lft_4]
        by_cases q : l' = l
        · subst q
          rw [if_pos ⟨rfl, hv⟩]
          exact e5
        · rw [if_neg (fun z => q z.1), f.2.2.1 _ _ (by omega)]
          exact (a3 l' hl').2.2.2
      · rw [lft_o (by omega), f.2.2.1 _ _ (by omega)]
        exact a4 k hk
      · have hs' : sd_ (sgI I m t) = true := by
          have := eT t 6 ht (by decide)
          unfold sgI at hs ⊢
          rw [this] at hs
          exact hs
        rw [eT t 1 ht (by decide), eT t 2 ht (by decide), eT t 5 ht (by decide), f.2.2.1 _ _ (fun q => tne t ht hs' q.1), f.2.2.1 _ _ (fun q => tne t ht hs' q.1), f.2.2.1 _ _ (fun q => tne t ht hs' q.1)]
        exact a5 t ht hs'
      · unfold sgI at h3 h4
        rw [eT t 6 h1 (by decide)] at h3
        rw [eT t' 6 h2 (by decide)] at h4
        exact a6 t t' h1 h2 h3 h4
    have e5 : mm_i M (b + 6 + l) 5 = ra_L I m l 4 := (h.2.2.1 l hl).2.2.2
    cases hq : ra_lane I m n 0 with
    | none =>
      refine ⟨fun _ => fin M fx_rf ?_, fun c2 => absurd rfl c2⟩
      rw [e5]
      unfold ra_up
      rw [hq]
    | some q =>
      have hq5 := ra_lane_5 hq
      refine ⟨fun c2 => absurd c2 (by show ¬ b + 6 + q = 0; omega), fun _ => ⟨(br_ln h hq5).1, fun M6 h6 => fin M6 (by rw [h6]; exact fx_pi ⟨rfl, rfl⟩) ?_⟩⟩
      have eq5 : mm_i M (b + 6 + q) 5 = ra_L I m q 4 := (h.2.2.1 q hq5).2.2.2
      have h6 : M6 = mm_pi M (b + 6 + l) 5 (if mm_i M (b + 6 + l) 5 < mm_i M (b + 6 + q) 5 then mm_i M (b + 6 + q) 5 else mm_i M (b + 6 + l) 5) := h6
      rw [h6, mi_pis, e5, eq5]
      unfold ra_up
      rw [hq]
      simp only
      by_cases z : ra_L I m l 4 < ra_L I m q 4
      · rw [if_pos z, if_pos (Int32.le_of_lt z)]
      · rw [if_neg z]
        by_cases z2 : ra_L I m l 4 ≤ ra_L I m q 4
        · rw [if_pos z2]
          exact Int32.le_antisymm z2 (Int32.not_lt.mp z)
        · rw [if_neg z2]
end CB1
