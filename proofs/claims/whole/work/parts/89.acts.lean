/-! the acts keep the invariant: a refusal, a line, coming, taking, giving back, waking, resting -/
section Acts
variable {I J : Nat → Nat → Int32} {m n T W P L : Nat}
theorem ix_s (h : ix_ I m n T W P L) {t : Nat} (ht : t < n) : ∃ s, s < 7 ∧ ra_T I m t 6 = nI s := ((ix_tv h).2.2 t ht).2
theorem ix_7 (h : ix_ I m n T W P L) {t : Nat} (ht : t < n) (h6 : ra_T I m t 6 ≤ 3) : ∃ r, r < 9 ∧ ra_T I m t 7 = nI r := (h.1.1.2.2 t ht).2.2.2.2 h6
/-- only scratch, the count of refusals and such are otherwise -/
theorem ix_o (h : ix_ I m n T W P L) (hJ : ∀ a j, a ≠ m → a ≠ m + 2 → a ≠ m + 3 → a ≠ m + 5 → a ≠ m + 6 → (a < m + 9) → (a ≠ m + 1 ∨ (j < 60 ∧ (j < 10 ∨ j % 10 < 5)) ∨ (60 ≤ j ∧ j < 84 ∧ j % 4 = 0) ∨ 200 ≤ j) → J a j = I a j) (h6 : ∃ x, x ≤ L ∧ J m 6 = nI x) (h8 : J m 8 = I m 8) : ix_ J m n T W P L := by
  obtain ⟨⟨a1, a2, a3, a4⟩, ⟨b1, b2, b3, b4⟩, c⟩ := id h
  have hT : ∀ t f, t < n → f < 14 → ra_T J m t f = ra_T I m t f := fun t f _ _ => hJ _ _ (by omega) (by omega) (by omega) (by omega) (by omega) (by omega) (by omega)
  have hL : ∀ l f, l < 5 → f < 5 → ra_L J m l f = ra_L I m l f := fun l f _ _ => hJ _ _ (by omega) (by omega) (by omega) (by omega) (by omega) (by omega) (by omega)
  refine ⟨⟨ivT_o a1 (hJ _ _ (by omega) (by omega) (by omega) (by omega) (by omega) (by omega) (by omega)) (fun t f q1 q2 => hT t f q1 (by omega)) (fun t q => by rw [hT t 6 q (by decide)]; exact ix_s h q) (fun t q z => by rw [hT t 6 q (by decide)] at z; rw [hT t 7 q (by decide)]; exact ix_7 h q z), ivL_o a2 (fun l f q1 q2 => hL l f q1 (by omega)) (fun j q1 q2 => hJ _ _ (by omega) (by omega) (by omega) (by omega) (by omega) (by omega) (by omega)), ivW_o a3 (fun t f q1 q2 q3 q4 => hT t f q1 (by omega)) (fun w hw => hJ _ _ (by omega) (by omega) (by omega) (by omega) (by omega) (by omega) (by omega)), ivH_o a4 (fun t q => hT t 4 q (by decide)) (fun t q z => by rw [hT t 6 q (by decide)] at z; exact z) (fun t q q1 _ _ q4 q5 => by rw [hT q 6 q4 (by decide)]; exact q5)⟩, ⟨ivC_o b1 (fun l q => hL l 3 q (by decide)) (fun t q => hT t 0 q (by decide)) (fun t q z => by rw [hT t 6 q (by decide)]; exact z), ivS_o b2 (hJ _ _ (by omega) (by omega) (by omega) (by omega) (by omega) (by omega) (by omega)) (fun j q => hJ _ _ (by omega) (by omega) (by omega) (by omega) (by omega) (by omega) (by omega)) (fun t q => by rw [hT t 6 q (by decide)]), ivR_o b3 (fun t q z => by rw [hT t 6 q (by decide)] at z; exact z), fun t q1 q2 => (hJ _ _ (by omega) (by omega) (by omega) (by omega) (by omega) (by omega) (by omega)).trans (b4 t q1 q2)⟩, ivN_o c (hJ _ _ (by omega) (by omega) (by omega) (by omega) (by omega) (by omega) (by omega)) (hJ _ _ (by omega) (by omega) (by omega) (by omega) (by omega) (by omega) (by omega)) (fun l q => by rw [hL l 4 q (by decide)]; exact c.2.2.1 l q) h6 h8 (fun j => ⟨hJ _ _ (by omega) (by omega) (by omega) (by omega) (by omega) (by omega) (by omega), hJ _ _ (by omega) (by omega) (by omega) (by omega) (by omega) (by omega) (by omega)⟩) (fun t q => by rw [hJ _ _ (by omega) (by omega) (by omega) (by omega) (by omega) (by omega) (by omega)]; exact c.2.2.2.2.2.2 t q)⟩
theorem ix_ref (h : ix_ I m n T W P L) : ix_ (sp_ref I m) m n T W P L := by
  unfold sp_ref
  exact ix_o h (fun a j q _ _ _ _ _ _ => i2_ua q) (by rw [i2_uj (by omega)]; exact ix_log h) (i2_uj (by omega))
theorem ix_lg (h : ix_ I m n T W P L) (hL : L < 2000000000) {x1 x3 x4 : Int32} {t : Nat} : ix_ (sp_log I m x1 t x3 x4) m n T W P (L + 1) := by
  refine ix_o (ix_up h (Nat.le_refl _) (Nat.le_refl _) (Nat.le_refl _) (Nat.le_succ _)) (fun a j q1 _ _ _ q2 _ _ => sp_log_o q2 (Or.inl q1)) ?_ (sp_log_o (by omega) (by omega))
  exact lb_log (ix_lb h) hL ((sp_log_o (by omega) (by omega)).trans (ix_8 h))
/-- one task's state changes, where no worker, no due and no row of those aside is touched: pieces by hand -/
theorem ix_1t (h : ix_ I m n T W P L) {t s : Nat} {v : Int32} {P' L' : Nat} (ht : t < n) (hv : v = nI s) (hs : s < 7) (hs5 : s ≠ 5) (hn5 : ¬ ra_T I m t 6 = 5)
    (hJ : ∀ a j, a ≠ m → a ≠ m + 2 → a ≠ m + 3 → a ≠ m + 5 → a ≠ m + 6 → (a < m + 9) → (a ≠ m + 1 ∨ (j < 60 ∧ j ≠ 2 ∧ (j < 10 ∨ j % 10 < 4)) ∨ (200 ≤ j ∧ (j < 5800 → (j - 200) % 14 < 6)) ) → (a ≠ m + 4 ∨ n ≤ j) → J a j = I a j)
    (h6 : ∀ t', t' < n → ra_T J m t' 6 = if t' = t then v else ra_T I m t' 6) (h7 : ∀ t', t' < n → ra_T J m t' 6 ≤ 3 → ∃ r, r < 9 ∧ ra_T J m t' 7 = nI r) (hW : ivW J m n) (h1 : s = 1 → ∃ q, q < t ∧ ra_T I m t 4 = nI q ∧ ra_T J m q 6 ≤ 3) (h4 : 3 < s → ∀ t', t' < n → ra_T J m t' 6 = 1 → ra_T I m t' 4 = nI t → False) (hC : ivC J m n) (hR : ivR J m n) (hN : ivN J m n T W P' L') : ix_ J m n T W P' L' := by
  obtain ⟨⟨a1, a2, a3, a4⟩, ⟨b1, b2, b3, b4⟩, c⟩ := id h
  have hn := ix_4 h
  have hT : ∀ t f, t < n → f < 6 → ra_T J m t f = ra_T I m t f := fun t f _ _ => hJ _ _ (by omega) (by omega) (by omega) (by omega) (by omega) (by omega) (by omega) (by omega)
  refine ⟨⟨ivT_o a1 (hJ _ _ (by omega) (by omega) (by omega) (by omega) (by omega) (by omega) (by omega) (by omega)) hT (fun t' q => ?_) h7, ivL_o a2 (fun l f q1 q2 => hJ _ _ (by omega) (by omega) (by omega) (by omega) (by omega) (by omega) (by omega) (by omega)) (fun j q1 q2 => hJ _ _ (by omega) (by omega) (by omega) (by omega) (by omega) (by omega) (by omega) (by omega)), hW, fun t' q z => ?_⟩, ⟨hC, ivS_o b2 (hJ _ _ (by omega) (by omega) (by omega) (by omega) (by omega) (by omega) (by omega) (by omega)) (fun j q => hJ _ _ (by omega) (by omega) (by omega) (by omega) (by omega) (by omega) (by omega) (by omega)) (fun t' q => ?_), hR, fun t' q1 q2 => (hJ _ _ (by omega) (by omega) (by omega) (by omega) (by omega) (by omega) (by omega) (by omega)).trans (b4 t' q1 q2)⟩, hN⟩
  · rw [h6 t' q]
    split
    · exact ⟨s, hs, hv⟩
    · exact ix_s h q
  · have z' := z
    rw [h6 t' q] at z'
    rw [hT t' 4 q (by decide)]
    by_cases e : t' = t
    · rw [if_pos e, hv] at z'
      have hs1 : s = 1 := (nI_eq (by omega) (by omega)).mp (show nI s = nI 1 from z')
      obtain ⟨p, p1, p2, p3⟩ := h1 hs1
      rw [e]
      exact ⟨p, p1, p2, p3⟩
    · rw [if_neg e] at z'
      obtain ⟨p, p1, p2, p3⟩ := a4 t' q z'
      refine ⟨p, p1, p2, ?_⟩
      rw [h6 p (by omega)]
      by_cases e2 : p = t
      · rw [if_pos e2, hv]
        rcases Nat.lt_or_ge 3 s with y | y
        · exact (h4 y t' q z (by rw [p2, e2])).elim
        · exact show nI s ≤ nI 3 from nI_le y (by decide)
      · rw [if_neg e2]
        exact p3
  · rw [h6 t' q]
    by_cases e : t' = t
    · rw [if_pos e, hv, e]
      constructor
      · intro y
        exact absurd ((nI_eq (by omega) (by omega)).mp (show nI s = nI 5 from y)) hs5
      · intro y
        exact absurd y hn5
    · rw [if_neg e]
/-! giving back -/
theorem wt_n4 {t j : Nat} (hv : tv_ I m n) (ht : t < n) (h : j ≠ 200 + 14 * t + 6 ∧ (j < 10 ∨ 60 ≤ j ∨ j % 10 ≠ 4)) : sp_wt I m n t (m + 1) j = I (m + 1) j := by
  obtain ⟨l1, l2⟩ := lm_of hv ht
  show i2_u (lft_ I m n (lmI I m t)) (m + 1) (200 + 14 * t + 6) 0 (m + 1) j = I (m + 1) j
  rw [i2_uj h.1, lft_o (by omega)]
theorem wt_na {t a j : Nat} (h : a ≠ m + 1) : sp_wt I m n t a j = I a j := by
  show i2_u (lft_ I m n (lmI I m t)) (m + 1) (200 + 14 * t + 6) 0 a j = I a j
  rw [i2_ua h, lft_o (Or.inl h)]
theorem fr1_o {t a j : Nat} (hv : tv_ I m n) (ht : t < n) (h : a ≠ m + 1 ∨ (j ≠ 200 + 14 * t + 6 ∧ (j < 10 ∨ 60 ≤ j ∨ j % 10 ≠ 4))) (h6 : a ≠ m + 6) (h0 : a ≠ m ∨ j ≠ 6) : sp_fr1 I m n t a j = I a j := by
  unfold sp_fr1
  rw [sp_log_o h6 h0]
  by_cases e : a = m + 1
  · subst e
    exact wt_n4 hv ht (by omega)
  · exact wt_na e
/-- from the pieces: one waits (again); J0 is as I but for the fields that its state had -/
theorem ix_fr1 (h : ix_ I m n T W P L) (hP : P < 2147483648) (hL : L < 1999999999) {t : Nat} (ht : t < n) {J0 : Nat → Nat → Int32} (h6 : ra_T I m t 6 ≤ 3) (g : ∀ a j, ¬ (a = m + 1 ∧ ((60 ≤ j ∧ j < 84 ∧ j % 4 = 0) ∨ j = 200 + 14 * t + 8 ∨ j = 200 + 14 * t + 9 ∨ j = 200 + 14 * t + 10 ∨ j = 200 + 14 * t + 11)) → (a ≠ m ∨ j ≤ 8) → J0 a j = I a j) (hW : ivW (sp_fr1 J0 m n t) m n) : ix_ (sp_fr1 J0 m n t) m n T W P (L + 1) := by
  have hn := ix_4 h
  have gT : ∀ t' f, t' < n → f < 8 → ra_T J0 m t' f = ra_T I m t' f := fun t' f _ _ => g _ _ (by omega) (by omega)
  have tv0 : tv_ J0 m n := tv_o (ix_tv h) (g _ _ (by omega) (by omega)) (fun t' q => ⟨gT t' 0 q (by decide), gT t' 6 q (by decide)⟩)
  have fo : ∀ a j, (a ≠ m + 1 ∨ (j ≠ 200 + 14 * t + 6 ∧ (j < 10 ∨ 60 ≤ j ∨ j % 10 ≠ 4))) → a ≠ m + 6 → (a ≠ m ∨ j ≠ 6) → sp_fr1 J0 m n t a j = J0 a j := fun a j => fr1_o tv0 ht
  have f6 : ∀ t', t' < n → ra_T (sp_fr1 J0 m n t) m t' 6 = if t' = t then 0 else ra_T I m t' 6 := fun t' q => by
    by_cases e : t' = t
    · rw [if_pos e, e]
      exact sp_fr1_6
    · rw [if_neg e]
      exact (fo _ _ (by omega) (by omega) (by omega)).trans (gT t' 6 q (by decide))
  have hrb0 : rb_ J0 m n (nI P) := rb_o (ix_rb h hP) (g _ _ (by omega) (by omega)) (fun t' q => gT t' 0 q (by decide)) (fun l q => g _ _ (by omega) (by omega))
  have hlb0 : lb_ J0 m L := lb_o (ix_lb h) (g _ _ (by omega) (by omega)) (g _ _ (by omega) (by omega)) (Nat.le_refl _)
  have n5 : ¬ ra_T I m t 6 = 5 := fun q => by rw [q] at h6; exact absurd h6 (by decide)
  have st : ∀ t', t' < n → ra_T I m t' 6 ≤ 3 → ra_T (sp_fr1 J0 m n t) m t' 6 ≤ 3 := fun t' q z => by
    rw [f6 t' q]
    split
    · decide
    · exact z
  refine ix_1t h ht (s := 0) (v := 0) rfl (by decide) (by decide) n5 (fun a j q1 q2 q3 q4 q5 q6 q7 q8 => ?_) f6 (fun t' q z => ?_) hW (fun q => by cases q) (fun q => by omega) ?_ ?_ ?_
  · rw [fo _ _ (by omega) (by omega) (by omega)]
    exact g _ _ (by omega) (by omega)
  · rw [show ra_T (sp_fr1 J0 m n t) m t' 7 = ra_T J0 m t' 7 from fo _ _ (by omega) (by omega) (by omega), gT t' 7 q (by decide)]
    refine ix_7 h q ?_
    rw [f6 t' q] at z
    by_cases e : t' = t
    · rw [e]; exact h6
    · rw [if_neg e] at z; exact z
  · exact ivC_o h.2.1.1 (fun l q => (fo _ _ (by omega) (by omega) (by omega)).trans (g _ _ (by omega) (by omega))) (fun t' q => (fo _ _ (by omega) (by omega) (by omega)).trans (gT t' 0 q (by decide))) st
  · refine ivR_o h.2.1.2.2.1 (fun t' q z => ?_)
    rw [f6 t' q] at z
    by_cases e : t' = t
    · rw [e]; exact h6
    · rw [if_neg e] at z; exact z
  · refine ivN_o h.2.2 ((fo _ _ (by omega) (by omega) (by omega)).trans (g _ _ (by omega) (by omega))) ((fo _ _ (by omega) (by omega) (by omega)).trans (g _ _ (by omega) (by omega))) (rb_4 (pb := 0) (rb_fr1 hrb0 ht) hP) ?_ ((fo _ _ (by omega) (by omega) (by omega)).trans (g _ _ (by omega) (by omega))) (fun j => ⟨(fo _ _ (by omega) (by omega) (by omega)).trans (g _ _ (by omega) (by omega)), (fo _ _ (by omega) (by omega) (by omega)).trans (g _ _ (by omega) (by omega))⟩) (fun t' q => ?_)
    · exact lb_fr1 hrb0 ht hlb0 (by omega) ((fo _ _ (by omega) (by omega) (by omega)).trans ((g _ _ (by omega) (by omega)).trans (ix_8 h)))
    · rw [fo _ _ (by omega) (by omega) (by omega), g _ _ (by omega) (by omega)]
      exact h.2.2.2.2.2.2.2.2 t' q
/-- workers and dues when one task's fields are -1 and its worker has none -/
theorem ivW_lv (h : ivW I m n) {t w : Nat} {v : Int32} (ht : t < n) (hn : n ≤ 400) (hw : w < 6) (h9 : ra_T I m t 9 = nI w) (h6 : ∀ t', t' < n → t' ≠ t → (ra_T J m t' 6 = 3 ↔ ra_T I m t' 6 = 3) ∧ (ra_T J m t' 6 = 2 ↔ ra_T I m t' 6 = 2)) (hv : ra_T J m t 6 = v) (hv3 : ¬ v = 3) (h8 : (v = 2 ∧ ∃ d, d < 1000000000 ∧ ra_T J m t 8 = nI d) ∨ (¬ v = 2 ∧ ra_T J m t 8 = -1)) (hT : ∀ t' f, t' < n → t' ≠ t → (f = 8 ∨ f = 9 ∨ f = 10 ∨ f = 11) → ra_T J m t' f = ra_T I m t' f) (ht9 : ra_T J m t 9 = -1) (ht10 : ra_T J m t 10 = -1) (ht11 : ra_T J m t 11 = -1) (hW : ∀ w', w' < 6 → ra_W J m w' 0 = if w' = w then -1 else ra_W I m w' 0) : ivW J m n := by
  obtain ⟨a, b, c⟩ := h
  refine ⟨fun t' q => ?_, fun t' q => ?_, fun w' q => ?_⟩
  · by_cases e : t' = t
    · rw [e, hv, ht9, ht10, ht11]
      exact Or.inr ⟨hv3, rfl, rfl, rfl⟩
    · rw [hT t' 9 q e (by omega), hT t' 10 q e (by omega), hT t' 11 q e (by omega), (h6 t' q e).1]
      rcases a t' q with ⟨a1, w1, k, e1, a2, a3, a4, a5⟩ | ⟨a1, a2⟩
      · refine Or.inl ⟨a1, w1, k, e1, a2, a3, ?_, a5⟩
        rw [hW w1 a2, if_neg, a4]
        intro z
        rcases a t ht with ⟨b1, w2, k2, e2, b2, b3, b4, -⟩ | ⟨b1, b2, -⟩
        · have hw2 : w2 = w := (nI_eq (by omega) (by omega)).mp (b3.symm.trans h9)
          rw [z, ← hw2, b4] at a4
          exact e ((nI_eq (by omega) (by omega)).mp a4).symm
        · rw [b2] at h9
          exact nI_nm (by omega) h9.symm
      · exact Or.inr ⟨a1, a2⟩
  · by_cases e : t' = t
    · rw [e, hv]
      exact h8
    · rw [hT t' 8 q e (by omega), (h6 t' q e).2]
      exact b t' q
  · rw [hW w' q]
    by_cases e : w' = w
    · rw [if_pos e]
      exact Or.inl rfl
    · rw [if_neg e]
      rcases c w' q with c1 | ⟨t', c1, c2, c3, c4⟩
      · exact Or.inl c1
      · refine Or.inr ⟨t', c1, c2, ?_⟩
        have hne : t' ≠ t := fun z => by
          rw [z, h9] at c4
          exact e ((nI_eq (by omega) (by omega)).mp c4).symm
        exact ⟨(h6 t' c1 hne).1.mpr c3, (hT t' 9 c1 hne (by omega)).trans c4⟩
theorem ix_back (h : ix_ I m n T W P L) (hP : P < 2147483648) (hL : L < 1999999999) {t w : Nat} (ht : t < n) (hw : w < 6) (h6 : ra_T I m t 6 = 3) (h9 : ra_T I m t 9 = nI w) : ix_ (sp_fr1 (sp_lw I m t w) m n t) m n T W P (L + 1) := by
  have hn := ix_4 h
  have lo : ∀ a j, (a ≠ m + 1 ∨ (j ≠ 60 + 4 * w ∧ j ≠ 200 + 14 * t + 9 ∧ j ≠ 200 + 14 * t + 10 ∧ j ≠ 200 + 14 * t + 11)) → sp_lw I m t w a j = I a j := fun a j => sp_lw_o
  have tv0 : tv_ (sp_lw I m t w) m n := tv_o (ix_tv h) (lo _ _ (by omega)) (fun t' q => ⟨lo _ _ (by omega), lo _ _ (by omega)⟩)
  have fo : ∀ a j, (a ≠ m + 1 ∨ (j ≠ 200 + 14 * t + 6 ∧ (j < 10 ∨ 60 ≤ j ∨ j % 10 ≠ 4))) → a ≠ m + 6 → (a ≠ m ∨ j ≠ 6) → sp_fr1 (sp_lw I m t w) m n t a j = sp_lw I m t w a j := fun a j => fr1_o tv0 ht
  refine ix_fr1 h hP hL ht (by rw [h6]; decide) (fun a j q _ => lo _ _ (by omega)) (ivW_lv h.1.2.2.1 ht hn hw h9 (v := 0) (fun t' q e => ?_) sp_fr1_6 (by decide) (Or.inr ⟨by decide, ?_⟩) (fun t' f q e hf => ?_) ?_ ?_ ?_ (fun w' q => ?_))
  · rw [show ra_T (sp_fr1 (sp_lw I m t w) m n t) m t' 6 = ra_T I m t' 6 from (fo _ _ (by omega) (by omega) (by omega)).trans (lo _ _ (by omega))]
    exact ⟨Iff.rfl, Iff.rfl⟩
  · rcases h.1.2.2.1.2.1 t ht with ⟨z, -⟩ | ⟨-, z⟩
    · rw [h6] at z; exact absurd z (by decide)
    · exact ((fo _ _ (by omega) (by omega) (by omega)).trans (lo _ _ (by omega))).trans z
  · exact (fo _ _ (by omega) (by omega) (by omega)).trans (lo _ _ (by omega))
  · refine (fo _ _ (by omega) (by omega) (by omega)).trans ?_
    unfold sp_lw
    rw [i2_uj (by omega), i2_uj (by omega), i2_us]
  · refine (fo _ _ (by omega) (by omega) (by omega)).trans ?_
    unfold sp_lw
    rw [i2_uj (by omega), i2_us]
  · refine (fo _ _ (by omega) (by omega) (by omega)).trans ?_
    unfold sp_lw
    rw [i2_us]
  · refine (fo _ _ (by omega) (by omega) (by omega)).trans ?_
    by_cases e : w' = w
    · rw [if_pos e, e]
      unfold sp_lw
      rw [i2_uj (by omega), i2_uj (by omega), i2_uj (by omega)]
      exact i2_us
    · rw [if_neg e]
      exact lo _ _ (by omega)
theorem ix_wk1 (h : ix_ I m n T W P L) (hP : P < 2147483648) (hL : L < 1999999999) {t : Nat} (ht : t < n) (h6 : ra_T I m t 6 = 2) : ix_ (sp_wk1 I m n t) m n T W P (L + 1) := by
  have hn := ix_4 h
  obtain ⟨l1, l2⟩ := lm_of (ix_tv h) ht
  have e : sp_wk1 I m n t = i2_u (sp_fr1 (i2_u I (m + 1) (200 + 14 * t + 8) (-1)) m n t) m 11 (I m 11 + 1) := by
    unfold sp_wk1 sp_fr1
    rw [log_cm (by omega) (by omega) (by omega)]
  have tv0 : tv_ (i2_u I (m + 1) (200 + 14 * t + 8) (-1)) m n := tv_o (ix_tv h) (i2_uj (by omega)) (fun t' q => ⟨i2_uj (by omega), i2_uj (by omega)⟩)
  have fo : ∀ a j, (a ≠ m + 1 ∨ (j ≠ 200 + 14 * t + 6 ∧ (j < 10 ∨ 60 ≤ j ∨ j % 10 ≠ 4))) → a ≠ m + 6 → (a ≠ m ∨ j ≠ 6) → sp_fr1 (i2_u I (m + 1) (200 + 14 * t + 8) (-1)) m n t a j = i2_u I (m + 1) (200 + 14 * t + 8) (-1) a j := fun a j => fr1_o tv0 ht
  have h1 : ix_ (sp_fr1 (i2_u I (m + 1) (200 + 14 * t + 8) (-1)) m n t) m n T W P (L + 1) := by
    refine ix_fr1 h hP hL ht (by rw [h6]; decide) (fun a j q _ => by rw [i2_at, if_neg (by omega)]) ⟨fun t' q => ?_, fun t' q => ?_, fun w q => ?_⟩
    · have eT : ∀ f, f = 9 ∨ f = 10 ∨ f = 11 → ra_T (sp_fr1 (i2_u I (m + 1) (200 + 14 * t + 8) (-1)) m n t) m t' f = ra_T I m t' f := fun f hf => (fo _ _ (by omega) (by omega) (by omega)).trans (i2_uj (by omega))
      have eW : ∀ w, w < 6 → ra_W (sp_fr1 (i2_u I (m + 1) (200 + 14 * t + 8) (-1)) m n t) m w 0 = ra_W I m w 0 := fun w hw => (fo _ _ (by omega) (by omega) (by omega)).trans (i2_uj (by omega))
      rw [eT 9 (by omega), eT 10 (by omega), eT 11 (by omega)]
      by_cases z : t' = t
      · rw [z, show ra_T (sp_fr1 (i2_u I (m + 1) (200 + 14 * t + 8) (-1)) m n t) m t 6 = 0 from sp_fr1_6]
        rcases h.1.2.2.1.1 t ht with ⟨y, -⟩ | ⟨-, y⟩
        · rw [h6] at y; exact absurd y (by decide)
        · exact Or.inr ⟨by decide, y⟩
      · rw [show ra_T (sp_fr1 (i2_u I (m + 1) (200 + 14 * t + 8) (-1)) m n t) m t' 6 = ra_T I m t' 6 from (fo _ _ (by omega) (by omega) (by omega)).trans (i2_uj (by omega))]
        rcases h.1.2.2.1.1 t' q with ⟨y1, w, k, e1, y2, y3, y4, y5⟩ | y
        · exact Or.inl ⟨y1, w, k, e1, y2, y3, (eW w y2).trans y4, y5⟩
        · exact Or.inr y
    · by_cases z : t' = t
      · rw [z, show ra_T (sp_fr1 (i2_u I (m + 1) (200 + 14 * t + 8) (-1)) m n t) m t 6 = 0 from sp_fr1_6]
        exact Or.inr ⟨by decide, (fo _ _ (by omega) (by omega) (by omega)).trans i2_us⟩
      · rw [show ra_T (sp_fr1 (i2_u I (m + 1) (200 + 14 * t + 8) (-1)) m n t) m t' 6 = ra_T I m t' 6 from (fo _ _ (by omega) (by omega) (by omega)).trans (i2_uj (by omega)), show ra_T (sp_fr1 (i2_u I (m + 1) (200 + 14 * t + 8) (-1)) m n t) m t' 8 = ra_T I m t' 8 from (fo _ _ (by omega) (by omega) (by omega)).trans (i2_uj (by omega))]
        exact h.1.2.2.1.2.1 t' q
    · rw [show ra_W (sp_fr1 (i2_u I (m + 1) (200 + 14 * t + 8) (-1)) m n t) m w 0 = ra_W I m w 0 from (fo _ _ (by omega) (by omega) (by omega)).trans (i2_uj (by omega))]
      rcases h.1.2.2.1.2.2 w q with y | ⟨t', y1, y2, y3, y4⟩
      · exact Or.inl y
      · have hne : t' ≠ t := fun z => by rw [z, h6] at y3; exact absurd y3 (by decide)
        exact Or.inr ⟨t', y1, y2, ((fo _ _ (by omega) (by omega) (by omega)).trans (i2_uj (by omega))).trans y3, ((fo _ _ (by omega) (by omega) (by omega)).trans (i2_uj (by omega))).trans y4⟩
  rw [e]
  exact ix_o h1 (fun a j q _ _ _ _ _ _ => i2_ua q) (by rw [i2_uj (by omega)]; exact ix_log h1) (i2_uj (by omega))
end Acts
