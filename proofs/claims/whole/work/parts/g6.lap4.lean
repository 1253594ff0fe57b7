/-! lapse: the invariant, failing and waking keep it -/
section Lap4
variable {I J N G : Nat → Nat → Int32} {m n n0 t T W P L X : Nat}
abbrev ac_ (I : fI) (m x : Nat) : Prop := I (m + 1) 7 ≤ ra_T I m x 7 + 1
def dF_ (I : fI) (m x : Nat) : Int32 := ra_T I m x 11 + rst_ I m (ra_T I m x 7 + 1)
def lq_ (I J : fI) (m n0 : Nat) : Prop := ∀ x, x < n0 →
  (ra_T I m x 6 = 3 → (ra_T J m x 6 = 3 ∧ ra_T J m x 11 = ra_T I m x 11 ∧ ra_T J m x 7 = ra_T I m x 7) ∨ (¬ J (m + 1) 0 < ra_T I m x 11 ∧ ((ac_ I m x ∧ ra_T J m x 6 = 5) ∨ (¬ ac_ I m x ∧ ((ra_T J m x 6 = 2 ∧ ra_T J m x 8 = dF_ I m x) ∨ (ra_T J m x 6 = 0 ∧ ¬ J (m + 1) 0 < dF_ I m x)))))) ∧
  (ra_T I m x 6 = 2 → (ra_T J m x 6 = 2 ∧ ra_T J m x 8 = ra_T I m x 8) ∨ (ra_T J m x 6 = 0 ∧ ¬ J (m + 1) 0 < ra_T I m x 8)) ∧
  (ra_T I m x 6 = 1 → (ra_T J m x 6 = 1 ∨ ra_T J m x 6 = 5) ∧ ra_T J m x 4 = ra_T I m x 4 ∧ ∀ q, q < n0 → ra_T I m x 4 = nI q → (ra_T J m x 6 = 5 ↔ ra_T J m q 6 = 5)) ∧
  (¬ ra_T I m x 6 = 1 → ¬ ra_T I m x 6 = 2 → ¬ ra_T I m x 6 = 3 → ra_T J m x 6 = ra_T I m x 6)
def lc_ (I J : fI) (m n0 : Nat) : Prop := J m 9 = nI (cn_ (fun x => decide (ra_T I m x 6 = 3 ∧ ¬ ra_T J m x 6 = 3)) n0) ∧ J m 10 - J (m + 1) 3 = 0 - I (m + 1) 3 ∧ J m 11 = nI (cn_ (fun x => decide ((ra_T I m x 6 = 2 ∨ ra_T I m x 6 = 3) ∧ ra_T J m x 6 = 0)) n0)
def li_ (I J : fI) (m n0 n T W P L : Nat) : Prop := ip_ J m n T W P L ∧ n0 ≤ n ∧ lq_ I J m n0 ∧ lc_ I J m n0 ∧ (∀ x, n0 ≤ x → x < n → ra_T J m x 6 = 0) ∧ J (m + 1) 6 = I (m + 1) 6 ∧ J (m + 1) 7 = I (m + 1) 7
theorem offT {x f : Nat} : ra_T (off_ J m) m x f = ra_T J m x f := by unfold ra_T; rw [off_r]
theorem ip_4 (h : ip_ J m n T W P L) : n ≤ 400 := ix_4 h.2
theorem ip_1 (h : ip_ J m n T W P L) : J (m + 1) 1 = nI n := by
  have := ix_1 h.2
  rw [off_r] at this
  exact this
theorem ip_rb (h : ip_ J m n T W P L) (hP : P < 2147483648) : rb_ J m n (nI P) := rb_row (ix_rb h.2 hP) off_r.symm
/-- the same on paper -/
theorem fp_eff (h : ip_ J m n T W P L) (hT : T < 1000000) (hL : L < 1999990000) (ht : t < n) (h6 : ra_T J m t 6 = 3) : (ac_ J m t → ra_T (sp_fl J m n t 0) m t 6 = 5) ∧ (¬ ac_ J m t → ra_T (sp_fl J m n t 0) m t 6 = 2 ∧ ra_T (sp_fl J m n t 0) m t 8 = J (m + 1) 0 + rst_ J m (ra_T J m t 7 + 1)) ∧ (∀ x, x < n → x ≠ t → ¬ ra_T J m x 6 = 1 → ra_T (sp_fl J m n t 0) m x 6 = ra_T J m x 6) ∧ (∀ x q, x < n → ra_T J m x 6 = 1 → ra_T J m x 4 = nI q → q < n → (ra_T (sp_fl J m n t 0) m x 6 = 1 ∨ ra_T (sp_fl J m n t 0) m x 6 = 5) ∧ (ra_T (sp_fl J m n t 0) m x 6 = 5 ↔ ra_T (sp_fl J m n t 0) m q 6 = 5)) ∧ (∀ x f, x < n → x ≠ t → f < 13 → f ≠ 6 → ra_T (sp_fl J m n t 0) m x f = ra_T J m x f) ∧ (∀ j, j < 10 → j ≠ 3 → sp_fl J m n t 0 (m + 1) j = J (m + 1) j) ∧ ct_ m J (sp_fl J m n t 0) 1 := by
  have h6' : ra_T (off_ J m) m t 6 = 3 := offT.trans h6
  have er : sp_fl (off_ J m) m n t 0 (m + 1) = sp_fl J m n t 0 (m + 1) := fl_row off_r
  have eT : ∀ x f, ra_T (sp_fl (off_ J m) m n t 0) m x f = ra_T (sp_fl J m n t 0) m x f := fun x f => by unfold ra_T; rw [er]
  obtain ⟨e1, e2, e3, e4⟩ := fl_eff (c := 0) h.2 hT hL ht h6'
  obtain ⟨o1, o2, -⟩ := fl_o (c := 0) h.2 ht h6'
  have rs : ∀ v, rst_ (off_ J m) m v = rst_ J m v := fun v => by unfold rst_; rw [off_r]
  simp only [eT, offT, off_r, rs] at e1 e2 e3 e4 o1
  simp only [er, off_r] at o2
  refine ⟨e1, e2, e3, e4, fun x f q1 q2 q3 q4 => (o1 x q1 q2).2 f q3 q4, fun j q1 q2 => o2 j (by omega) q2 (by omega), ?_⟩
  obtain ⟨w, k, hw, h9, -⟩ := ix_out h.2 ht h6'
  rw [offT] at h9
  have h3 := ivS_n h.2.2.1.2.1 (ix_4 h.2)
  rw [off_r] at h3
  have hc : cn_ (fun t => decide (ra_T (off_ J m) m t 6 = 5)) n ≤ n := cn_le _ _
  have h4 := ip_4 h
  exact ct_fl h.1 h4 h3 (by omega) ⟨w, hw, h9⟩
theorem l3_of (h : li_ I J m n0 n T W P L) (ht : t < n) (h6 : ra_T J m t 6 = 3) : t < n0 ∧ ra_T I m t 6 = 3 ∧ ra_T J m t 11 = ra_T I m t 11 ∧ ra_T J m t 7 = ra_T I m t 7 := by
  have h0 : t < n0 := by
    rcases Nat.lt_or_ge t n0 with z | z
    · exact z
    · have := h.2.2.2.2.1 t z ht
      rw [this] at h6
      exact absurd h6 (by decide)
  obtain ⟨a, b, c, d⟩ := h.2.2.1 t h0
  have h3 : ra_T I m t 6 = 3 := Classical.byContradiction (fun z3 => by
    by_cases z1 : ra_T I m t 6 = 1
    · rcases (c z1).1 with y | y <;> (rw [y] at h6; exact absurd h6 (by decide))
    · by_cases z2 : ra_T I m t 6 = 2
      · rcases b z2 with y | y <;> (rw [y.1] at h6; exact absurd h6 (by decide))
      · exact z3 ((d z1 z2 z3).symm.trans h6))
  refine ⟨h0, h3, ?_⟩
  rcases a h3 with y | ⟨-, y | ⟨-, y | y⟩⟩
  · exact ⟨y.2.1, y.2.2⟩
  · rw [y.2] at h6; exact absurd h6 (by decide)
  · rw [y.1] at h6; exact absurd h6 (by decide)
  · rw [y.1] at h6; exact absurd h6 (by decide)
theorem li_fl (h : li_ I J m n0 n T W P L) (hT : T < 1000000) (hL : L < 1999990000) (ht : t < n) (h6 : ra_T J m t 6 = 3) (h11 : J (m + 1) 0 = ra_T J m t 11) : li_ I (sp_fl J m n t 0) m n0 n T W P L := by
  have h4 := ip_4 h.1
  obtain ⟨t0, i3, i11, i7⟩ := l3_of h ht h6
  obtain ⟨e1, e2, e3, e4, o1, o2, ct⟩ := fp_eff h.1 hT hL ht h6
  obtain ⟨hip, hn, hq, ⟨c9, c10, c11⟩, hw, r6, r7⟩ := h
  have eac : ac_ J m t ↔ ac_ I m t := by unfold ac_; rw [r7, i7]
  have ers : ∀ v, rst_ J m v = rst_ I m v := fun v => by unfold rst_; rw [r6]
  have s0 : sp_fl J m n t 0 (m + 1) 0 = J (m + 1) 0 := o2 0 (by decide) (by decide)
  have t6 : ra_T (sp_fl J m n t 0) m t 6 = 5 ∨ ra_T (sp_fl J m n t 0) m t 6 = 2 := by
    by_cases z : ac_ J m t
    · exact Or.inl (e1 z)
    · exact Or.inr (e2 z).1
  have iff3 : ∀ x, x < n → x ≠ t → (ra_T (sp_fl J m n t 0) m x 6 = 3 ↔ ra_T J m x 6 = 3) := fun x hx hxt => by
    by_cases z : ra_T J m x 6 = 1
    · have hx0 : x < n0 := by
        rcases Nat.lt_or_ge x n0 with y | y
        · exact y
        · have := hw x y hx
          rw [this] at z
          exact absurd z (by decide)
      obtain ⟨q, q1, q2, -⟩ := hip.2.1.2.2.2 x hx (offT.trans z)
      rw [offT] at q2
      have := (e4 x q hx z q2 (by omega)).1
      rw [z]
      rcases this with y | y
      · rw [y]
      · rw [y]
        decide
    · rw [e3 x hx hxt z]
  have iff0 : ∀ x, x < n → x ≠ t → (ra_T (sp_fl J m n t 0) m x 6 = 0 ↔ ra_T J m x 6 = 0) := fun x hx hxt => by
    by_cases z : ra_T J m x 6 = 1
    · obtain ⟨q, q1, q2, -⟩ := hip.2.1.2.2.2 x hx (offT.trans z)
      rw [offT] at q2
      have := (e4 x q hx z q2 (by omega)).1
      rw [z]
      rcases this with y | y
      · rw [y]
      · rw [y]
        decide
    · rw [e3 x hx hxt z]
  refine ⟨ip_fl hip hT hL ht h6, hn, fun x hx => ?_, ⟨?_, ?_, ?_⟩, fun x q1 q2 => ?_, (o2 6 (by decide) (by decide)).trans r6, (o2 7 (by decide) (by decide)).trans r7⟩
  · have hxn : x < n := by omega
    obtain ⟨a, b, c, d⟩ := hq x hx
    by_cases hxt : x = t
    · subst hxt
      refine ⟨fun _ => Or.inr ⟨?_, ?_⟩, fun z => ?_, fun z => ?_, fun _ _ z => absurd i3 z⟩
      · rw [s0, h11, i11]
        exact fun q => Int32.lt_irrefl q
      · by_cases z : ac_ I m x
        · exact Or.inl ⟨z, e1 (eac.mpr z)⟩
        · have := e2 (fun y => z (eac.mp y))
          refine Or.inr ⟨z, Or.inl ⟨this.1, ?_⟩⟩
          rw [this.2, h11, i11, i7, ers]
          rfl
      · rw [i3] at z; exact absurd z (by decide)
      · rw [i3] at z; exact absurd z (by decide)
    · have oT : ∀ f, f < 13 → f ≠ 6 → ra_T (sp_fl J m n t 0) m x f = ra_T J m x f := fun f q1 q2 => o1 x f hxn hxt q1 q2
      rw [s0, oT 11 (by decide) (by decide), oT 7 (by decide) (by decide), oT 8 (by decide) (by decide), oT 4 (by decide) (by decide)]
      by_cases z1 : ra_T J m x 6 = 1
      · refine ⟨fun z => ?_, fun z => ?_, fun z => ?_, fun y1 y2 y3 => ?_⟩
        · rcases a z with y | ⟨-, y | ⟨-, y | y⟩⟩
          · rw [y.1] at z1; exact absurd z1 (by decide)
          · rw [y.2] at z1; exact absurd z1 (by decide)
          · rw [y.1] at z1; exact absurd z1 (by decide)
          · rw [y.1] at z1; exact absurd z1 (by decide)
        · rcases b z with y | y <;> (rw [y.1] at z1; exact absurd z1 (by decide))
        · obtain ⟨-, c2, -⟩ := c z
          obtain ⟨q, q1, q2, -⟩ := hip.2.1.2.2.2 x hxn (offT.trans z1)
          rw [offT] at q2
          refine ⟨(e4 x q hxn z1 q2 (by omega)).1, c2, fun q' q1' q2' => ?_⟩
          exact (e4 x q' hxn z1 (c2.trans q2') (by omega)).2
        · exact absurd ((d y1 y2 y3).symm.trans z1) y1
      · rw [e3 x hxn hxt z1]
        refine ⟨a, b, fun z => ?_, d⟩
        obtain ⟨c1, c2, c3⟩ := c z
        have c5 : ra_T J m x 6 = 5 := c1.resolve_left z1
        refine ⟨c1, c2, fun q q1 q2 => ⟨fun _ => ?_, fun _ => c5⟩⟩
        have q5 := (c3 q q1 q2).mp c5
        rw [e3 q (by omega) (fun y => by rw [y, h6] at q5; exact absurd q5 (by decide)) (by rw [q5]; decide)]
        exact q5
  · rw [ct.1, c9]
    have c := cn_one (p := fun x => decide (ra_T I m x 6 = 3 ∧ ¬ ra_T (sp_fl J m n t 0) m x 6 = 3) && decide (x < n0)) (q := fun x => decide (ra_T I m x 6 = 3 ∧ ¬ ra_T J m x 6 = 3) && decide (x < n0)) (t := t) (fun x hx => by
      show (decide _ && _) = (decide _ && _)
      by_cases y : x < n0
      · rw [decide_eq_decide.mpr (and_congr Iff.rfl (not_congr (iff3 x (by omega) hx)))]
      · rw [decide_eq_false y, Bool.and_false, Bool.and_false]) t0
    rw [if_pos (show (decide (ra_T I m t 6 = 3 ∧ ¬ ra_T (sp_fl J m n t 0) m t 6 = 3) && decide (t < n0)) = true by
      rw [decide_eq_true t0, Bool.and_true]
      exact decide_eq_true ⟨i3, by rcases t6 with y | y <;> (rw [y]; decide)⟩), if_neg (show ¬ (decide (ra_T I m t 6 = 3 ∧ ¬ ra_T J m t 6 = 3) && decide (t < n0)) = true by
      rw [decide_eq_false (show ¬ (ra_T I m t 6 = 3 ∧ ¬ ra_T J m t 6 = 3) from fun y => y.2 h6), Bool.false_and]
      decide)] at c
    rw [nI_1]
    congr 1
    have f1 : ∀ K : fI, cn_ (fun x => decide (ra_T I m x 6 = 3 ∧ ¬ ra_T K m x 6 = 3) && decide (x < n0)) n0 = cn_ (fun x => decide (ra_T I m x 6 = 3 ∧ ¬ ra_T K m x 6 = 3)) n0 := fun K => cn_eq (fun x hx => by rw [decide_eq_true hx, Bool.and_true])
    rw [f1, f1] at c
    omega
  · rw [ct.2.1]
    exact c10
  · rw [ct.2.2, c11]
    congr 1
    refine cn_eq (fun x hx => ?_)
    by_cases y : x = t
    · rw [y, decide_eq_false (show ¬ ((ra_T I m t 6 = 2 ∨ ra_T I m t 6 = 3) ∧ ra_T J m t 6 = 0) from fun z => by rw [h6] at z; exact absurd z.2 (by decide)), decide_eq_false (show ¬ ((ra_T I m t 6 = 2 ∨ ra_T I m t 6 = 3) ∧ ra_T (sp_fl J m n t 0) m t 6 = 0) from fun z => by rcases t6 with u | u <;> (rw [u] at z; exact absurd z.2 (by decide)))]
    · exact decide_eq_decide.mpr (and_congr Iff.rfl (iff0 x (by omega) y).symm)
  · have := hw x q1 q2
    rw [e3 x q2 (fun z => by rw [z, h6] at this; exact absurd this (by decide)) (by rw [this]; decide)]
    exact this
end Lap4
