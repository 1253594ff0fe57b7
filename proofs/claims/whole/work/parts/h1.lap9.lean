/-! lapse: what the reference answers -/
section Lap9
variable {B : mm_T} {I J N : Nat → Nat → Int32} {m n n' n0 T W P L V : Nat} {v : Int32}
abbrev fb_ (I : fI) (m : Nat) (v : Int32) (x : Nat) : Prop := ra_T I m x 6 = 3 ∧ ¬ v < ra_T I m x 11
def rt_ (I : fI) (m : Nat) : Nat → Nat → Nat
  | 0, x => x
  | f + 1, x => if ra_T I m x 6 = 1 then rt_ I m f (ra_T I m x 4).toNatClampNeg else x
def lv0 (I : fI) (m n : Nat) (v : Int32) : Nat := cn_ (fun x => decide (fb_ I m v x)) n
def lv1 (I : fI) (m n : Nat) (v : Int32) : Nat := cn_ (fun x => decide (fb_ I m v x ∧ ac_ I m x)) n + cn_ (fun x => decide (ra_T I m x 6 = 1 ∧ fb_ I m v (rt_ I m x x) ∧ ac_ I m (rt_ I m x x))) n
def lv2 (I : fI) (m n : Nat) (v : Int32) : Nat := cn_ (fun x => decide ((ra_T I m x 6 = 2 ∧ ¬ v < ra_T I m x 8) ∨ (fb_ I m v x ∧ ¬ ac_ I m x ∧ ¬ v < dF_ I m x))) n
theorem li_ini (h : ix_ I m n T W P L) : li_ I (bg_ I m) m n n T W P L := by
  have eT : ∀ x f, ra_T (bg_ I m) m x f = ra_T I m x f := fun x f => bg_r
  have hn := ix_4 h
  have o : ∀ a j, a ≠ m → a ≠ m + 2 → off_ (bg_ I m) m a j = I a j := fun a j q1 q2 => by
    unfold off_
    rw [i2_ua q1]
    unfold bg_
    rw [if_neg (by omega), if_neg (by omega), if_neg (by omega)]
  have om : ∀ j, (j = 9 ∨ j = 10 ∨ j = 11) → bg_ I m m j = 0 := fun j q => by
    unfold bg_
    rw [if_neg (by omega), if_neg (by omega), if_pos ⟨rfl, by omega⟩]
  refine ⟨⟨?_, ix_mix h (off_r.trans bg_row) ?_ i2_us (fun j => ?_) (fun t ht => ?_) (fun t q1 q2 => ?_)⟩, Nat.le_refl _, fun x hx => ?_, ⟨?_, ?_, ?_⟩, fun x q1 q2 => by omega, bg_r, bg_r⟩
  · unfold bg_
    rw [if_neg (by omega), if_pos ⟨rfl, rfl⟩]
  · obtain ⟨x, y1, y2⟩ := h.2.2.2.2.2.1
    refine ⟨x, y1, ?_⟩
    rw [← y2]
    unfold off_
    rw [i2_uj (by decide)]
    unfold bg_
    rw [if_neg (by omega), if_neg (by omega), if_neg (by omega)]
  · rw [o _ _ (by omega) (by omega), o _ _ (by omega) (by omega)]
    exact ix_z h j
  · rw [o _ _ (by omega) (by omega)]
    exact h.2.2.2.2.2.2.2.2 t ht
  · rw [o _ _ (by omega) (by omega)]
    exact h.2.1.2.2.2 t q1 q2
  · simp only [eT]
    refine ⟨fun z => Or.inl ⟨z, trivial, trivial⟩, fun z => Or.inl ⟨z, trivial⟩, fun z => ⟨Or.inl z, trivial, fun q q1 q2 => ?_⟩, fun _ _ _ => trivial⟩
    obtain ⟨q', a1, a2, a3⟩ := h.1.2.2.2 x hx z
    rw [q2, nI_eq (by omega) (by omega)] at a2
    rw [← a2] at a3
    refine ⟨fun y => ?_, fun y => ?_⟩
    · rw [z] at y; exact absurd y (by decide)
    · rw [y] at a3; exact absurd a3 (by decide)
  · rw [om 9 (by omega)]
    simp only [eT]
    rw [cn_0 (fun x _ => decide_eq_false (fun q => q.2 q.1))]
    rfl
  · rw [om 10 (by omega), bg_r]
  · rw [om 11 (by omega)]
    simp only [eT]
    rw [cn_0 (fun x _ => decide_eq_false (fun q => by
      rcases q.1 with y | y <;> (rw [y] at q; exact absurd q.2 (by decide))))]
    rfl
theorem v9_e (h : li_ I J m n0 n T W P L) (hb : bd_ J m n) (h0 : J (m + 1) 0 = v) : J m 9 = nI (lv0 I m n0 v) := by
  rw [h.2.2.2.1.1]
  congr 1
  refine cn_eq (fun x hx => decide_eq_decide.mpr ?_)
  obtain ⟨a, b, c, d⟩ := h.2.2.1 x hx
  have hn := h.2.1
  constructor
  · intro z
    rcases a z.1 with y | y
    · exact absurd y.1 z.2
    · exact ⟨z.1, by rw [← h0]; exact y.1⟩
  · intro z
    refine ⟨z.1, fun y => z.2 ?_⟩
    have := hb.1 x (by omega) y
    rw [h0, (l3_of h (by omega) y).2.2.1] at this
    exact this
theorem v11_e (h : li_ I J m n0 n T W P L) (hb : bd_ J m n) (h0 : J (m + 1) 0 = v) : J m 11 = nI (lv2 I m n0 v) := by
  rw [h.2.2.2.1.2.2]
  congr 1
  refine cn_eq (fun x hx => decide_eq_decide.mpr ?_)
  obtain ⟨a, b, c, d⟩ := h.2.2.1 x hx
  have hn := h.2.1
  rw [h0] at a b
  constructor
  · rintro ⟨z1 | z1, z2⟩
    · rcases b z1 with y | y
      · rw [y.1] at z2; exact absurd z2 (by decide)
      · exact Or.inl ⟨z1, y.2⟩
    · rcases a z1 with y | ⟨y0, y | ⟨y1, y | y⟩⟩
      · rw [y.1] at z2; exact absurd z2 (by decide)
      · rw [y.2] at z2; exact absurd z2 (by decide)
      · rw [y.1] at z2; exact absurd z2 (by decide)
      · exact Or.inr ⟨⟨z1, y0⟩, y1, y.2⟩
  · rintro (⟨z1, z2⟩ | ⟨⟨z1, z2⟩, z3, z4⟩)
    · rcases b z1 with y | y
      · have := hb.2 x (by omega) y.1
        rw [h0, y.2] at this
        exact absurd this z2
      · exact ⟨Or.inl z1, y.1⟩
    · rcases a z1 with y | ⟨y0, y | ⟨y1, y | y⟩⟩
      · have := hb.1 x (by omega) y.1
        rw [h0, y.2.1] at this
        exact absurd this z2
      · exact absurd y.1 z3
      · have := hb.2 x (by omega) y.1
        rw [h0, y.2] at this
        exact absurd this z4
      · exact ⟨Or.inr z1, y.1⟩
theorem rt_5 (hi : ix_ I m n0 T W P L) {T' : Nat} (h : li_ I J m n0 n T' W P L) (hb : bd_ J m n) (h0 : J (m + 1) 0 = v) : ∀ (f x : Nat), x ≤ f → x < n0 → ra_T I m x 6 ≤ 3 → (ra_T J m x 6 = 5 ↔ fb_ I m v (rt_ I m f x) ∧ ac_ I m (rt_ I m f x)) := by
  have hn0 := ix_4 hi
  have base : ∀ x, x < n0 → ra_T I m x 6 ≤ 3 → ¬ ra_T I m x 6 = 1 → (ra_T J m x 6 = 5 ↔ fb_ I m v x ∧ ac_ I m x) := fun x hx h3 h1 => by
    obtain ⟨a, b, c, d⟩ := h.2.2.1 x hx
    have hn := h.2.1
    rw [h0] at a b
    constructor
    · intro z
      rcases (st_le (ix_tv hi) hx).mp h3 with y | y | y | y
      · rw [d (by rw [y]; decide) (by rw [y]; decide) (by rw [y]; decide), y] at z
        exact absurd z (by decide)
      · exact absurd y h1
      · rcases b y with u | u <;> (rw [u.1] at z; exact absurd z (by decide))
      · rcases a y with u | ⟨u0, u | ⟨u1, u | u⟩⟩
        · rw [u.1] at z; exact absurd z (by decide)
        · exact ⟨⟨y, u0⟩, u.1⟩
        · rw [u.1] at z; exact absurd z (by decide)
        · rw [u.1] at z; exact absurd z (by decide)
    · rintro ⟨⟨z1, z2⟩, z3⟩
      rcases a z1 with u | ⟨u0, u | ⟨u1, u | u⟩⟩
      · have := hb.1 x (by omega) u.1
        rw [h0, u.2.1] at this
        exact absurd this z2
      · exact u.2
      · exact absurd z3 u1
      · exact absurd z3 u1
  intro f
  induction f with
  | zero =>
    intro x hf hx h3
    have h1 : ¬ ra_T I m x 6 = 1 := fun z => by
      obtain ⟨q, q1, -⟩ := hi.1.2.2.2 x hx z
      omega
    exact base x hx h3 h1
  | succ f ih =>
    intro x hf hx h3
    by_cases h1 : ra_T I m x 6 = 1
    · obtain ⟨q, q1, q2, q3⟩ := hi.1.2.2.2 x hx h1
      have e : rt_ I m (f + 1) x = rt_ I m f q := by
        show (if ra_T I m x 6 = 1 then rt_ I m f (ra_T I m x 4).toNatClampNeg else x) = _
        rw [if_pos h1, q2, nI_clamp (by omega)]
      rw [e, ← ih q (by omega) (by omega) q3]
      exact (h.2.2.1 x hx).2.2.1 h1 |>.2.2 q (by omega) q2
    · have e : rt_ I m (f + 1) x = x := if_neg h1
      rw [e]
      exact base x hx h3 h1
theorem cn_ext {p : Nat → Bool} : ∀ {j n : Nat}, (∀ x, n ≤ x → x < n + j → p x = false) → cn_ p (n + j) = cn_ p n
  | 0, _, _ => rfl
  | j + 1, n, h => by
    show cn_ p (n + j + 1) = _
    rw [cn_f (h (n + j) (by omega) (by omega)), cn_ext (fun x q1 q2 => h x q1 (by omega))]
theorem cn_dj {p q r : Nat → Bool} : ∀ {n : Nat}, (∀ i, i < n → r i = (p i || q i) ∧ (p i = true → q i = false)) → cn_ r n = cn_ p n + cn_ q n
  | 0, _ => rfl
  | n + 1, h => by
    have ih := cn_dj (p := p) (q := q) (r := r) (n := n) (fun i hi => h i (by omega))
    obtain ⟨e1, e2⟩ := h n (by omega)
    cases hp : p n with
    | true =>
      rw [hp] at e1
      rw [cn_t (by rw [e1]; rfl), cn_t hp, cn_f (e2 hp)]
      omega
    | false =>
      rw [hp, Bool.false_or] at e1
      cases hq : q n with
      | true =>
        rw [cn_t (by rw [e1, hq]), cn_f hp, cn_t hq]
        omega
      | false =>
        rw [cn_f (by rw [e1, hq]), cn_f hp, cn_f hq]
        omega
theorem v10_e (hi : ix_ I m n0 T W P L) {T' : Nat} (h : li_ I J m n0 n T' W P L) (hb : bd_ J m n) (h0 : J (m + 1) 0 = v) : J m 10 = nI (lv1 I m n0 v) := by
  have c10 := h.2.2.2.1.2.1
  have hn := h.2.1
  have j3 := ivS_n h.1.2.2.1.2.1 (ix_4 h.1.2)
  simp only [offT, off_r] at j3
  have i3 := ivS_n hi.2.1.2.1 (ix_4 hi)
  have e1 : cn_ (fun x => decide (ra_T J m x 6 = 5)) n = cn_ (fun x => decide (ra_T J m x 6 = 5)) n0 := by
    have := cn_ext (p := fun x => decide (ra_T J m x 6 = 5)) (j := n - n0) (n := n0) (fun x q1 q2 => decide_eq_false (by rw [h.2.2.2.2.1 x q1 (by omega)]; decide))
    rw [show n0 + (n - n0) = n by omega] at this
    exact this
  have rt := rt_5 hi h hb h0
  have e2 : cn_ (fun x => decide (ra_T J m x 6 = 5)) n0 = lv1 I m n0 v + cn_ (fun x => decide (ra_T I m x 6 = 5)) n0 := by
    unfold lv1
    have s1 := cn_dj (n := n0) (p := fun x => decide (fb_ I m v x ∧ ac_ I m x)) (q := fun x => decide (ra_T I m x 6 = 1 ∧ fb_ I m v (rt_ I m x x) ∧ ac_ I m (rt_ I m x x))) (r := fun x => decide (fb_ I m v x ∧ ac_ I m x) || decide (ra_T I m x 6 = 1 ∧ fb_ I m v (rt_ I m x x) ∧ ac_ I m (rt_ I m x x))) (fun x hx => ⟨rfl, fun z => decide_eq_false (fun y => by
      have := (of_decide_eq_true z).1.1
      rw [y.1] at this
      exact absurd this (by decide))⟩)
    have s2 := cn_dj (n := n0) (p := fun x => decide (fb_ I m v x ∧ ac_ I m x) || decide (ra_T I m x 6 = 1 ∧ fb_ I m v (rt_ I m x x) ∧ ac_ I m (rt_ I m x x))) (q := fun x => decide (ra_T I m x 6 = 5)) (r := fun x => decide (ra_T J m x 6 = 5)) (fun x hx => ⟨?_, fun z => decide_eq_false (fun y => ?_)⟩)
    · rw [s2, s1]
    · show decide _ = ((decide _ || decide _) || decide _)
      rw [← Bool.decide_or, ← Bool.decide_or, decide_eq_decide]
      by_cases u : ra_T I m x 6 ≤ 3
      · rw [rt x x (Nat.le_refl _) hx u]
        have n5 : ¬ ra_T I m x 6 = 5 := fun y => by rw [y] at u; exact absurd u (by decide)
        by_cases w1 : ra_T I m x 6 = 1
        · have nf : ¬ fb_ I m v x := fun y => by
            have := y.1
            rw [w1] at this
            exact absurd this (by decide)
          exact ⟨fun y => Or.inl (Or.inr ⟨w1, y⟩), fun y => by
            rcases y with (y | y) | y
            · exact absurd y.1 nf
            · exact y.2
            · exact absurd y n5⟩
        · have er : rt_ I m x x = x := by
            cases x with
            | zero => rfl
            | succ x => exact if_neg w1
          rw [er]
          exact ⟨fun y => Or.inl (Or.inl y), fun y => by
            rcases y with (y | y) | y
            · exact y
            · exact absurd y.1 w1
            · exact absurd y n5⟩
      · have w1 : ¬ ra_T I m x 6 = 1 := fun y => u (by rw [y]; decide)
        have w2 : ¬ ra_T I m x 6 = 2 := fun y => u (by rw [y]; decide)
        have w3 : ¬ ra_T I m x 6 = 3 := fun y => u (by rw [y]; decide)
        rw [(h.2.2.1 x hx).2.2.2 w1 w2 w3]
        exact ⟨fun y => Or.inr y, fun y => by
          rcases y with (y | y) | y
          · exact absurd y.1.1 w3
          · exact absurd y.1 w1
          · exact y⟩
    · rw [Bool.or_eq_true] at z
      rcases z with z | z
      · have := (of_decide_eq_true z).1.1
        rw [y] at this
        exact absurd this (by decide)
      · have := (of_decide_eq_true z).1
        rw [y] at this
        exact absurd this (by decide)
  rw [j3, e1, e2, i3, ← nI_add] at c10
  have : J m 10 = J m 10 - (nI (lv1 I m n0 v) + nI (cn_ (fun x => decide (ra_T I m x 6 = 5)) n0)) + (nI (lv1 I m n0 v) + nI (cn_ (fun x => decide (ra_T I m x 6 = 5)) n0)) := by grind
  rw [this, c10]
  grind
end Lap9
