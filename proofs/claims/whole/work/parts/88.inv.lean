/-! THE INVARIANT of the reference's ints, piece by piece -/
section Inv
variable {I J : Nat → Nat → Int32} {m n n' T W P L T' W' P' L' : Nat}
def ivZ (I : Nat → Nat → Int32) (m n : Nat) : Prop := ∀ t, n ≤ t → t < 400 → I (m + 4) t = 0
/-- who is out ends later than now -/
def ivE (I : Nat → Nat → Int32) (m n : Nat) : Prop := ∀ t, t < n → ra_T I m t 6 = 3 → I (m + 1) 0 < ra_T I m t 11
def ix_ (I : Nat → Nat → Int32) (m n T W P L : Nat) : Prop := (ivT I m n ∧ ivL I m ∧ ivW I m n ∧ ivH I m n) ∧ (ivC I m n ∧ ivS I m n ∧ ivR I m n ∧ ivZ I m n) ∧ ivN I m n T W P L
theorem ivN_up (h : ivN I m n T W P L) (h1 : T ≤ T') (h2 : W ≤ W') (h3 : P ≤ P') (h4 : L ≤ L') : ivN I m n T' W' P' L' := by
  obtain ⟨⟨a, a1, a2⟩, ⟨b, b1, b2⟩, c, ⟨d, d1, d2⟩, e⟩ := h
  exact ⟨⟨a, by omega, a2⟩, ⟨b, by omega, b2⟩, fun l hl => by obtain ⟨p, p1, p2⟩ := c l hl; exact ⟨p, by omega, p2⟩, ⟨d, by omega, d2⟩, e⟩
theorem ix_up (h : ix_ I m n T W P L) (h1 : T ≤ T') (h2 : W ≤ W') (h3 : P ≤ P') (h4 : L ≤ L') : ix_ I m n T' W' P' L' := ⟨h.1, h.2.1, ivN_up h.2.2 h1 h2 h3 h4⟩
/-! what the contracts ask -/
theorem ix_tv (h : ix_ I m n T W P L) : tv_ I m n := h.1.1.1
theorem ix_bl (h : ix_ I m n T W P L) : bl_ I m n := h.1.1.2.1
theorem ix_4 (h : ix_ I m n T W P L) : n ≤ 400 := h.1.1.1.2.1
theorem ix_1 (h : ix_ I m n T W P L) : I (m + 1) 1 = nI n := h.1.1.1.1
theorem ix_8 (h : ix_ I m n T W P L) : I m 8 = 0 := h.2.2.2.2.2.2.1
theorem ix_z (h : ix_ I m n T W P L) : zr_ I m := h.2.2.2.2.2.2.2.1
theorem ix_rb (h : ix_ I m n T W P L) (hP : P < 2147483648) : rb_ I m n (nI P) := by
  refine ⟨ix_1 h, ix_4 h, fun t ht => ((ix_tv h).2.2 t ht).1, fun l hl => ?_⟩
  obtain ⟨p, p1, p2⟩ := h.2.2.2.2.1 l hl
  rw [p2]
  exact ⟨nI_pos' (by omega), nI_le p1 (by omega)⟩
theorem ix_lb (h : ix_ I m n T W P L) : lb_ I m L := fun _ => by
  obtain ⟨x, x1, x2⟩ := h.2.2.2.2.2.1
  exact ⟨x, x1, x2⟩
theorem ix_log (h : ix_ I m n T W P L) : ∃ x, x ≤ L ∧ I m 6 = nI x := h.2.2.2.2.2.1
theorem ix_dv (h : ix_ I m n T W P L) : dv_ I m n L := ⟨ix_1 h, ix_4 h, ix_bl h, fun t ht _ => h.2.2.2.2.2.2.2.2 t ht, ivS_n h.2.1.2.1 (ix_4 h), ix_lb h⟩
theorem ix_rk (h : ix_ I m n T W P L) : rk_ok I m n := by
  intro t ht
  obtain ⟨⟨p, hp, e1⟩, -, -, ⟨c, hc, e5⟩, -⟩ := h.1.1.2.2 t ht
  obtain ⟨a, ha, -, ea⟩ := h.1.2.1.2.1
  unfold ra_rank
  have e1' : I (m + 1) (200 + 14 * t + 1) = nI p := e1
  have e5' : I (m + 1) (200 + 14 * t + 5) = nI c := e5
  rw [e1', e5', ea, pk_mul]
  have hpa : p * a < 1000 := by
    have h1 : p * a ≤ 9 * 99 := Nat.mul_le_mul (by omega) (by omega)
    omega
  rw [pk_sub_toInt (by omega) (by omega)]
  omega
theorem ix_wz (h : ix_ I m n T W P L) : wz_ I m n := ⟨fun l hl => (h.1.2.1.1 l hl).1, fun t ht => (h.1.1.2.2 t ht).2.1⟩
theorem ix_hW (h : ix_ I m n T W P L) : ∀ w, w < 6 → ra_W I m w 0 = -1 ∨ ∃ t, t < n ∧ ra_W I m w 0 = nI t := fun w hw => (h.1.2.2.1.2.2 w hw).imp id (fun ⟨t, q1, q2, _⟩ => ⟨t, q1, q2⟩)
/-! the pieces over other ints -/
theorem ivT_o (h : ivT I m n) (h1 : J (m + 1) 1 = I (m + 1) 1) (hT : ∀ t f, t < n → f < 6 → ra_T J m t f = ra_T I m t f) (h6 : ∀ t, t < n → ∃ s, s < 7 ∧ ra_T J m t 6 = nI s) (h7 : ∀ t, t < n → ra_T J m t 6 ≤ 3 → ∃ r, r < 9 ∧ ra_T J m t 7 = nI r) : ivT J m n := by
  obtain ⟨a, b, c⟩ := h
  refine ⟨⟨h1.trans a.1, a.2.1, fun t ht => ⟨?_, h6 t ht⟩⟩, fun t ht => ?_, fun t ht => ?_⟩
  · rw [hT t 0 ht (by decide)]; exact (a.2.2 t ht).1
  · rw [hT t 4 ht (by decide)]; exact b t ht
  · obtain ⟨c1, c2, c3, c4, c5⟩ := c t ht
    rw [hT t 1 ht (by decide), hT t 2 ht (by decide), hT t 3 ht (by decide), hT t 5 ht (by decide)]
    exact ⟨c1, c2, c3, c4, h7 t ht⟩
theorem ivL_o (h : ivL I m) (hL : ∀ l f, l < 5 → f < 4 → ra_L J m l f = ra_L I m l f) (hr : ∀ j, 4 ≤ j → j < 10 → J (m + 1) j = I (m + 1) j) : ivL J m := by
  obtain ⟨a, b1, b2, b3, b4, b5, b6⟩ := h
  refine ⟨fun l hl => ?_, by rw [hr 4 (by omega) (by omega)]; exact b1, by rw [hr 5 (by omega) (by omega)]; exact b2, by rw [hr 6 (by omega) (by omega)]; exact b3, by rw [hr 7 (by omega) (by omega)]; exact b4, by rw [hr 8 (by omega) (by omega)]; exact b5, by rw [hr 9 (by omega) (by omega)]; exact b6⟩
  rw [hL l 0 hl (by decide), hL l 1 hl (by decide), hL l 2 hl (by decide), hL l 3 hl (by decide)]
  exact a l hl
theorem ivW_o (h : ivW I m n) (hT : ∀ t f, t < n → 6 ≤ f → f < 12 → f ≠ 7 → ra_T J m t f = ra_T I m t f) (hW : ∀ w, w < 6 → ra_W J m w 0 = ra_W I m w 0) : ivW J m n := by
  obtain ⟨a, b, c⟩ := h
  refine ⟨fun t ht => ?_, fun t ht => ?_, fun w hw => ?_⟩
  · rw [hT t 6 ht (by decide) (by decide) (by decide), hT t 9 ht (by decide) (by decide) (by decide), hT t 10 ht (by decide) (by decide) (by decide), hT t 11 ht (by decide) (by decide) (by decide)]
    rcases a t ht with ⟨a1, w, k, e, a2, a3, a4, a5⟩ | a1
    · exact Or.inl ⟨a1, w, k, e, a2, a3, (hW w a2).trans a4, a5⟩
    · exact Or.inr a1
  · rw [hT t 6 ht (by decide) (by decide) (by decide), hT t 8 ht (by decide) (by decide) (by decide)]
    exact b t ht
  · rw [hW w hw]
    rcases c w hw with c1 | ⟨t, c1, c2, c3, c4⟩
    · exact Or.inl c1
    · exact Or.inr ⟨t, c1, c2, by rw [hT t 6 c1 (by decide) (by decide) (by decide)]; exact c3, by rw [hT t 9 c1 (by decide) (by decide) (by decide)]; exact c4⟩
theorem ivS_o (h : ivS I m n) (h3 : J (m + 1) 3 = I (m + 1) 3) (h5 : ∀ j, 5800 ≤ j → J (m + 1) j = I (m + 1) j) (h6 : ∀ t, t < n → (ra_T J m t 6 = 5 ↔ ra_T I m t 6 = 5)) : ivS J m n := by
  obtain ⟨as, a1, a2, a3, a4⟩ := h
  refine ⟨as, h3.trans a1, a2, fun t => ?_, fun i x q => (h5 _ (by omega)).trans (a4 i x q)⟩
  rw [a3 t]
  exact ⟨fun q => ⟨q.1, (h6 t q.1).mpr q.2⟩, fun q => ⟨q.1, (h6 t q.1).mp q.2⟩⟩
theorem cn_sub {p q : Nat → Bool} (h : ∀ t, t < n → p t = true → q t = true) : cn_ p n ≤ cn_ q n := by
  have e1 : cn_ p n = cn_ (fun i => p i && decide (i < n)) n := cn_eq (fun i hi => by simp [hi])
  have e2 : cn_ q n = cn_ (fun i => q i && decide (i < n)) n := cn_eq (fun i hi => by simp [hi])
  rw [e1, e2]
  refine cn_mono (fun i z => ?_) n
  rw [Bool.and_eq_true, decide_eq_true_eq] at z ⊢
  exact ⟨h i z.2 z.1, z.2⟩
theorem ivR_o (h : ivR I m n) (h6 : ∀ t, t < n → ra_T J m t 6 ≤ 3 → ra_T I m t 6 ≤ 3) : ivR J m n := by
  unfold ivR at h ⊢
  refine Nat.le_trans (cn_sub (fun t ht q => ?_)) h
  unfold ra_st at q ⊢
  rw [decide_eq_true_eq] at q ⊢
  exact ⟨Or.inl rfl, h6 t ht q.2⟩
theorem ivC_o (h : ivC I m n) (h3 : ∀ l, l < 5 → ra_L J m l 3 = ra_L I m l 3) (h0 : ∀ t, t < n → ra_T J m t 0 = ra_T I m t 0) (h6 : ∀ t, t < n → ra_T I m t 6 ≤ 3 → ra_T J m t 6 ≤ 3) : ivC J m n := by
  intro l hl q z
  rw [h3 l hl] at q
  have := h l hl q
  have hle : cn_ (ra_st I m (nI l)) n ≤ cn_ (ra_st J m (nI l)) n := cn_sub (fun t ht y => by
    unfold ra_st at y ⊢
    rw [decide_eq_true_eq] at y ⊢
    exact ⟨by rw [h0 t ht]; exact y.1, h6 t ht y.2⟩)
  omega
theorem ivC_cls : ivC (ra_cls I m n 5) m n := by
  intro l hl q z
  rw [cls_3 hl] at q
  rw [cn_eq (p := ra_st (ra_cls I m n 5) m (nI l)) (q := ra_st I m (nI l)) (fun _ _ => cls_st)] at z
  unfold opn_ at q
  by_cases y : ra_L I m l 3 = 1 ∧ cn_ (ra_st I m (nI l)) n = 0
  · rw [if_pos y] at q
    exact absurd q (by decide)
  · rw [if_neg y] at q
    exact y ⟨q, z⟩
theorem ivH_o (h : ivH I m n) (h4 : ∀ t, t < n → ra_T J m t 4 = ra_T I m t 4) (h1 : ∀ t, t < n → ra_T J m t 6 = 1 → ra_T I m t 6 = 1) (h6 : ∀ t q, t < n → ra_T J m t 6 = 1 → ra_T I m t 4 = nI q → q < n → ra_T I m q 6 ≤ 3 → ra_T J m q 6 ≤ 3) : ivH J m n := by
  intro t ht q
  obtain ⟨p, p1, p2, p3⟩ := h t ht (h1 t ht q)
  exact ⟨p, p1, (h4 t ht).trans p2, h6 t p ht q p2 (by omega) p3⟩
theorem ivN_o (h : ivN I m n T W P L) (h0 : J (m + 1) 0 = I (m + 1) 0) (h2 : J (m + 1) 2 = I (m + 1) 2) (hL : ∀ l, l < 5 → ∃ p, p ≤ P' ∧ ra_L J m l 4 = nI p) (h6 : ∃ x, x ≤ L' ∧ J m 6 = nI x) (h8 : J m 8 = I m 8) (hz : ∀ j, J (m + 7) j = I (m + 7) j ∧ J (m + 8) j = I (m + 8) j) (h4 : ∀ t, t < n → ∃ c, c ≤ 20 ∧ J (m + 4) t = nI c) : ivN J m n T W P' L' := by
  obtain ⟨a, b, c, d, e, f, g⟩ := h
  exact ⟨by rw [h0]; exact a, by rw [h2]; exact b, hL, h6, h8.trans e, fun j => ⟨(hz j).1.trans (f j).1, (hz j).2.trans (f j).2⟩, h4⟩
theorem rb_4 {pb : Int32} (h : rb_ J m n (nI P)) (hP : P < 2147483648) : ∀ l, l < 5 → ∃ p, p ≤ P ∧ ra_L J m l 4 = nI p := fun l hl => i32_in (nI_toInt (by omega)) (h.2.2.2 l hl)
theorem sd3_i {x : Int32} {s : Nat} (hs : s < 7) (e : x = nI s) : x ≤ 3 ↔ s ≤ 3 := by
  rw [e]
  exact nI_leI (by omega) (by decide)
end Inv
