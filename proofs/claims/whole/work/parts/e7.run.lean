/-! the run on paper: the ints -/
section Run1
variable {I J N : Nat → Nat → Int32} {m n Pb t : Nat} {pb : Int32}
def un_ (J : fI) (m n : Nat) : Nat := cn_ (fun t => decide (ra_T J m t 6 = 0 ∨ ra_T J m t 6 = 1 ∨ ra_T J m t 6 = 2)) n
def ou_ (J : fI) (m n : Nat) : Nat := cn_ (fun t => decide (ra_T J m t 6 = 3)) n
def nu_ (J : fI) (m n : Nat) : Nat := cn_ (ra_st J m (-1)) n + rc2_ J m n
theorem fre_6 (hb : rb_ J m n pb) {x : Nat} : ra_T (sp_frees J m n t) m x 6 = if x < n ∧ x ≠ t ∧ ra_T J m x 6 = 1 ∧ ra_T J m x 4 = nI t then 0 else if x = t then 4 else ra_T J m x 6 := by
  have e6 : ra_T (i2_u J (m + 1) (200 + 14 * t + 6) 4) m x 6 = if x = t then 4 else ra_T J m x 6 := by
    unfold ra_T
    rw [i2_at]
    by_cases z : x = t
    · rw [if_pos z, if_pos ⟨rfl, by omega⟩]
    · rw [if_neg z, if_neg (by omega)]
  have e4 : ra_T (i2_u J (m + 1) (200 + 14 * t + 6) 4) m x 4 = ra_T J m x 4 := i2_uj (by omega)
  unfold sp_frees
  rw [frs_s (fun t' q => (hs_lt q).1) (rb_T6 hb), e6]
  have hm : x ∈ sp_hs (i2_u J (m + 1) (200 + 14 * t + 6) 4) m n (nI t) ↔ x < n ∧ x ≠ t ∧ ra_T J m x 6 = 1 ∧ ra_T J m x 4 = nI t := by
    unfold sp_hs
    rw [List.mem_filter, List.mem_range]
    unfold sp_hp
    rw [decide_eq_true_eq, e6, e4]
    by_cases z : x = t
    · rw [if_pos z]
      exact ⟨fun q => absurd q.2.1 (by decide), fun q => absurd z q.2.1⟩
    · rw [if_neg z]
      exact ⟨fun q => ⟨q.1, z, q.2⟩, fun q => ⟨q.1, q.2.2⟩⟩
  by_cases z : x ∈ sp_hs (i2_u J (m + 1) (200 + 14 * t + 6) 4) m n (nI t)
  · rw [if_pos z, if_pos (hm.mp z)]
  · rw [if_neg z, if_neg (fun q => z (hm.mpr q))]
theorem fre_o (hb : rb_ J m n pb) {a j : Nat} (h : a ≠ m + 1 ∨ (¬ (200 ≤ j ∧ (j - 200) % 14 = 6) ∧ (j < 10 ∨ 60 ≤ j ∨ j % 10 ≠ 4))) (h6 : a ≠ m + 6) (h0 : a ≠ m ∨ j ≠ 6) : sp_frees J m n t a j = J a j := by
  unfold sp_frees
  rw [frs_o (fun t' q => (hs_lt q).1) (rb_T6 hb) (h.imp id (fun q => ⟨fun t' _ => by omega, q.2⟩)) h6 h0, i2_at, if_neg (by omega)]
theorem rb_frs : ∀ {ts : List Nat} {J : fI}, (∀ t, t ∈ ts → t < n) → rb_ J m n pb → rb_ (sp_frs J m n ts) m n pb
  | [], J, _, h => h
  | t :: ts, J, hm, h => by
    show rb_ (sp_frs (sp_fr1 J m n t) m n ts) m n pb
    exact rb_frs (fun t' q => hm t' (List.mem_cons_of_mem _ q)) (rb_fr1 h (hm t List.mem_cons_self))
theorem rb_fre (hb : rb_ J m n pb) : rb_ (sp_frees J m n t) m n pb := rb_frs (fun t' q => (hs_lt q).1) (rb_T6 hb)
def pp_ (J : fI) (m n Pb : Nat) : Prop := (tv_ J m n ∧ bl_ J m n ∧ ivH J m n ∧ wz_ J m n ∧ rk_ok J m n) ∧ (∀ l, l < 5 → ∃ k, 1 ≤ k ∧ k < 7 ∧ ra_L J m l 2 = nI k) ∧ (∃ q, q + 50400 * un_ J m n ≤ Pb ∧ rb_ J m n (nI q)) ∧ (∀ t, t < n → ra_T J m t 6 = 2 → ∃ d, d < 1000000000 ∧ ra_T J m t 8 = nI d) ∧ Pb < 2147483648
def sj_6 (m : Nat) (J N : fI) : Prop := ∀ j, j ≠ 0 → ¬ (10 ≤ j ∧ j < 60 ∧ j % 10 = 4) → ¬ (200 ≤ j ∧ ((j - 200) % 14 = 6 ∨ (j - 200) % 14 = 8)) → N (m + 1) j = J (m + 1) j
theorem sj_T (g : sj_6 m J N) {t f : Nat} (hf : f < 14) (h6 : f ≠ 6) (h8 : f ≠ 8) : ra_T N m t f = ra_T J m t f := g _ (by omega) (by omega) (by omega)
theorem sj_L (g : sj_6 m J N) {l f : Nat} (hl : l < 5) (hf : f < 10) (h4 : f ≠ 4) : ra_L N m l f = ra_L J m l f := g _ (by omega) (by omega) (by omega)
theorem pp_mk (h : pp_ J m n Pb) (g : sj_6 m J N) (h6 : ∀ t, t < n → ∃ s, s < 7 ∧ ra_T N m t 6 = nI s) (hH : ivH N m n) (hq : ∃ q, q + 50400 * un_ N m n ≤ Pb ∧ rb_ N m n (nI q)) (h8 : ∀ t, t < n → ra_T N m t 6 = 2 → ∃ d, d < 1000000000 ∧ ra_T N m t 8 = nI d) : pp_ N m n Pb := by
  obtain ⟨⟨a1, a2, a3, a4, a5⟩, b, c, d, e⟩ := h
  refine ⟨⟨⟨(g 1 (by omega) (by omega) (by omega)).trans a1.1, a1.2.1, fun t q => ⟨?_, h6 t q⟩⟩, fun t q => ?_, hH, wz_row a4 (fun t _ => sj_T g (by decide) (by decide) (by decide)) (fun l q => sj_L g q (by decide) (by decide)), rk_row a5 (fun t _ => ⟨sj_T g (by decide) (by decide) (by decide), sj_T g (by decide) (by decide) (by decide)⟩) (g 4 (by omega) (by omega) (by omega))⟩, fun l q => ?_, hq, h8, e⟩
  · rw [sj_T g (by decide) (by decide) (by decide)]
    exact (a1.2.2 t q).1
  · rw [sj_T g (by decide) (by decide) (by decide)]
    exact a2 t q
  · rw [sj_L g q (by decide) (by decide)]
    exact b l q
theorem pp_rb (h : pp_ J m n Pb) : ∃ q, q ≤ Pb ∧ rb_ J m n (nI q) := by
  obtain ⟨q, q1, q2⟩ := h.2.2.1
  exact ⟨q, by omega, q2⟩
theorem sj_fre (hb : rb_ J m n pb) : sj_6 m J (sp_frees J m n t) := fun j q1 q2 q3 => fre_o hb (by omega) (by omega) (by omega)
theorem sj_wk1 (hb : rb_ J m n pb) (ht : t < n) : sj_6 m J (sp_wk1 J m n t) := fun j q1 q2 q3 => wk1_o hb ht (by omega) (by omega) (by omega)
theorem sj_srv {l : Nat} (hl : l < 5) : sj_6 m J (sp_srv J m t l) := fun j q1 q2 q3 => srv_o (by omega)
theorem st_le (h : tv_ J m n) (ht : t < n) : ra_T J m t 6 ≤ 3 ↔ ra_T J m t 6 = 0 ∨ ra_T J m t 6 = 1 ∨ ra_T J m t 6 = 2 ∨ ra_T J m t 6 = 3 := by
  obtain ⟨-, s, hs, e⟩ := h.2.2 t ht
  rw [e, show (3 : Int32) = nI 3 from rfl, show (0 : Int32) = nI 0 from rfl, show (1 : Int32) = nI 1 from rfl, show (2 : Int32) = nI 2 from rfl, nI_leI (by omega) (by omega), nI_eq (by omega) (by omega), nI_eq (by omega) (by omega), nI_eq (by omega) (by omega), nI_eq (by omega) (by omega)]
  omega
theorem un_fre (hb : rb_ J m n pb) (h3 : ra_T J m t 6 = 3) : un_ (sp_frees J m n t) m n = un_ J m n := cn_eq (fun x hx => by
  rw [fre_6 hb]
  by_cases z : x < n ∧ x ≠ t ∧ ra_T J m x 6 = 1 ∧ ra_T J m x 4 = nI t
  · rw [if_pos z, z.2.2.1]
    rfl
  · rw [if_neg z]
    by_cases y : x = t
    · rw [if_pos y, y, h3]
      rfl
    · rw [if_neg y])
theorem pp_fre (h : pp_ J m n Pb) (ht : t < n) (h3 : ra_T J m t 6 = 3) : pp_ (sp_frees J m n t) m n Pb := by
  obtain ⟨q, q1, hb⟩ := h.2.2.1
  have f6 : ∀ x, ra_T (sp_frees J m n t) m x 6 = _ := fun x => fre_6 hb
  have fle : ∀ x, x < n → x ≠ t → ra_T J m x 6 ≤ 3 → ra_T (sp_frees J m n t) m x 6 ≤ 3 := fun x q1 q2 q3 => by
    rw [f6 x]
    split
    · decide
    · exact q3
  have gT : ∀ x f, f < 14 → f ≠ 6 → ra_T (sp_frees J m n t) m x f = ra_T J m x f := fun x f _ _ => fre_o hb (by omega) (by omega) (by omega)
  refine pp_mk h (sj_fre hb) (fun x hx => ?_) (fun x hx h1 => ?_) ⟨q, by rw [un_fre hb h3]; exact q1, rb_fre hb⟩ (fun x hx h2 => ?_)
  · rw [f6 x]
    split
    · exact ⟨0, by decide, rfl⟩
    · split
      · exact ⟨4, by decide, rfl⟩
      · exact (h.1.1.2.2 x hx).2
  · rw [f6 x] at h1
    by_cases z : x < n ∧ x ≠ t ∧ ra_T J m x 6 = 1 ∧ ra_T J m x 4 = nI t
    · rw [if_pos z] at h1
      exact absurd h1 (by decide)
    · rw [if_neg z] at h1
      by_cases y : x = t
      · rw [if_pos y] at h1
        exact absurd h1 (by decide)
      · rw [if_neg y] at h1
        obtain ⟨b, b1, b2, b3⟩ := h.1.2.2.1 x hx h1
        refine ⟨b, b1, by rw [gT x 4 (by decide) (by decide)]; exact b2, fle b (by omega) (fun w => z ⟨hx, y, h1, by rw [b2, w]⟩) b3⟩
  · rw [f6 x] at h2
    split at h2
    · exact absurd h2 (by decide)
    · split at h2
      · exact absurd h2 (by decide)
      · rw [gT x 8 (by decide) (by decide)]
        exact h.2.2.2.1 x hx h2
theorem un_wk1 (hb : rb_ J m n pb) (ht : t < n) (h2 : ra_T J m t 6 = 2) : un_ (sp_wk1 J m n t) m n = un_ J m n := cn_eq (fun x hx => by
  rw [wk1_s hb ht]
  by_cases y : x = t
  · rw [if_pos y, y, h2]
    rfl
  · rw [if_neg y])
theorem pp_wk1 (h : pp_ J m n Pb) (ht : t < n) (h2 : ra_T J m t 6 = 2) : pp_ (sp_wk1 J m n t) m n Pb := by
  obtain ⟨q, q1, hb⟩ := h.2.2.1
  refine pp_mk h (sj_wk1 hb ht) (fun x hx => ?_) (fun x hx h1 => ?_) ⟨q, by rw [un_wk1 hb ht h2]; exact q1, rb_wk1 hb ht⟩ (fun x hx h2' => ?_)
  · rw [wk1_s hb ht]
    split
    · exact ⟨0, by decide, rfl⟩
    · exact (h.1.1.2.2 x hx).2
  · rw [wk1_s hb ht] at h1
    split at h1
    · exact absurd h1 (by decide)
    · obtain ⟨b, b1, b2, b3⟩ := h.1.2.2.1 x hx h1
      refine ⟨b, b1, by rw [sj_T (sj_wk1 hb ht) (by decide) (by decide) (by decide)]; exact b2, ?_⟩
      rw [wk1_s hb ht]
      split
      · decide
      · exact b3
  · rw [wk1_s hb ht] at h2'
    by_cases y : x = t
    · rw [if_pos y] at h2'
      exact absurd h2' (by decide)
    · rw [if_neg y] at h2'
      rw [show ra_T (sp_wk1 J m n t) m x 8 = ra_T J m x 8 from wk1_o hb ht (by omega) (by omega) (by omega)]
      exact h.2.2.2.1 x hx h2'
theorem un_srv {l : Nat} (hl : l < 5) (ht : t < n) (h0 : ra_T J m t 6 = 0) : un_ (sp_srv J m t l) m n + 1 = un_ J m n := by
  have := cn_one (p := fun x => decide (ra_T (sp_srv J m t l) m x 6 = 0 ∨ ra_T (sp_srv J m t l) m x 6 = 1 ∨ ra_T (sp_srv J m t l) m x 6 = 2)) (q := fun x => decide (ra_T J m x 6 = 0 ∨ ra_T J m x 6 = 1 ∨ ra_T J m x 6 = 2)) (t := t) (fun i hi => by
    show decide _ = decide _
    rw [srv_6 hl, if_neg hi]) ht
  rw [srv_6 hl, if_pos rfl, h0, if_pos (show decide ((0 : Int32) = 0 ∨ (0 : Int32) = 1 ∨ (0 : Int32) = 2) = true by decide), if_neg (show ¬ decide ((3 : Int32) = 0 ∨ (3 : Int32) = 1 ∨ (3 : Int32) = 2) = true by decide)] at this
  exact this
theorem pp_srv {l : Nat} (h : pp_ J m n Pb) (ht : t < n) (hl : l < 5) (h0 : ra_T J m t 6 = 0) : pp_ (sp_srv J m t l) m n Pb := by
  obtain ⟨q, q1, hb⟩ := h.2.2.1
  have hu := un_srv hl ht h0
  have hPb := h.2.2.2.2
  refine pp_mk h (sj_srv hl) (fun x hx => ?_) (fun x hx h1 => ?_) ⟨q + 50400, by omega, ⟨(srv_o (by omega)).trans hb.1, hb.2.1, fun x hx => ?_, fun l' q' => ?_⟩⟩ (fun x hx h2' => ?_)
  · rw [srv_6 hl]
    split
    · exact ⟨3, by decide, rfl⟩
    · exact (h.1.1.2.2 x hx).2
  · rw [srv_6 hl] at h1
    split at h1
    · exact absurd h1 (by decide)
    · obtain ⟨b, b1, b2, b3⟩ := h.1.2.2.1 x hx h1
      refine ⟨b, b1, by rw [sj_T (sj_srv hl) (by decide) (by decide) (by decide)]; exact b2, ?_⟩
      rw [srv_6 hl]
      split
      · decide
      · exact b3
  · rw [srv_T hl (by decide) (by decide)]
    exact hb.2.2.1 x hx
  · obtain ⟨z1, z2⟩ := hb.2.2.2 l' q'
    obtain ⟨p, p1, p2⟩ := nI_of (Int32.not_lt.mpr z1)
    rw [p2, nI_leI p1 (by omega)] at z2
    by_cases e : l' = l
    · obtain ⟨w0, w1, w2, ew0⟩ := h.1.2.2.2.1.1 l hl
      obtain ⟨sz, s1, s2, esz⟩ := h.1.2.2.2.1.2 t ht
      have eL : ra_L (sp_srv J m t l) m l 4 = nI (p + 2520 / w0 * sz) := by
        unfold sp_srv sp_pass ra_L
        rw [i2_us, i2_uj (by omega), i2_uj (by omega), i2_uj (by omega), show J (m + 1) (10 + 10 * l + 4) = nI p by rw [← e]; exact p2, show J (m + 1) (10 + 10 * l + 0) = nI w0 from ew0, show J (m + 1) (200 + 14 * t + 2) = nI sz from esz, show (2520 : Int32) = nI 2520 from rfl, pk_div (by decide) (by omega) (by omega), pk_mul, nI_add]
      have hb1 : 2520 / w0 ≤ 2520 := Nat.div_le_self _ _
      have hb2 : 2520 / w0 * sz ≤ 2520 * 20 := Nat.mul_le_mul hb1 (by omega)
      rw [e, eL]
      exact ⟨nI_pos' (by omega), nI_le (by omega) (by omega)⟩
    · rw [show ra_L (sp_srv J m t l) m l' 4 = ra_L J m l' 4 from srv_o (by omega), p2]
      exact ⟨nI_pos' (by omega), nI_le (by omega) (by omega)⟩
  · rw [srv_6 hl] at h2'
    split at h2'
    · exact absurd h2' (by decide)
    · rw [show ra_T (sp_srv J m t l) m x 8 = ra_T J m x 8 from srv_T hl (by decide) (by decide)]
      exact h.2.2.2.1 x hx h2'
theorem pp_row (h : pp_ J m n Pb) (e : N (m + 1) = J (m + 1)) : pp_ N m n Pb := by
  have hu : un_ N m n = un_ J m n := cn_eq (fun t _ => by unfold ra_T; rw [e])
  obtain ⟨q, q1, hb⟩ := h.2.2.1
  refine pp_mk h (fun j _ _ _ => by rw [e]) (fun x hx => ?_) (fun x hx h1 => ?_) ⟨q, by rw [hu]; exact q1, rb_o hb (by rw [e]) (fun t _ => by unfold ra_T; rw [e]) (fun l _ => by unfold ra_L; rw [e])⟩ (fun x hx h2 => ?_)
  · have := (h.1.1.2.2 x hx).2
    unfold ra_T at this ⊢
    rw [e]; exact this
  · unfold ra_T at h1
    rw [e] at h1
    have := h.1.2.2.1 x hx h1
    unfold ra_T at this ⊢
    rw [e]; exact this
  · unfold ra_T at h2
    rw [e] at h2
    have := h.2.2.2.1 x hx h2
    unfold ra_T at this ⊢
    rw [e]; exact this
theorem pp_0 (h : pp_ J m n Pb) {v : Int32} : pp_ (i2_u J (m + 1) 0 v) m n Pb := by
  have eT : ∀ x f, ra_T (i2_u J (m + 1) 0 v) m x f = ra_T J m x f := fun x f => i2_uj (by omega)
  have hu : un_ (i2_u J (m + 1) 0 v) m n = un_ J m n := cn_eq (fun t _ => by rw [eT])
  obtain ⟨q, q1, hb⟩ := h.2.2.1
  refine pp_mk h (fun j q _ _ => i2_uj q) (fun x hx => by rw [eT]; exact (h.1.1.2.2 x hx).2) (fun x hx h1 => ?_) ⟨q, by rw [hu]; exact q1, rb_o hb (i2_uj (by omega)) (fun t _ => eT _ _) (fun l _ => i2_uj (by omega))⟩ (fun x hx h2 => ?_)
  · rw [eT] at h1
    obtain ⟨b, b1, b2, b3⟩ := h.1.2.2.1 x hx h1
    exact ⟨b, b1, by rw [eT]; exact b2, by rw [eT]; exact b3⟩
  · rw [eT] at h2 ⊢
    exact h.2.2.2.1 x hx h2
/-! row alone -/
theorem fr1_row (e : J (m + 1) = I (m + 1)) : sp_fr1 J m n t (m + 1) = sp_fr1 I m n t (m + 1) := by
  funext j
  unfold sp_fr1
  rw [sp_log_r, sp_log_r, wt_row e]
theorem frs_row : ∀ {ts : List Nat} {J I : fI}, J (m + 1) = I (m + 1) → sp_frs J m n ts (m + 1) = sp_frs I m n ts (m + 1)
  | [], _, _, e => e
  | t :: ts, J, I, e => by
    show sp_frs (sp_fr1 J m n t) m n ts (m + 1) = sp_frs (sp_fr1 I m n t) m n ts (m + 1)
    exact frs_row (fr1_row e)
theorem u_row (e : J (m + 1) = I (m + 1)) {j : Nat} {v : Int32} : i2_u J (m + 1) j v (m + 1) = i2_u I (m + 1) j v (m + 1) := by
  funext k
  rw [i2_at, i2_at, e]
theorem fre_row (e : J (m + 1) = I (m + 1)) : sp_frees J m n t (m + 1) = sp_frees I m n t (m + 1) := by
  unfold sp_frees
  have e1 : i2_u J (m + 1) (200 + 14 * t + 6) 4 (m + 1) = i2_u I (m + 1) (200 + 14 * t + 6) 4 (m + 1) := u_row e
  have e2 : sp_hs (i2_u J (m + 1) (200 + 14 * t + 6) 4) m n (nI t) = sp_hs (i2_u I (m + 1) (200 + 14 * t + 6) 4) m n (nI t) := by
    unfold sp_hs sp_hp ra_T
    rw [e1]
  rw [e2]
  exact frs_row e1
theorem nr_row (e : J (m + 1) = I (m + 1)) : sp_nr J m n = sp_nr I m n := by
  unfold sp_nr ra_T
  rw [e]
theorem wk1_row (e : J (m + 1) = I (m + 1)) : sp_wk1 J m n t (m + 1) = sp_wk1 I m n t (m + 1) := by
  funext j
  unfold sp_wk1
  rw [sp_log_r, sp_log_r, i2_ua (by omega), i2_ua (by omega), wt_row (u_row e)]
theorem wk_row : ∀ (k : Nat) {J I : fI}, J (m + 1) = I (m + 1) → sp_wk k J m n (m + 1) = sp_wk k I m n (m + 1)
  | 0, _, _, e => e
  | k + 1, J, I, e => by
    unfold sp_wk
    rw [nr_row e]
    cases h : sp_nr I m n with
    | none => exact e
    | some t =>
      simp only
      have e0 : (J (m + 1) 0 < ra_T J m t 8) = (I (m + 1) 0 < ra_T I m t 8) := by unfold ra_T; rw [e]
      simp only [e0]
      split
      · exact e
      · exact wk_row k (wk1_row e)
end Run1
