/-! coming, taking, waking -/
section Sp3
variable {B : mm_T} {I : Nat → Nat → Int32} {m n : Nat}
theorem i32_in {x M : Int32} {N : Nat} (hM : M.toInt = N) (h : 0 ≤ x ∧ x ≤ M) : ∃ j, j ≤ N ∧ x = nI j := nI_of2 hM (Int32.not_lt.mpr h.1) h.2
theorem i32_tk {x : Int32} (h4 : n ≤ 400) : (0 ≤ x ∧ x ≤ nI n - 1) ↔ ∃ t, t < n ∧ x = nI t := by
  constructor
  · intro h
    cases n with
    | zero => exact absurd (Int32.le_trans h.1 h.2) (by decide)
    | succ k =>
      rw [nI_pred] at h
      obtain ⟨j, hj, e⟩ := i32_in (nI_toInt (n := k) (by omega)) h
      exact ⟨j, by omega, e⟩
  · rintro ⟨t, ht, rfl⟩
    cases n with
    | zero => omega
    | succ k =>
      rw [nI_pred]
      exact ⟨nI_pos' (by omega), nI_le (by omega) (by omega)⟩
theorem cl_nI {t : Nat} (h : t < 2147483648) : (nI t).toNatClampNeg = t := nI_clamp h
/-! why one can't come -/
def sp_why4 (I : Nat → Nat → Int32) (m n l k : Nat) : Int32 := if ra_L I m l 1 ≤ nI (cn_ (ra_st I m (nI l)) n) ∨ ¬ nI (cn_ (ra_st I m (-1)) n) < I (m + 1) 8 then -4 else if ¬ fi_ (ra_kst I m (nI k)) n 0 = none then -5 else if n = 400 then -6 else if I (m + 3) k < I (m + 1) 9 then 0 else -7
def sp_why (I : Nat → Nat → Int32) (m n : Nat) (x1 x2 x3 x4 x5 : Int32) : Int32 :=
  if ¬ ((0 ≤ x1 ∧ x1 ≤ 4) ∧ (0 ≤ x2 ∧ x2 ≤ 9) ∧ (1 ≤ x3 ∧ x3 ≤ 20) ∧ (0 ≤ x4 ∧ x4 ≤ 9999)) then -2
  else if ¬ x5 = -1 ∧ (¬ (0 ≤ x5 ∧ x5 ≤ nI n - 1) ∨ ra_T I m x5.toNatClampNeg 6 = 6) then -2
  else if ¬ ra_L I m x1.toNatClampNeg 3 = 0 ∨ (¬ x5 = -1 ∧ ra_T I m x5.toNatClampNeg 6 = 5) then -3
  else sp_why4 I m n x1.toNatClampNeg x4.toNatClampNeg
theorem fi_lt {p : Nat → Bool} : ∀ {k t q : Nat}, fi_ p k t = some q → q < t + k ∧ p q = true
  | 0, _, _, h => by cases h
  | k + 1, t, q, h => by
    cases hp : p t with
    | true =>
      rw [fi_t hp] at h
      cases h
      exact ⟨by omega, hp⟩
    | false =>
      rw [fi_f hp] at h
      have := fi_lt h
      exact ⟨by omega, this.2⟩
theorem rc_whyTail (RK : rf_ok B m) (hn : I (m + 1) 1 = nI n) (h4 : n ≤ 400) {x1 x4 : Int32} {l k : Nat} (h1 : x1 = nI l) (hl : l < 5) (hk : x4 = nI k) (hk' : k < 10000) {P : Int32 → (Nat → Nat → Int32) → Prop} (K : P (sp_why4 I m n l k) I) :
    rs_i mt_X11_hasRoom [pv_r m, pv_i x1] B I (fun v3 I2 => (((v3 = 0) → P (-4) I2) ∧ ((¬ v3 = 0) → rs_i mt_X11_standing [pv_r m, pv_i (-1)] B I2 (fun v5 I4 => (((v5 < I4 (m + 1) 8) → rs_i mt_X11_standsWith [pv_r m, pv_i x4] B I4 (fun v7 I6 => (((v7 = (-1)) → (((¬ I6 (m + 1) 1 = (400)) → rs_i mt_X11_isBanned [pv_r m, pv_i x4] B I6 (fun v9 I8 => (((v9 = 0) → P (0) I8) ∧ ((¬ v9 = 0) → P (-7) I8)))) ∧ ((I6 (m + 1) 1 = (400)) → P (-6) I6))) ∧ ((¬ v7 = (-1)) → P (-5) I6)))) ∧ ((¬ v5 < I4 (m + 1) 8) → P (-4) I4)))))) := by
  subst hk
  unfold sp_why4 at K
  refine rc_hasRoom RK hn h4 h1 hl ?_
  by_cases c1 : ra_L I m l 1 ≤ nI (cn_ (ra_st I m (nI l)) n)
  · rw [if_pos c1]
    rw [if_pos (Or.inl c1)] at K
    exact ⟨fun _ => K, fun c => absurd rfl c⟩
  · rw [if_neg c1]
    refine ⟨fun c => absurd c (by decide), fun _ => rc_standing RK hn h4 ⟨fun c2 => ?_, fun c2 => ?_⟩⟩
    · rw [if_neg (fun q => q.elim c1 (fun q => q c2))] at K
      refine rc_standsWith RK hn h4 ⟨fun c3 => ⟨fun c4 => ?_, fun c4 => ?_⟩, fun c3 => ?_⟩
      · have hf := (io_eq (fun t ht => by have := (fi_lt ht).1; omega)).mp c3
        rw [if_neg (fun q => q hf), if_neg (fun q => c4 (by rw [hn, q]; rfl))] at K
        refine rc_isBanned RK rfl hk' ?_
        by_cases c5 : I (m + 3) k < I (m + 1) 9
        · rw [if_pos c5]
          rw [if_pos c5] at K
          exact ⟨fun _ => K, fun c => absurd rfl c⟩
        · rw [if_neg c5]
          rw [if_neg c5] at K
          exact ⟨fun c => absurd c (by decide), fun _ => K⟩
      · have hf := (io_eq (fun t ht => by have := (fi_lt ht).1; omega)).mp c3
        have h40 : n = 400 := (nI_eq (by omega) (by omega)).mp (hn.symm.trans c4)
        rw [if_neg (fun q => q hf), if_pos h40] at K
        exact K
      · have hf : ¬ fi_ (ra_kst I m (nI k)) n 0 = none := fun q => c3 ((io_eq (fun t ht => by have := (fi_lt ht).1; omega)).mpr q)
        rw [if_pos hf] at K
        exact K
    · rw [if_pos (Or.inr c2)] at K
      exact K
theorem rc_whyNot (RK : rf_ok B m) (hn : I (m + 1) 1 = nI n) (h4 : n ≤ 400) {x1 x2 x3 x4 x5 : Int32} {P : Int32 → (Nat → Nat → Int32) → Prop} (K : P (sp_why I m n x1 x2 x3 x4 x5) I) : rs_i mt_X11_whyNot [pv_r m, pv_i x1, pv_i x2, pv_i x3, pv_i x4, pv_i x5] B I P := by
  unfold sp_why at K
  have no : ¬ ((0 ≤ x1 ∧ x1 ≤ 4) ∧ (0 ≤ x2 ∧ x2 ≤ 9) ∧ (1 ≤ x3 ∧ x3 ≤ 20) ∧ (0 ≤ x4 ∧ x4 ≤ 9999)) → P (-2) I := fun q => by rw [if_pos q] at K; exact K
  refine wq_X11_whyNot_0 RK ⟨fun c1 => ⟨fun c2 => ⟨fun c3 => ⟨fun c4 => ?_, fun c => no (fun q => c q.2.2.2)⟩, fun c => no (fun q => c q.2.2.1)⟩, fun c => no (fun q => c q.2.1)⟩, fun c => no (fun q => c q.1)⟩
  obtain ⟨l, hl, e1⟩ := i32_in (N := 4) (by decide) c1
  obtain ⟨k, hk, e4⟩ := i32_in (N := 9999) (by decide) c4
  have cl : x1.toNatClampNeg = l := by rw [e1]; exact nI_clamp (by omega)
  have ck : x4.toNatClampNeg = k := by rw [e4]; exact nI_clamp (by omega)
  rw [if_neg (fun q => q ⟨c1, c2, c3, c4⟩), cl, ck] at K
  refine ⟨fun c5 => ?_, fun c5 => ⟨fun c6 => ?_, fun c6 => ?_⟩⟩
  · rw [if_neg (fun q => q.1 c5)] at K
    refine ⟨l, ⟨e1, by omega⟩, fun c6 => ?_, fun c6 => ⟨fun _ => ?_, fun c => absurd c5 c⟩⟩
    · rw [if_pos (Or.inl (show ¬ ra_L I m l 3 = 0 from c6))] at K
      exact K
    · rw [if_neg (fun q => q.elim (fun q => q c6) (fun q => q.1 c5))] at K
      exact rc_whyTail RK hn h4 e1 (by omega) e4 (by omega) K
  · rw [hn] at c6
    obtain ⟨t, ht, e5⟩ := (i32_tk h4).mp c6
    have ct : x5.toNatClampNeg = t := by rw [e5]; exact nI_clamp (by omega)
    rw [ct] at K
    refine ⟨t, ⟨e5, by omega⟩, fun c7 => ⟨l, ⟨e1, by omega⟩, fun c8 => ?_, fun c8 => ⟨fun c => absurd c c5, fun _ => ⟨fun c9 => ?_, fun c9 => ?_⟩⟩⟩, fun c7 => ?_⟩
    · rw [if_neg (fun q => q.2.elim (fun q => q c6) c7), if_pos (Or.inl (show ¬ ra_L I m l 3 = 0 from c8))] at K
      exact K
    · rw [if_neg (fun q => q.2.elim (fun q => q c6) c7), if_neg (fun q => q.elim (fun q => q c8) (fun q => c9 q.2))] at K
      exact rc_whyTail RK hn h4 e1 (by omega) e4 (by omega) K
    · rw [if_neg (fun q => q.2.elim (fun q => q c6) c7), if_pos (Or.inr ⟨c5, c9⟩)] at K
      exact K
    · rw [if_pos ⟨c5, Or.inr c7⟩] at K
      exact K
  · rw [hn] at c6
    rw [if_pos ⟨c5, Or.inl c6⟩] at K
    exact K
theorem why_0 {x1 x2 x3 x4 x5 : Int32} (h4 : n ≤ 400) (h : sp_why I m n x1 x2 x3 x4 x5 = 0) : ∃ l p s k, l < 5 ∧ x1 = nI l ∧ p < 10 ∧ x2 = nI p ∧ 1 ≤ s ∧ s ≤ 20 ∧ x3 = nI s ∧ k < 10000 ∧ x4 = nI k ∧ (x5 = -1 ∨ ∃ q, q < n ∧ x5 = nI q ∧ ¬ ra_T I m q 6 = 6 ∧ ¬ ra_T I m q 6 = 5) ∧ ra_L I m l 3 = 0 ∧ n < 400 ∧ nI (cn_ (ra_st I m (-1)) n) < I (m + 1) 8 ∧ ¬ ra_L I m l 1 ≤ nI (cn_ (ra_st I m (nI l)) n) ∧ fi_ (ra_kst I m (nI k)) n 0 = none := by
  unfold sp_why at h
  split at h
  · cases h
  · next c =>
    have c := Classical.not_not.mp c
    obtain ⟨l, hl, e1⟩ := i32_in (N := 4) (by decide) c.1
    obtain ⟨p, hp, e2⟩ := i32_in (N := 9) (by decide) c.2.1
    obtain ⟨s, hs, e3⟩ := i32_in (x := x3) (M := 20) (N := 20) (by decide) ⟨Int32.le_trans (by decide) c.2.2.1.1, c.2.2.1.2⟩
    obtain ⟨k, hk, e4⟩ := i32_in (N := 9999) (by decide) c.2.2.2
    have h1s : 1 ≤ s := by
      rcases Nat.lt_or_ge 0 s with q | q
      · exact q
      · have : s = 0 := by omega
        rw [e3, this] at c
        exact absurd c.2.2.1.1 (by decide)
    have cl : x1.toNatClampNeg = l := by rw [e1]; exact nI_clamp (by omega)
    have ck : x4.toNatClampNeg = k := by rw [e4]; exact nI_clamp (by omega)
    rw [cl, ck] at h
    split at h
    · cases h
    · next c5 =>
      split at h
      · cases h
      · next c6 =>
        unfold sp_why4 at h
        split at h
        · cases h
        · next c7 =>
          split at h
          · cases h
          · next c8 =>
            split at h
            · cases h
            · next c9 =>
              refine ⟨l, p, s, k, by omega, e1, by omega, e2, h1s, hs, e3, by omega, e4, ?_, ?_, by omega, ?_, fun q => c7 (Or.inl q), Classical.not_not.mp c8⟩
              · by_cases q5 : x5 = -1
                · exact Or.inl q5
                · refine Or.inr ?_
                  have r1 : 0 ≤ x5 ∧ x5 ≤ nI n - 1 := Classical.not_not.mp (fun q => c5 ⟨q5, Or.inl q⟩)
                  obtain ⟨t, ht, e5⟩ := (i32_tk h4).mp r1
                  have ct : x5.toNatClampNeg = t := by rw [e5]; exact nI_clamp (by omega)
                  rw [ct] at c5 c6
                  exact ⟨t, ht, e5, fun q => c5 ⟨q5, Or.inr q⟩, fun q => c6 (Or.inr ⟨q5, q⟩)⟩
              · exact Classical.not_not.mp (fun q => c6 (Or.inl q))
              · exact Classical.not_not.mp (fun q => c7 (Or.inr q))
/-! coming -/
def sp_nw (I : Nat → Nat → Int32) (m n : Nat) (x1 x2 x3 x4 x5 : Int32) : Nat → Nat → Int32 :=
  i2_u (i2_u (i2_u (i2_u (i2_u (i2_u (i2_u (i2_u I (m + 1) (200 + 14 * n + 0) x1) (m + 1) (200 + 14 * n + 1) x2) (m + 1) (200 + 14 * n + 2) x3) (m + 1) (200 + 14 * n + 3) x4) (m + 1) (200 + 14 * n + 4) x5) (m + 1) (200 + 14 * n + 5) (I (m + 1) 0)) (m + 1) (200 + 14 * n + 7) 0) (m + 1) (200 + 14 * n + 6) 1
def sp_neg (I : Nat → Nat → Int32) (m t : Nat) : Nat → Nat → Nat → Int32
  | 0 => I
  | k + 1 => i2_u (sp_neg I m t k) (m + 1) (200 + 14 * t + (8 + k)) (-1)
def sp_new (I : Nat → Nat → Int32) (m n : Nat) (x1 x2 x3 x4 x5 : Int32) : Nat → Nat → Int32 := i2_u (sp_neg (sp_nw I m n x1 x2 x3 x4 x5) m n 6) (m + 1) 1 (nI (n + 1))
def sp_com (I : Nat → Nat → Int32) (m n : Nat) (x1 x2 x3 x4 x5 : Int32) : Nat → Nat → Int32 :=
  sp_log (if ra_held (sp_new I m n x1 x2 x3 x4 x5) m n = true then sp_new I m n x1 x2 x3 x4 x5 else sp_wt (sp_new I m n x1 x2 x3 x4 x5) m (n + 1) n) m 0 n (-1) 0
def sp_comes (I : Nat → Nat → Int32) (m n : Nat) (x1 x2 x3 x4 x5 : Int32) : Int32 × (Nat → Nat → Int32) := if sp_why I m n x1 x2 x3 x4 x5 = 0 then (nI n, sp_com I m n x1 x2 x3 x4 x5) else (sp_why I m n x1 x2 x3 x4 x5, I)
theorem sp_neg_o {t a j : Nat} : ∀ (k : Nat), (a ≠ m + 1 ∨ j < 200 + 14 * t + 8 ∨ 200 + 14 * t + 8 + k ≤ j) → sp_neg I m t k a j = I a j
  | 0, _ => rfl
  | k + 1, h => by
    show i2_u (sp_neg I m t k) _ _ _ a j = _
    rw [i2_at, if_neg (by omega), sp_neg_o k (by omega)]
theorem sp_neg_f {t f : Nat} : ∀ (k : Nat), 8 ≤ f → f < 8 + k → sp_neg I m t k (m + 1) (200 + 14 * t + f) = -1
  | 0, _, _ => by omega
  | k + 1, h, h' => by
    show i2_u (sp_neg I m t k) _ _ _ _ _ = _
    by_cases e : f = 8 + k
    · rw [e]
      exact i2_us
    · rw [i2_uj (by omega), sp_neg_f k h (by omega)]
theorem sp_new_o {x1 x2 x3 x4 x5 : Int32} {a j : Nat} (h : a ≠ m + 1 ∨ (j ≠ 1 ∧ (j < 200 + 14 * n ∨ 200 + 14 * n + 14 ≤ j))) : sp_new I m n x1 x2 x3 x4 x5 a j = I a j := by
  unfold sp_new
  rw [i2_at, if_neg (by omega), sp_neg_o 6 (by omega)]
  unfold sp_nw
  simp only [i2_at]
  rw [if_neg (by omega), if_neg (by omega), if_neg (by omega), if_neg (by omega), if_neg (by omega), if_neg (by omega), if_neg (by omega), if_neg (by omega)]
theorem sp_new_n {x1 x2 x3 x4 x5 : Int32} : ra_T (sp_new I m n x1 x2 x3 x4 x5) m n 0 = x1 ∧ ra_T (sp_new I m n x1 x2 x3 x4 x5) m n 1 = x2 ∧ ra_T (sp_new I m n x1 x2 x3 x4 x5) m n 2 = x3 ∧ ra_T (sp_new I m n x1 x2 x3 x4 x5) m n 3 = x4 ∧ ra_T (sp_new I m n x1 x2 x3 x4 x5) m n 4 = x5 ∧ ra_T (sp_new I m n x1 x2 x3 x4 x5) m n 5 = I (m + 1) 0 ∧ ra_T (sp_new I m n x1 x2 x3 x4 x5) m n 6 = 1 ∧ ra_T (sp_new I m n x1 x2 x3 x4 x5) m n 7 = 0 ∧ ∀ f, 8 ≤ f → f < 14 → ra_T (sp_new I m n x1 x2 x3 x4 x5) m n f = -1 := by
  unfold ra_T sp_new
  refine ⟨?_, ?_, ?_, ?_, ?_, ?_, ?_, ?_, fun f h h' => ?_⟩
  · rw [i2_uj (by omega), sp_neg_o 6 (by omega)]; unfold sp_nw; rw [i2_uj (by omega), i2_uj (by omega), i2_uj (by omega), i2_uj (by omega), i2_uj (by omega), i2_uj (by omega), i2_uj (by omega), i2_us]
  · rw [i2_uj (by omega), sp_neg_o 6 (by omega)]; unfold sp_nw; rw [i2_uj (by omega), i2_uj (by omega), i2_uj (by omega), i2_uj (by omega), i2_uj (by omega), i2_uj (by omega), i2_us]
  · rw [i2_uj (by omega), sp_neg_o 6 (by omega)]; unfold sp_nw; rw [i2_uj (by omega), i2_uj (by omega), i2_uj (by omega), i2_uj (by omega), i2_uj (by omega), i2_us]
  · rw [i2_uj (by omega), sp_neg_o 6 (by omega)]; unfold sp_nw; rw [i2_uj (by omega), i2_uj (by omega), i2_uj (by omega), i2_uj (by omega), i2_us]
  · rw [i2_uj (by omega), sp_neg_o 6 (by omega)]; unfold sp_nw; rw [i2_uj (by omega), i2_uj (by omega), i2_uj (by omega), i2_us]
  · rw [i2_uj (by omega), sp_neg_o 6 (by omega)]; unfold sp_nw; rw [i2_uj (by omega), i2_uj (by omega), i2_us]
  · rw [i2_uj (by omega), sp_neg_o 6 (by omega)]; unfold sp_nw; rw [i2_us]
  · rw [i2_uj (by omega), sp_neg_o 6 (by omega)]; unfold sp_nw; rw [i2_uj (by omega), i2_us]
  · rw [i2_uj (by omega), sp_neg_f 6 h (by omega)]
theorem sp_new_1 {x1 x2 x3 x4 x5 : Int32} : sp_new I m n x1 x2 x3 x4 x5 (m + 1) 1 = nI (n + 1) := i2_us
theorem rb_new {pb x1 x2 x3 x4 x5 : Int32} (hb : rb_ I m n pb) {l : Nat} (hl : l < 5) (h1 : x1 = nI l) (hn : n < 400) : rb_ (sp_new I m n x1 x2 x3 x4 x5) m (n + 1) pb := by
  refine ⟨sp_new_1, by omega, fun t ht => ?_, fun l hl => ?_⟩
  · by_cases e : t = n
    · rw [e, sp_new_n.1]
      exact ⟨l, hl, h1⟩
    · have : ra_T (sp_new I m n x1 x2 x3 x4 x5) m t 0 = ra_T I m t 0 := sp_new_o (by omega)
      rw [this]
      exact hb.2.2.1 t (by omega)
  · have : ra_L (sp_new I m n x1 x2 x3 x4 x5) m l 4 = ra_L I m l 4 := sp_new_o (by omega)
    rw [this]
    exact hb.2.2.2 l hl
theorem rc_comes (RK : rf_ok B m) {pb : Int32} (hb : rb_ I m n pb) {b : Nat} (hL : lb_ I m b) (hb2 : b < 2000000000) {x1 x2 x3 x4 x5 : Int32} {P : Int32 → (Nat → Nat → Int32) → Prop} (K : P (sp_comes I m n x1 x2 x3 x4 x5).1 (sp_comes I m n x1 x2 x3 x4 x5).2) : rs_i mt_X11_comesNow [pv_r m, pv_i x1, pv_i x2, pv_i x3, pv_i x4, pv_i x5] B I P := by
  have h4 := hb.2.1
  refine wq_X11_comesNow_0 RK (rc_whyNot RK hb.1 h4 ?_)
  unfold sp_comes at K
  by_cases hw : sp_why I m n x1 x2 x3 x4 x5 = 0
  · rw [if_pos hw] at K
    obtain ⟨l, p, s, k, hl, e1, -, -, -, -, -, -, -, hq, -, h40, -⟩ := why_0 h4 hw
    refine ⟨fun _ => ⟨n, ⟨hb.1, h40⟩, fun I4 h4' I5 h5 I6 h6 I7 h7 I8 h8 I9 h9 I10 h10 I11 h11 => ?_⟩, fun c => absurd hw c⟩
    have e0 : I8 (m + 1) 0 = I (m + 1) 0 := by rw [h8, h7, h6, h5, h4', i2_uj (by omega), i2_uj (by omega), i2_uj (by omega), i2_uj (by omega), i2_uj (by omega)]
    have e11 : I11 = sp_nw I m n x1 x2 x3 x4 x5 := by
      rw [h11, h10, h9, e0, h8, h7, h6, h5, h4']
      rfl
    rw [e11, hb.1]
    have loop : ∀ k q, q + k = 6 → rw_i mt_X11_comesNow 106 [some (pv_r m), some (pv_i x1), some (pv_i x2), some (pv_i x3), some (pv_i x4), some (pv_i x5), some (pv_i (sp_why I m n x1 x2 x3 x4 x5)), some (pv_i (nI n)), some (pv_i (nI (8 + q)))] [] B (sp_neg (sp_nw I m n x1 x2 x3 x4 x5) m n q) P := by
      intro k
      induction k with
      | zero =>
        intro q hq'
        have hq' : q = 6 := by omega
        subst hq'
        refine wq_X11_comesNow_106 RK ⟨fun _ I1 hI1 => ?_, fun c => absurd (by decide) c⟩
        have e1' : sp_neg (sp_nw I m n x1 x2 x3 x4 x5) m n 6 (m + 1) 1 + 1 = nI (n + 1) := by
          rw [sp_neg_o 6 (by omega)]
          unfold sp_nw
          rw [i2_uj (by omega), i2_uj (by omega), i2_uj (by omega), i2_uj (by omega), i2_uj (by omega), i2_uj (by omega), i2_uj (by omega), i2_uj (by omega), hb.1, nI_1]
        rw [e1'] at hI1
        have hI1 : I1 = sp_new I m n x1 x2 x3 x4 x5 := hI1
        rw [hI1]
        have K : P (nI n) (sp_com I m n x1 x2 x3 x4 x5) := K
        unfold sp_com at K
        have hLn : lb_ (sp_new I m n x1 x2 x3 x4 x5) m b := lb_o hL (sp_new_o (by omega)) (sp_new_o (by omega)) (Nat.le_refl _)
        have hbn := rb_new (x2 := x2) (x3 := x3) (x4 := x4) (x5 := x5) hb hl e1 h40
        refine rc_isHeldBack RK (t := n) rfl h40 (fun c => ?_) ?_
        · rw [sp_new_n.2.2.2.2.1] at c ⊢
          rcases hq with hq | ⟨q, h1, h2, -⟩
          · exact absurd hq c
          · exact ⟨q, h2, by omega⟩
        · cases hh : ra_held (sp_new I m n x1 x2 x3 x4 x5) m n with
          | true =>
            rw [hh, if_pos rfl] at K
            rw [if_pos rfl]
            exact ⟨fun _ => rc_log RK hLn hb2 rfl h40 K, fun c => absurd c (by decide)⟩
          | false =>
            rw [hh, if_neg (by decide)] at K
            rw [if_neg (by decide)]
            exact ⟨fun c => absurd rfl c, fun _ => rc_wt RK hbn rfl (by omega) (rc_log RK (lb_wt hbn (by omega) hLn) hb2 rfl h40 K)⟩
      | succ k ih =>
        intro q hq'
        refine wq_X11_comesNow_106 RK ⟨fun c => absurd c (nI_nlt (a := 13) (by omega) (by omega)), fun _ => ⟨n, ⟨rfl, h40⟩, 8 + q, ⟨rfl, by omega⟩, fun I9 h9 => ?_⟩⟩
        rw [h9]
        exact ih (q + 1) (by omega)
    exact loop 6 0 (by omega)
  · rw [if_neg hw] at K
    exact ⟨fun c => absurd c hw, fun _ => K⟩
/-! a pass, taking -/
def sp_pass (I : Nat → Nat → Int32) (m t l : Nat) : Nat → Nat → Int32 := i2_u I (m + 1) (10 + 10 * l + 4) (I (m + 1) (10 + 10 * l + 4) + (2520 / I (m + 1) (10 + 10 * l + 0)) * I (m + 1) (200 + 14 * t + 2))
theorem rc_pass (RK : rf_ok B m) {t l : Nat} (hl : ra_T I m t 0 = nI l) (hl5 : l < 5) (hw : ¬ ra_L I m l 0 = 0) {x1 : Int32} (h1 : x1 = nI t) (ht : t < 400) {P : (Nat → Nat → Int32) → Prop} (K : P (sp_pass I m t l)) : rs_v mt_X11_passes [pv_r m, pv_i x1] B I P :=
  wq_X11_passes_0 RK ⟨t, ⟨h1, ht⟩, l, ⟨hl, hl5⟩, hw, fun I3 h3 => by rw [h3]; exact K⟩
def sp_tk7 (I : Nat → Nat → Int32) (m t w : Nat) : Nat → Nat → Int32 := i2_u (i2_u (i2_u (i2_u (i2_u I (m + 1) 2 (I (m + 1) 2 + 1)) (m + 1) (200 + 14 * t + 6) 3) (m + 1) (200 + 14 * t + 9) (nI w)) (m + 1) (200 + 14 * t + 10) (I (m + 1) 2 + 1)) (m + 1) (200 + 14 * t + 11) (I (m + 1) 0 + I (m + 1) 5)
def sp_tk10 (I : Nat → Nat → Int32) (m t w : Nat) : Nat → Nat → Int32 := i2_u (i2_u (sp_tk7 I m t w) (m + 1) (60 + 4 * w + 0) (nI t)) (m + 1) (60 + 4 * w + 1) (I (m + 1) (60 + 4 * w + 1) + 1)
def sp_tk14 (I : Nat → Nat → Int32) (m t w l : Nat) : Nat → Nat → Int32 := i2_u (i2_u (i2_u (sp_pass (sp_tk10 I m t w) m t l) (m + 1) (10 + 10 * l + 5) (I (m + 1) (10 + 10 * l + 5) + I (m + 1) (200 + 14 * t + 2))) (m + 1) (10 + 10 * l + 6) (I (m + 1) (10 + 10 * l + 6) + 1)) (m + 1) (10 + 10 * l + 7) (I (m + 1) (10 + 10 * l + 7) + (I (m + 1) 0 - I (m + 1) (200 + 14 * t + 5)))
def sp_tk17 (I : Nat → Nat → Int32) (m t w l : Nat) : Nat → Nat → Int32 := if I (m + 1) 0 - I (m + 1) (200 + 14 * t + 5) ≤ I (m + 1) (10 + 10 * l + 8) then sp_tk14 I m t w l else i2_u (i2_u (sp_tk14 I m t w l) (m + 1) (10 + 10 * l + 8) (I (m + 1) 0 - I (m + 1) (200 + 14 * t + 5))) (m + 1) (10 + 10 * l + 9) (nI t)
def sp_tk (I : Nat → Nat → Int32) (m t w l : Nat) : Nat → Nat → Int32 := sp_log (sp_tk17 I m t w l) m 1 t (nI w) 0
theorem tk10_o {t w a j : Nat} (h : a ≠ m + 1 ∨ (j ≠ 2 ∧ j ≠ 200 + 14 * t + 6 ∧ j ≠ 200 + 14 * t + 9 ∧ j ≠ 200 + 14 * t + 10 ∧ j ≠ 200 + 14 * t + 11 ∧ j ≠ 60 + 4 * w ∧ j ≠ 60 + 4 * w + 1)) : sp_tk10 I m t w a j = I a j := by
  unfold sp_tk10 sp_tk7
  simp only [i2_at]
  rw [if_neg (by omega), if_neg (by omega), if_neg (by omega), if_neg (by omega), if_neg (by omega), if_neg (by omega), if_neg (by omega)]
theorem pass_o {t l a j : Nat} (h : a ≠ m + 1 ∨ j ≠ 10 + 10 * l + 4) : sp_pass I m t l a j = I a j := by
  unfold sp_pass
  rw [i2_at, if_neg (by omega)]
theorem tk14_o {t w l a j : Nat} (h : a ≠ m + 1 ∨ (j ≠ 2 ∧ j ≠ 200 + 14 * t + 6 ∧ j ≠ 200 + 14 * t + 9 ∧ j ≠ 200 + 14 * t + 10 ∧ j ≠ 200 + 14 * t + 11 ∧ j ≠ 60 + 4 * w ∧ j ≠ 60 + 4 * w + 1 ∧ (j < 10 + 10 * l + 4 ∨ 10 + 10 * l + 7 < j))) : sp_tk14 I m t w l a j = I a j := by
  unfold sp_tk14
  rw [i2_at, if_neg (by omega), i2_at, if_neg (by omega), i2_at, if_neg (by omega), pass_o (by omega), tk10_o (by omega)]
theorem tk_o {t w l a j : Nat} (h : a ≠ m + 1 ∨ (j ≠ 2 ∧ j ≠ 200 + 14 * t + 6 ∧ j ≠ 200 + 14 * t + 9 ∧ j ≠ 200 + 14 * t + 10 ∧ j ≠ 200 + 14 * t + 11 ∧ j ≠ 60 + 4 * w ∧ j ≠ 60 + 4 * w + 1 ∧ (j < 10 + 10 * l + 4 ∨ 10 + 10 * l + 9 < j))) (h6 : a ≠ m + 6) (h0 : a ≠ m ∨ j ≠ 6) : sp_tk I m t w l a j = I a j := by
  unfold sp_tk
  rw [sp_log_o h6 h0]
  unfold sp_tk17
  split
  · exact tk14_o (by omega)
  · rw [i2_at, if_neg (by omega), i2_at, if_neg (by omega), tk14_o (by omega)]
theorem rc_tk (RK : rf_ok B m) {b t w l : Nat} (hL : lb_ I m b) (hb : b < 2000000000) (hl : ra_T I m t 0 = nI l) (hl5 : l < 5) (hw : ¬ ra_L I m l 0 = 0) (hw6 : w < 6) {x1 x2 : Int32} (h1 : x1 = nI t) (h2 : x2 = nI w) (ht : t < 400) {P : (Nat → Nat → Int32) → Prop} (K : P (sp_tk I m t w l)) : rs_v mt_X11_takesNow [pv_r m, pv_i x1, pv_i x2] B I P := by
  subst h1
  subst h2
  refine wq_X11_takesNow_0 RK ⟨t, ⟨rfl, ht⟩, l, ⟨hl, hl5⟩, fun I3 h3 I4 h4 I5 h5 I6 h6 I7 h7 => ⟨w, ⟨rfl, hw6⟩, fun I9 h9 I10 h10 => ?_⟩⟩
  have e5 : I5 (m + 1) 2 = I (m + 1) 2 + 1 := by rw [h5, h4, h3, i2_uj (by omega), i2_uj (by omega), i2_us]
  have e60 : I6 (m + 1) 0 = I (m + 1) 0 := by rw [h6, h5, h4, h3, i2_uj (by omega), i2_uj (by omega), i2_uj (by omega), i2_uj (by omega)]
  have e65 : I6 (m + 1) 5 = I (m + 1) 5 := by rw [h6, h5, h4, h3, i2_uj (by omega), i2_uj (by omega), i2_uj (by omega), i2_uj (by omega)]
  have e7 : I7 = sp_tk7 I m t w := by rw [h7, e60, e65, h6, e5, h5, h4, h3]; rfl
  have e9 : I9 (m + 1) (60 + 4 * w + 1) = I (m + 1) (60 + 4 * w + 1) := by
    rw [h9, e7]
    unfold sp_tk7
    rw [i2_uj (by omega), i2_uj (by omega), i2_uj (by omega), i2_uj (by omega), i2_uj (by omega), i2_uj (by omega)]
  have e10 : I10 = sp_tk10 I m t w := by rw [h10, e9, h9, e7]; rfl
  rw [e10]
  refine rc_pass RK (t := t) (l := l) ?_ hl5 ?_ rfl ht (fun I12 h12 I13 h13 I14 h14 => ?_)
  · exact (tk10_o (by omega)).trans hl
  · rw [show ra_L (sp_tk10 I m t w) m l 0 = ra_L I m l 0 from tk10_o (by omega)]
    exact hw
  rw [pass_o (by omega), tk10_o (by omega), pass_o (by omega), tk10_o (by omega)] at h12
  have e126 : I12 (m + 1) (10 + 10 * l + 6) = I (m + 1) (10 + 10 * l + 6) := by rw [h12, i2_uj (by omega), pass_o (by omega), tk10_o (by omega)]
  rw [e126] at h13
  have e137 : I13 (m + 1) (10 + 10 * l + 7) = I (m + 1) (10 + 10 * l + 7) := by rw [h13, h12, i2_uj (by omega), i2_uj (by omega), pass_o (by omega), tk10_o (by omega)]
  have e130 : I13 (m + 1) 0 = I (m + 1) 0 := by rw [h13, h12, i2_uj (by omega), i2_uj (by omega), pass_o (by omega), tk10_o (by omega)]
  have e135 : I13 (m + 1) (200 + 14 * t + 5) = I (m + 1) (200 + 14 * t + 5) := by rw [h13, h12, i2_uj (by omega), i2_uj (by omega), pass_o (by omega), tk10_o (by omega)]
  rw [e137, e130, e135] at h14
  rw [e130, e135]
  have e14 : I14 = sp_tk14 I m t w l := by rw [h14, h13, h12]; rfl
  have e148 : I14 (m + 1) (10 + 10 * l + 8) = I (m + 1) (10 + 10 * l + 8) := by rw [e14]; exact tk14_o (by omega)
  rw [e148]
  unfold sp_tk sp_tk17 at K
  have hL14 : lb_ I14 m b := by
    rw [e14]
    exact lb_o hL (tk14_o (by omega)) (tk14_o (by omega)) (Nat.le_refl _)
  refine ⟨fun c => ?_, fun c I16 h16 I17 h17 => ?_⟩
  · rw [if_pos c, ← e14] at K
    exact rc_log RK hL14 hb rfl ht K
  · rw [if_neg c, ← e14, ← h16, ← h17] at K
    refine rc_log RK (b := b) (lb_o hL14 ?_ ?_ (Nat.le_refl _)) hb rfl ht K
    · rw [h17, h16, i2_ua (by omega), i2_ua (by omega)]
    · rw [h17, h16, i2_ua (by omega), i2_ua (by omega)]
/-! taking by a worker -/
def sp_tkby (I : Nat → Nat → Int32) (m n w : Nat) : Int32 × (Nat → Nat → Int32) := match ra_lane I m n 1 with
  | none => (-1, I)
  | some l => match ra_first I m n (nI l) with
    | none => (-1, I)
    | some t => (nI t, sp_tk I m t w l)
theorem lane_live {x : Int32} {l : Nat} (h : ra_lane I m n x = some l) : ∃ t, ra_first I m n (nI l) = some t := by
  have h1 := (bs_lt h).2
  unfold ra_may at h1
  rw [Bool.and_eq_true] at h1
  have h2 : 0 < cn_ (ra_wt I m (nI l)) n := of_decide_eq_true h1.1
  cases e : ra_first I m n (nI l) with
  | some t => exact ⟨t, rfl⟩
  | none => rw [cn_0 (bs_none e)] at h2; omega
theorem first_of {x : Int32} {t : Nat} (h : ra_first I m n x = some t) : t < n ∧ ra_T I m t 0 = x ∧ ra_T I m t 6 = 0 := by
  have := bs_lt h
  exact ⟨this.1, of_decide_eq_true this.2⟩
theorem rc_tkby (RK : rf_ok B m) (hn : I (m + 1) 1 = nI n) (h4 : n ≤ 400) {b w : Nat} (hL : lb_ I m b) (hb : b < 2000000000) (hw : ∀ l, l < 5 → ¬ ra_L I m l 0 = 0) (hw6 : w < 6) {x1 : Int32} (h1 : x1 = nI w) {P : Int32 → (Nat → Nat → Int32) → Prop} (K : P (sp_tkby I m n w).1 (sp_tkby I m n w).2) : rs_i mt_X11_takesBy [pv_r m, pv_i x1] B I P := by
  refine wq_X11_takesBy_0 RK (rc_theLane RK hn h4 ?_)
  unfold sp_tkby at K
  cases hl : ra_lane I m n 1 with
  | none =>
    rw [hl] at K
    exact ⟨fun c => absurd rfl c, fun _ => K⟩
  | some l =>
    have hl5 := ra_lane_5 hl
    obtain ⟨t, ht⟩ := lane_live hl
    rw [hl] at K
    simp only [ht] at K
    refine ⟨fun _ => rc_firstOf RK hn h4 ?_, fun c => absurd c (nI_nm (by omega))⟩
    show rs_v mt_X11_takesNow [pv_r m, pv_i (io_ (ra_first I m n (nI l))), pv_i x1] B I (fun I5 => P (io_ (ra_first I m n (nI l))) I5)
    rw [ht]
    have := first_of ht
    exact rc_tk RK hL hb this.2.1 hl5 (hw l hl5) hw6 rfl h1 (by omega) K
/-! resting and waking -/
def sp_nr (I : Nat → Nat → Int32) (m n : Nat) : Option Nat := bs_ (fun t => decide (ra_T I m t 6 = 2)) (fun a b => decide (ra_T I m a 8 < ra_T I m b 8)) n
theorem rc_nr (RK : rf_ok B m) (hn : I (m + 1) 1 = nI n) (h4 : n ≤ 400) {P : Int32 → (Nat → Nat → Int32) → Prop} (K : P (io_ (sp_nr I m n)) I) : rs_i mt_X11_nextResting [pv_r m] B I P := by
  refine wq_X11_nextResting_0 RK ?_
  have loop : ∀ k t, t + k = n → rw_i mt_X11_nextResting 4 [some (pv_r m), some (pv_i (io_ (sp_nr I m t))), some (pv_i (nI t))] [] B I P := by
    intro k
    induction k with
    | zero =>
      intro t ht
      have ht : t = n := by omega
      subst ht
      exact wq_X11_nextResting_4 RK ⟨fun _ => K, fun c => absurd (nI_end hn) c⟩
    | succ k ih =>
      intro t ht
      have ih := ih (t + 1) (by omega)
      unfold sp_nr at ih ⊢
      refine wq_X11_nextResting_4 RK ⟨fun c => absurd c (nI_done hn h4 (by omega)), fun _ => ⟨t, ⟨rfl, by omega⟩, fun c => ?_, fun c => ?_⟩⟩
      · rw [bs_f (decide_eq_false c)] at ih
        exact ih
      · have hp : (fun t => decide (ra_T I m t 6 = 2)) t = true := decide_eq_true c
        cases hb : bs_ (fun t => decide (ra_T I m t 6 = 2)) (fun a b => decide (ra_T I m a 8 < ra_T I m b 8)) t with
        | none =>
          rw [bs_n hp hb] at ih
          exact ⟨fun _ => ih, fun c2 => absurd rfl c2⟩
        | some q =>
          have hq := (bs_lt hb).1
          rw [bs_s hp hb] at ih
          refine ⟨fun c2 => absurd c2 (nI_nm (by omega)), fun _ => ⟨q, ⟨rfl, by omega⟩, fun c3 => ?_, fun c3 => ?_⟩⟩
          · rw [if_neg (show ¬ decide (ra_T I m t 8 < ra_T I m q 8) = true by rw [decide_eq_false (show ¬ ra_T I m t 8 < ra_T I m q 8 from Int32.not_lt.mpr c3)]; decide)] at ih
            exact ih
          · rw [if_pos (show decide (ra_T I m t 8 < ra_T I m q 8) = true from decide_eq_true (Int32.not_le.mp c3))] at ih
            exact ih
  exact loop n 0 (by omega)
def sp_wk1 (I : Nat → Nat → Int32) (m n t : Nat) : Nat → Nat → Int32 := sp_log (i2_u (sp_wt (i2_u I (m + 1) (200 + 14 * t + 8) (-1)) m n t) m 11 (I m 11 + 1)) m 5 t (-1) 0
def sp_wk : Nat → (Nat → Nat → Int32) → Nat → Nat → Nat → Nat → Int32
  | 0, I, _, _ => I
  | k + 1, I, m, n => match sp_nr I m n with
    | none => I
    | some t => if I (m + 1) 0 < ra_T I m t 8 then I else sp_wk k (sp_wk1 I m n t) m n
def rc2_ (I : Nat → Nat → Int32) (m n : Nat) : Nat := cn_ (fun t => decide (ra_T I m t 6 = 2)) n
theorem rb_T8 {pb : Int32} {t : Nat} {x : Int32} (hb : rb_ I m n pb) : rb_ (i2_u I (m + 1) (200 + 14 * t + 8) x) m n pb := rb_o hb (i2_uj (by omega)) (fun t' _ => i2_uj (by omega)) (fun l hl => i2_uj (by omega))
theorem wk1_o {pb : Int32} (hb : rb_ I m n pb) {t a j : Nat} (ht : t < n) (h : a ≠ m + 1 ∨ (j ≠ 200 + 14 * t + 6 ∧ j ≠ 200 + 14 * t + 8 ∧ (j < 10 ∨ 60 ≤ j ∨ j % 10 ≠ 4))) (h6 : a ≠ m + 6) (h0 : a ≠ m ∨ (j ≠ 6 ∧ j ≠ 11)) : sp_wk1 I m n t a j = I a j := by
  unfold sp_wk1
  rw [sp_log_o h6 (by omega), i2_at, if_neg (by omega), sp_wt_o (rb_T8 hb) ht (by omega), i2_at, if_neg (by omega)]
theorem wk1_6 {t : Nat} : sp_wk1 I m n t (m + 1) (200 + 14 * t + 6) = 0 := by
  unfold sp_wk1
  rw [sp_log_r, i2_ua (by omega), sp_wt_6]
theorem wk1_8 {pb : Int32} (hb : rb_ I m n pb) {t : Nat} (ht : t < n) : sp_wk1 I m n t (m + 1) (200 + 14 * t + 8) = -1 := by
  unfold sp_wk1
  rw [sp_log_r, i2_ua (by omega), sp_wt_o (rb_T8 hb) ht (by omega), i2_us]
theorem rb_wk1 {pb : Int32} (hb : rb_ I m n pb) {t : Nat} (ht : t < n) : rb_ (sp_wk1 I m n t) m n pb :=
  rb_log (rb_o (rb_wt (rb_T8 hb) ht) (i2_ua (by omega)) (fun _ _ => i2_ua (by omega)) (fun _ _ => i2_ua (by omega)))
theorem lb_wk1 {pb : Int32} (hb : rb_ I m n pb) {t b : Nat} (ht : t < n) (h : lb_ I m b) (hb2 : b < 2000000000) : lb_ (sp_wk1 I m n t) m (b + 1) := by
  refine lb_log (b := b) (lb_o h ?_ ?_ (Nat.le_refl _)) hb2
  · rw [i2_uj (by omega), sp_wt_o (rb_T8 hb) ht (by omega), i2_ua (by omega)]
  · rw [i2_uj (by omega), sp_wt_o (rb_T8 hb) ht (by omega), i2_ua (by omega)]
theorem wk1_s {pb : Int32} (hb : rb_ I m n pb) {t t' : Nat} (ht : t < n) : ra_T (sp_wk1 I m n t) m t' 6 = if t' = t then 0 else ra_T I m t' 6 := by
  by_cases e : t' = t
  · rw [if_pos e, e]
    exact wk1_6
  · rw [if_neg e]
    exact wk1_o hb ht (by omega) (by omega) (by omega)
theorem nr_of {t : Nat} (h : sp_nr I m n = some t) : t < n ∧ ra_T I m t 6 = 2 := by
  have := bs_lt h
  exact ⟨this.1, of_decide_eq_true this.2⟩
theorem rc2_wk1 {pb : Int32} (hb : rb_ I m n pb) {t : Nat} (ht : t < n) (h2 : ra_T I m t 6 = 2) : rc2_ (sp_wk1 I m n t) m n + 1 = rc2_ I m n := by
  have := cs_one (I := I) (J := sp_wk1 I m n t) (m := m) (n := n) (t := t) (v := 0) 2 ht (fun t' _ => wk1_s hb ht)
  rw [if_pos h2, if_neg (by decide)] at this
  exact this
theorem rc_wk5 (RK : rf_ok B m) {pb : Int32} {P : (Nat → Nat → Int32) → Prop} : ∀ (k : Nat) {I : Nat → Nat → Int32} {b : Nat}, rb_ I m n pb → lb_ I m b → b + rc2_ I m n < 2000000000 → rc2_ I m n < k → P (sp_wk k I m n) → rw_v mt_X11_wakes 5 [some (pv_r m), some (pv_i (io_ (sp_nr I m n)))] [] B I P
  | 0, I, b, _, _, _, hk, _ => by omega
  | k + 1, I, b, hb, hL, hb2, hk, K => by
    have h4 := hb.2.1
    unfold sp_wk at K
    cases e : sp_nr I m n with
    | none =>
      rw [e] at K
      exact wq_X11_wakes_5 RK ⟨fun _ => K, fun c => absurd rfl c⟩
    | some t =>
      rw [e] at K
      obtain ⟨ht, h2⟩ := nr_of e
      have hc := rc2_wk1 hb ht h2
      refine wq_X11_wakes_5 RK ⟨fun c => absurd c (nI_nm (by omega)), fun _ => ⟨t, ⟨rfl, by omega⟩, fun c => ?_, fun c I2 h2' => ?_⟩⟩
      · simp only [if_pos (show I (m + 1) 0 < ra_T I m t 8 from c)] at K
        exact K
      · simp only [if_neg (show ¬ I (m + 1) 0 < ra_T I m t 8 from c)] at K
        rw [h2']
        refine rc_wt RK (rb_T8 hb) rfl ht (fun I4 h4' => ?_)
        rw [sp_wt_o (rb_T8 hb) ht (by omega), i2_ua (by omega)] at h4'
        have hL4 : lb_ I4 m b := by
          rw [h4']
          refine lb_o hL ?_ ?_ (Nat.le_refl _)
          · rw [i2_uj (by omega), sp_wt_o (rb_T8 hb) ht (by omega), i2_ua (by omega)]
          · rw [i2_uj (by omega), sp_wt_o (rb_T8 hb) ht (by omega), i2_ua (by omega)]
        refine rc_log RK hL4 (by omega) rfl (by omega) ?_
        have e1 : sp_log I4 m 5 t (-1) 0 = sp_wk1 I m n t := by rw [h4']; rfl
        rw [e1]
        exact rc_nr RK (rb_wk1 hb ht).1 h4 (rc_wk5 RK k (rb_wk1 hb ht) (lb_wk1 hb ht hL (by omega)) (by omega) (by omega) K)
theorem rc_wk (RK : rf_ok B m) {pb : Int32} {b : Nat} (hb : rb_ I m n pb) (hL : lb_ I m b) (hb2 : b < 1999000000) {P : (Nat → Nat → Int32) → Prop} (K : P (sp_wk 401 I m n)) : rs_v mt_X11_wakes [pv_r m] B I P := by
  have h4 := hb.2.1
  have : rc2_ I m n ≤ n := cn_le _ _
  exact wq_X11_wakes_0 RK (rc_nr RK hb.1 hb.2.1 (rc_wk5 RK 401 hb hL (by omega) (by omega) K))
end Sp3
