/-! the acts keep the invariant: coming, taking, done, failing -/
section Acts2
variable {I J : Nat → Nat → Int32} {m n T W P L : Nat}
theorem s7_3 {x : Int32} (h : ∃ s, s < 7 ∧ x = nI s) (h4 : ¬ x = 4) (h5 : ¬ x = 5) (h6 : ¬ x = 6) : x ≤ 3 := by
  obtain ⟨s, hs, e⟩ := h
  have : s ≤ 3 := by
    rcases Nat.lt_or_ge s 4 with q | q
    · omega
    · have : s = 4 ∨ s = 5 ∨ s = 6 := by omega
      rcases this with z | z | z
      · exact absurd (by rw [e, z]; rfl) h4
      · exact absurd (by rw [e, z]; rfl) h5
      · exact absurd (by rw [e, z]; rfl) h6
  rw [e]
  exact show nI s ≤ nI 3 from nI_le this (by decide)
theorem ix_nz (h : ix_ I m n T W P L) (hT : T < 1000000) {l p sz k s : Nat} {x5 v : Int32} (hn : n < 400) (hl : l < 5) (hp : p < 10) (hsz : sz < 21) (hsz1 : 1 ≤ sz) (hk : k < 10000) (hx5 : x5 = -1 ∨ ∃ q, q < n ∧ x5 = nI q) (hv : v = nI s) (hs : s = 0 ∨ s = 1) (h1 : s = 1 → ∃ q, q < n ∧ x5 = nI q ∧ ra_T I m q 6 ≤ 3) (hst : cn_ (ra_st I m (-1)) n < 48) {I1 Z : Nat → Nat → Int32} (hI1 : ∀ a j, (a ≠ m + 1 ∨ j ≠ 10 + 10 * l + 4) → I1 a j = I a j) (hL4 : ∀ l, l < 5 → ∃ p, p ≤ P ∧ ra_L I1 m l 4 = nI p) (z : nz_ Z I I1 m n (nI l) (nI p) (nI sz) (nI k) x5 v) : ix_ Z m (n + 1) T W P L := by
  obtain ⟨⟨a1, a2, a3, a4⟩, ⟨b1, b2, b3, b4⟩, c⟩ := id h
  obtain ⟨z1, ⟨n0, n1, n2, n3, n4, n5, n6, n7, n8⟩, z3, z4, z5, z6⟩ := z
  have hL : ∀ l' f, l' < 5 → f < 4 → ra_L Z m l' f = ra_L I m l' f := fun l' f q1 q2 => (z3 l' f q1 (by omega)).trans (hI1 _ _ (by omega))
  have zW : ∀ w, w < 6 → ra_W Z m w 0 = ra_W I m w 0 := fun w q => z5 _ (by omega) (by omega)
  have v3 : ¬ v = 3 := by rw [hv]; rcases hs with e | e <;> rw [e] <;> decide
  have v2 : ¬ v = 2 := by rw [hv]; rcases hs with e | e <;> rw [e] <;> decide
  have v5 : ¬ v = 5 := by rw [hv]; rcases hs with e | e <;> rw [e] <;> decide
  have split : ∀ t, t < n + 1 → t < n ∨ t = n := fun t q => by omega
  refine ⟨⟨⟨⟨z4, by omega, fun t q => ?_⟩, fun t q => ?_, fun t q => ?_⟩, ivL_o a2 hL (fun j q1 q2 => z5 _ (by omega) (by omega)), ⟨fun t q => ?_, fun t q => ?_, fun w q => ?_⟩, fun t q y => ?_⟩, ⟨fun l' q y y2 => ?_, ?_, ?_, fun t q1 q2 => (z6 _ _ (by omega)).trans (b4 t (by omega) q2)⟩, ?_⟩
  · rcases split t q with e | e
    · rw [z1 t 0 e (by decide), z1 t 6 e (by decide)]; exact a1.1.2.2 t e
    · rw [e, n0, n6]; exact ⟨⟨l, hl, rfl⟩, ⟨s, by omega, hv⟩⟩
  · rcases split t q with e | e
    · rw [z1 t 4 e (by decide)]; exact a1.2.1 t e
    · rw [e, n4]; exact hx5
  · rcases split t q with e | e
    · rw [z1 t 1 e (by decide), z1 t 2 e (by decide), z1 t 3 e (by decide), z1 t 5 e (by decide), z1 t 6 e (by decide), z1 t 7 e (by decide)]; exact a1.2.2 t e
    · obtain ⟨x, x1, x2⟩ := c.1
      rw [e, n1, n2, n3, n5, n7]
      exact ⟨⟨p, hp, rfl⟩, ⟨sz, hsz, hsz1, rfl⟩, ⟨k, hk, rfl⟩, ⟨x, by omega, x2⟩, fun _ => ⟨0, by decide, rfl⟩⟩
  · rcases split t q with e | e
    · rw [z1 t 6 e (by decide), z1 t 9 e (by decide), z1 t 10 e (by decide), z1 t 11 e (by decide)]
      rcases a3.1 t e with ⟨y1, w, k', e', y2, y3, y4, y5⟩ | y
      · exact Or.inl ⟨y1, w, k', e', y2, y3, (zW w y2).trans y4, y5⟩
      · exact Or.inr y
    · rw [e, n6, n8 9 (by decide) (by decide), n8 10 (by decide) (by decide), n8 11 (by decide) (by decide)]
      exact Or.inr ⟨v3, rfl, rfl, rfl⟩
  · rcases split t q with e | e
    · rw [z1 t 6 e (by decide), z1 t 8 e (by decide)]; exact a3.2.1 t e
    · rw [e, n6, n8 8 (by decide) (by decide)]; exact Or.inr ⟨v2, rfl⟩
  · rw [zW w q]
    rcases a3.2.2 w q with y | ⟨t, y1, y2, y3, y4⟩
    · exact Or.inl y
    · exact Or.inr ⟨t, by omega, y2, by rw [z1 t 6 y1 (by decide)]; exact y3, by rw [z1 t 9 y1 (by decide)]; exact y4⟩
  · rcases split t q with e | e
    · rw [z1 t 6 e (by decide)] at y
      obtain ⟨q', q1, q2, q3⟩ := a4 t e y
      exact ⟨q', q1, by rw [z1 t 4 e (by decide)]; exact q2, by rw [z1 q' 6 (by omega) (by decide)]; exact q3⟩
    · rw [e, n6, hv] at y
      have hs1 : s = 1 := (nI_eq (by omega) (by omega)).mp (show nI s = nI 1 from y)
      obtain ⟨q', q1, q2, q3⟩ := h1 hs1
      rw [e, n4]
      exact ⟨q', q1, q2, by rw [z1 q' 6 q1 (by decide)]; exact q3⟩
  · rw [hL l' 3 q (by decide)] at y
    have := b1 l' q y
    have e : cn_ (ra_st Z m (nI l')) n = cn_ (ra_st I m (nI l')) n := cn_eq (fun t q => by unfold ra_st; rw [z1 t 0 q (by decide), z1 t 6 q (by decide)])
    have hle : cn_ (ra_st Z m (nI l')) n ≤ cn_ (ra_st Z m (nI l')) (n + 1) := Nat.le_add_right _ _
    omega
  · obtain ⟨as, s1, s2, s3, s4⟩ := b2
    refine ⟨as, (z5 _ (by omega) (by omega)).trans s1, s2, fun t => ?_, fun i x q => (z5 _ (by omega) (by omega)).trans (s4 i x q)⟩
    rw [s3 t]
    constructor
    · rintro ⟨q1, q2⟩
      exact ⟨by omega, by rw [z1 t 6 q1 (by decide)]; exact q2⟩
    · rintro ⟨q1, q2⟩
      rcases split t q1 with e | e
      · rw [z1 t 6 e (by decide)] at q2; exact ⟨e, q2⟩
      · rw [e, n6] at q2; exact absurd q2 v5
  · unfold ivR
    have e : cn_ (ra_st Z m (-1)) n = cn_ (ra_st I m (-1)) n := cn_eq (fun t q => by unfold ra_st; rw [z1 t 0 q (by decide), z1 t 6 q (by decide)])
    show cn_ (ra_st Z m (-1)) n + _ ≤ 48
    split <;> omega
  · obtain ⟨c1, c2, c3, c4, c5, c6, c7⟩ := c
    refine ⟨by rw [z5 _ (by omega) (by omega)]; exact c1, by rw [z5 _ (by omega) (by omega)]; exact c2, fun l' q => by rw [z3 l' 4 q (by decide)]; exact hL4 l' q, by rw [z6 _ _ (by omega)]; exact c4, (z6 _ _ (by omega)).trans c5, fun j => ⟨(z6 _ _ (by omega)).trans (c6 j).1, (z6 _ _ (by omega)).trans (c6 j).2⟩, fun t q => ?_⟩
    rw [z6 _ _ (by omega)]
    rcases split t q with e | e
    · exact c7 t e
    · rw [e, b4 n (Nat.le_refl _) hn]; exact ⟨0, by decide, rfl⟩
theorem lft_b (h : ix_ I m n T W P L) (hP : P < 2147483648) {l : Nat} (hl : l < 5) : ∀ l', l' < 5 → ∃ p, p ≤ P ∧ ra_L (lft_ I m n l) m l' 4 = nI p := fun l' q => by
  have hrb := ix_rb h hP
  rw [lft_4]
  split
  · exact i32_in (nI_toInt (by omega)) (ra_up_b hrb.2.2.2 hl)
  · exact h.2.2.2.2.1 l' q
theorem ix_com (h : ix_ I m n T W P L) (hT : T < 1000000) (hP : P < 2147483648) (hL : L < 1999999999) {x1 x2 x3 x4 x5 : Int32} (hw : sp_why I m n x1 x2 x3 x4 x5 = 0) : ix_ (sp_com I m n x1 x2 x3 x4 x5) m (n + 1) T W P (L + 1) := by
  obtain ⟨l, p, s, k, hl, e1, hp, e2, hs1, hs, e3, hk, e4, hq, -, hn, hst, -, -⟩ := why_0 (ix_4 h) hw
  subst e1 e2 e3 e4
  obtain ⟨rm, hrm, -, erm⟩ := h.1.2.1.2.2.2.2.2.1
  have hcn := cn_le (ra_st I m (-1)) n
  rw [erm, nI_ltI (by omega) (by omega)] at hst
  have hq5 : x5 = -1 ∨ ∃ q, q < n ∧ x5 = nI q := hq.imp id (fun ⟨q, q1, q2, _⟩ => ⟨q, q1, q2⟩)
  have z := new_nz (I := I) (m := m) (n := n) (x1 := nI l) (x2 := nI p) (x3 := nI s) (x4 := nI k) (x5 := x5) hn
  unfold sp_com
  by_cases hh : ra_held (sp_new I m n (nI l) (nI p) (nI s) (nI k) x5) m n = true
  · rw [if_pos hh]
    refine ix_lg (ix_nz h hT (s := 1) hn hl hp (by omega) hs1 hk hq5 rfl (Or.inr rfl) (fun _ => ?_) (by omega) (I1 := I) (fun _ _ _ => rfl) (fun l' q => h.2.2.2.2.1 l' q) z) (by omega)
    have hd : ¬ ra_T (sp_new I m n (nI l) (nI p) (nI s) (nI k) x5) m n 4 = -1 ∧ ¬ ra_T (sp_new I m n (nI l) (nI p) (nI s) (nI k) x5) m (ra_T (sp_new I m n (nI l) (nI p) (nI s) (nI k) x5) m n 4).toNatClampNeg 6 = 4 := of_decide_eq_true hh
    rw [z.2.1.2.2.2.2.1] at hd
    rcases hq with q | ⟨q, q1, q2, q3, q4⟩
    · exact absurd q hd.1
    · refine ⟨q, q1, q2, s7_3 (ix_s h q1) ?_ q4 q3⟩
      have cq : x5.toNatClampNeg = q := by rw [q2]; exact nI_clamp (by omega)
      have := hd.2
      rw [cq, z.1 q 6 q1 (by decide)] at this
      exact this
  · rw [if_neg hh]
    exact ix_lg (ix_nz h hT (s := 0) hn hl hp (by omega) hs1 hk hq5 rfl (Or.inl rfl) (fun q => by cases q) (by omega) (I1 := lft_ I m n l) (fun a j q => lft_o q) (lft_b h hP hl) (new_wt hl hn)) (by omega)
/-! taking -/
theorem ix_tk (h : ix_ I m n T W P L) (hTb : T < 100000) (hWb : W < 100000000) (hP : P + 50400 < 2147483648) (hL : L < 1999999999) {t w l : Nat} (ht : t < n) (hl : l < 5) (hw : w < 6) (h0 : ra_T I m t 0 = nI l) (h6 : ra_T I m t 6 = 0) (hw0 : ra_W I m w 0 = -1) : ix_ (sp_tk I m t w l) m n T (W + 1) (P + 50400) (L + 1) := by
  have hn := ix_4 h
  have ko : ∀ a j, (a ≠ m + 1 ∨ (j ≠ 2 ∧ j ≠ 200 + 14 * t + 6 ∧ j ≠ 200 + 14 * t + 9 ∧ j ≠ 200 + 14 * t + 10 ∧ j ≠ 200 + 14 * t + 11 ∧ j ≠ 60 + 4 * w ∧ j ≠ 60 + 4 * w + 1 ∧ (j < 10 + 10 * l + 4 ∨ 10 + 10 * l + 9 < j))) → a ≠ m + 6 → (a ≠ m ∨ j ≠ 6) → sp_tk I m t w l a j = I a j := fun a j => tk_o
  have k10 : ∀ j, (j < 10 + 10 * l + 4 ∨ 10 + 10 * l + 9 < j) → sp_tk I m t w l (m + 1) j = sp_tk10 I m t w (m + 1) j := fun j q => by
    unfold sp_tk
    rw [sp_log_r]
    unfold sp_tk17
    split
    · unfold sp_tk14
      rw [i2_uj (by omega), i2_uj (by omega), i2_uj (by omega), pass_o (by omega)]
    · rw [i2_uj (by omega), i2_uj (by omega)]
      unfold sp_tk14
      rw [i2_uj (by omega), i2_uj (by omega), i2_uj (by omega), pass_o (by omega)]
  have k6 : ra_T (sp_tk I m t w l) m t 6 = 3 := by
    refine (k10 _ (by omega)).trans ?_
    unfold sp_tk10 sp_tk7
    rw [i2_uj (by omega), i2_uj (by omega), i2_uj (by omega), i2_uj (by omega), i2_uj (by omega), i2_us]
  have k9 : ra_T (sp_tk I m t w l) m t 9 = nI w := by
    refine (k10 _ (by omega)).trans ?_
    unfold sp_tk10 sp_tk7
    rw [i2_uj (by omega), i2_uj (by omega), i2_uj (by omega), i2_uj (by omega), i2_us]
  have k10' : ra_T (sp_tk I m t w l) m t 10 = I (m + 1) 2 + 1 := by
    refine (k10 _ (by omega)).trans ?_
    unfold sp_tk10 sp_tk7
    rw [i2_uj (by omega), i2_uj (by omega), i2_uj (by omega), i2_us]
  have k11 : ra_T (sp_tk I m t w l) m t 11 = I (m + 1) 0 + I (m + 1) 5 := by
    refine (k10 _ (by omega)).trans ?_
    unfold sp_tk10 sp_tk7
    rw [i2_uj (by omega), i2_uj (by omega), i2_us]
  have kW : ra_W (sp_tk I m t w l) m w 0 = nI t := by
    refine (k10 _ (by omega)).trans ?_
    unfold sp_tk10
    rw [i2_uj (by omega), i2_us]
  have k2 : sp_tk I m t w l (m + 1) 2 = I (m + 1) 2 + 1 := by
    refine (k10 _ (by omega)).trans ?_
    unfold sp_tk10 sp_tk7
    rw [i2_uj (by omega), i2_uj (by omega), i2_uj (by omega), i2_uj (by omega), i2_uj (by omega), i2_uj (by omega), i2_us]
  have kL : ∀ l', l' < 5 → ra_L (sp_tk I m t w l) m l' 4 = if l' = l then I (m + 1) (10 + 10 * l + 4) + (2520 / I (m + 1) (10 + 10 * l + 0)) * I (m + 1) (200 + 14 * t + 2) else ra_L I m l' 4 := fun l' q => by
    by_cases e : l' = l
    · rw [if_pos e, e]
      unfold sp_tk ra_L
      rw [sp_log_r]
      have e14 : sp_tk14 I m t w l (m + 1) (10 + 10 * l + 4) = I (m + 1) (10 + 10 * l + 4) + (2520 / I (m + 1) (10 + 10 * l + 0)) * I (m + 1) (200 + 14 * t + 2) := by
        unfold sp_tk14
        rw [i2_uj (by omega), i2_uj (by omega), i2_uj (by omega)]
        unfold sp_pass
        rw [i2_us, tk10_o (by omega), tk10_o (by omega), tk10_o (by omega)]
      unfold sp_tk17
      split
      · exact e14
      · rw [i2_uj (by omega), i2_uj (by omega)]
        exact e14
    · rw [if_neg e]
      exact ko _ _ (by omega) (by omega) (by omega)
  have f6 : ∀ t', t' < n → ra_T (sp_tk I m t w l) m t' 6 = if t' = t then 3 else ra_T I m t' 6 := fun t' q => by
    by_cases e : t' = t
    · rw [if_pos e, e]; exact k6
    · rw [if_neg e]; exact ko _ _ (by omega) (by omega) (by omega)
  have st : ∀ t', t' < n → ra_T I m t' 6 ≤ 3 → ra_T (sp_tk I m t w l) m t' 6 ≤ 3 := fun t' q z => by
    rw [f6 t' q]
    split
    · decide
    · exact z
  obtain ⟨x, x1, x2⟩ := h.2.2.1
  obtain ⟨y, y1, y2⟩ := h.2.2.2.1
  obtain ⟨le, le1, le2, ele⟩ := h.1.2.1.2.2.1
  obtain ⟨w0, hw01, hw02, ew0⟩ := (h.1.2.1.1 l hl).1
  obtain ⟨sz, hsz, hsz1, esz⟩ := (h.1.1.2.2 t ht).2.1
  have h' : ix_ I m n T (W + 1) P L := ix_up h (Nat.le_refl _) (by omega) (Nat.le_refl _) (Nat.le_refl _)
  refine ix_1t h' ht (s := 3) (v := 3) rfl (by decide) (by decide) (by rw [h6]; decide) (fun a j q1 q2 q3 q4 q5 q6 q7 q8 => ko _ _ (by omega) (by omega) (by omega)) f6 (fun t' q z => by
    rw [show ra_T (sp_tk I m t w l) m t' 7 = ra_T I m t' 7 from ko _ _ (by omega) (by omega) (by omega)]
    refine ix_7 h q ?_
    rw [f6 t' q] at z
    by_cases e : t' = t
    · rw [e, h6]; decide
    · rw [if_neg e] at z; exact z) ⟨fun t' q => ?_, fun t' q => ?_, fun w' q => ?_⟩ (fun q => by omega) (fun q => by omega) ?_ ?_ ?_
  · by_cases e : t' = t
    · rw [e, k6, k9, k10', k11, x2, y2, ele, nI_1, nI_add]
      exact Or.inl ⟨rfl, w, y + 1, x + le, hw, rfl, kW, by omega, rfl, by omega, rfl⟩
    · have eT : ∀ f, f < 14 → ra_T (sp_tk I m t w l) m t' f = ra_T I m t' f := fun f _ => ko _ _ (by omega) (by omega) (by omega)
      rw [eT 6 (by decide), eT 9 (by decide), eT 10 (by decide), eT 11 (by decide)]
      rcases h.1.2.2.1.1 t' q with ⟨a1, w1, k', e', a2, a3, a4, a5⟩ | a1
      · have hne : w1 ≠ w := fun z => by
          rw [z, hw0] at a4
          exact nI_nm (by omega) a4.symm
        exact Or.inl ⟨a1, w1, k', e', a2, a3, (ko _ _ (by omega) (by omega) (by omega)).trans a4, a5⟩
      · exact Or.inr a1
  · by_cases e : t' = t
    · rw [e, k6, show ra_T (sp_tk I m t w l) m t 8 = ra_T I m t 8 from ko _ _ (by omega) (by omega) (by omega)]
      rcases h.1.2.2.1.2.1 t ht with ⟨z, -⟩ | ⟨-, z⟩
      · rw [h6] at z; exact absurd z (by decide)
      · exact Or.inr ⟨by decide, z⟩
    · have eT : ∀ f, f < 14 → ra_T (sp_tk I m t w l) m t' f = ra_T I m t' f := fun f _ => ko _ _ (by omega) (by omega) (by omega)
      rw [eT 6 (by decide), eT 8 (by decide)]
      exact h.1.2.2.1.2.1 t' q
  · by_cases e : w' = w
    · rw [e, kW]
      exact Or.inr ⟨t, ht, rfl, k6, k9⟩
    · rw [show ra_W (sp_tk I m t w l) m w' 0 = ra_W I m w' 0 from ko _ _ (by omega) (by omega) (by omega)]
      rcases h.1.2.2.1.2.2 w' q with z | ⟨t', z1, z2, z3, z4⟩
      · exact Or.inl z
      · have hne : t' ≠ t := fun y => by rw [y, h6] at z3; exact absurd z3 (by decide)
        exact Or.inr ⟨t', z1, z2, (ko _ _ (by omega) (by omega) (by omega)).trans z3, (ko _ _ (by omega) (by omega) (by omega)).trans z4⟩
  · exact ivC_o h.2.1.1 (fun l' q => ko _ _ (by omega) (by omega) (by omega)) (fun t' q => ko _ _ (by omega) (by omega) (by omega)) st
  · refine ivR_o h.2.1.2.2.1 (fun t' q z => ?_)
    rw [f6 t' q] at z
    by_cases e : t' = t
    · rw [e, h6]; decide
    · rw [if_neg e] at z; exact z
  · obtain ⟨c1, c2, c3, c4, c5, c6, c7⟩ := h.2.2
    refine ⟨by rw [ko _ _ (by omega) (by omega) (by omega)]; exact c1, ⟨y + 1, by omega, by rw [k2, y2, nI_1]⟩, fun l' q => ?_, ?_, (ko _ _ (by omega) (by omega) (by omega)).trans c5, fun j => ⟨(ko _ _ (by omega) (by omega) (by omega)).trans (c6 j).1, (ko _ _ (by omega) (by omega) (by omega)).trans (c6 j).2⟩, fun t' q => by rw [ko _ _ (by omega) (by omega) (by omega)]; exact c7 t' q⟩
    · rw [kL l' q]
      by_cases e : l' = l
      · rw [if_pos e]
        obtain ⟨p, p1, p2⟩ := c3 l hl
        rw [show I (m + 1) (10 + 10 * l + 4) = nI p from p2, show I (m + 1) (10 + 10 * l + 0) = nI w0 from ew0, show I (m + 1) (200 + 14 * t + 2) = nI sz from esz, show (2520 : Int32) = nI 2520 from rfl, pk_div (by decide) (by omega) (by omega), pk_mul, nI_add]
        have hb1 : 2520 / w0 ≤ 2520 := Nat.div_le_self _ _
        have hb2 : 2520 / w0 * sz ≤ 2520 * 20 := Nat.mul_le_mul hb1 (by omega)
        exact ⟨_, by omega, rfl⟩
      · rw [if_neg e]
        obtain ⟨p, p1, p2⟩ := c3 l' q
        exact ⟨p, by omega, p2⟩
    · have hlb : lb_ (sp_tk17 I m t w l) m L := by
        have to : ∀ a j, a ≠ m + 1 → sp_tk17 I m t w l a j = I a j := fun a j q => by
          unfold sp_tk17
          split
          · exact tk14_o (Or.inl q)
          · rw [i2_ua q, i2_ua q, tk14_o (Or.inl q)]
        exact lb_o (ix_lb h) (to _ _ (by omega)) (to _ _ (by omega)) (Nat.le_refl _)
      exact lb_log hlb (by omega) ((ko _ _ (by omega) (by omega) (by omega)).trans c5)
/-! several tasks change -/
theorem ix_mt (h : ix_ I m n T W P L) {P' L' : Nat} (h1 : J (m + 1) 1 = I (m + 1) 1) (hT : ∀ t f, t < n → f < 6 → ra_T J m t f = ra_T I m t f) (h7 : ∀ t, t < n → ra_T J m t 6 ≤ 3 → ∃ r, r < 9 ∧ ra_T J m t 7 = nI r) (h6 : ∀ t, t < n → ∃ s, s < 7 ∧ ra_T J m t 6 = nI s) (hsub : ∀ t, t < n → ra_T J m t 6 ≤ 3 → ra_T I m t 6 ≤ 3) (hL : ∀ l f, l < 5 → f < 3 → ra_L J m l f = ra_L I m l f) (h3 : ∀ l, l < 5 → ∃ s, s < 3 ∧ ra_L J m l 3 = nI s) (hr : ∀ j, 4 ≤ j → j < 10 → J (m + 1) j = I (m + 1) j) (hW : ivW J m n) (hH : ivH J m n) (hC : ivC J m n) (hS : ivS J m n) (hZ : ∀ t, n ≤ t → J (m + 4) t = I (m + 4) t) (hN : ivN J m n T W P' L') : ix_ J m n T W P' L' := by
  obtain ⟨⟨a1, a2, a3, a4⟩, ⟨b1, b2, b3, b4⟩, c⟩ := id h
  refine ⟨⟨ivT_o a1 h1 hT h6 h7, ?_, hW, hH⟩, ⟨hC, hS, ivR_o b3 hsub, fun t q1 q2 => (hZ t q1).trans (b4 t q1 q2)⟩, hN⟩
  obtain ⟨d, e1, e2, e3, e4, e5, e6⟩ := a2
  refine ⟨fun l hl => ?_, by rw [hr 4 (by omega) (by omega)]; exact e1, by rw [hr 5 (by omega) (by omega)]; exact e2, by rw [hr 6 (by omega) (by omega)]; exact e3, by rw [hr 7 (by omega) (by omega)]; exact e4, by rw [hr 8 (by omega) (by omega)]; exact e5, by rw [hr 9 (by omega) (by omega)]; exact e6⟩
  rw [hL l 0 hl (by decide), hL l 1 hl (by decide), hL l 2 hl (by decide)]
  exact ⟨(d l hl).1, (d l hl).2.1, (d l hl).2.2.1, h3 l hl⟩
theorem cls_rng (h : ∀ l, l < 5 → ∃ s, s < 3 ∧ ra_L I m l 3 = nI s) : ∀ l, l < 5 → ∃ s, s < 3 ∧ ra_L (ra_cls I m n 5) m l 3 = nI s := fun l hl => by
  rw [cls_3 hl]
  unfold opn_
  split
  · exact ⟨2, by decide, rfl⟩
  · exact h l hl
end Acts2
