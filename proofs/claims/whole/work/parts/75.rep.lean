/-! THE CLASS against the reference's ints: the relation re_, piece by piece, and each piece over another memory and other ints -/
section Rep0
variable {M M' : mm_T} {I J : Nat → Nat → Int32} {m n b : Nat} {ta tm : Nat → Nat}
def kd_ (M M' : mm_T) : Prop := ∀ a, mm_k M a ≠ (0, 0) → mm_k M' a = mm_k M a
theorem kd_at (h : kd_ M M') {a c k : Nat} (e : mm_k M a = (c, k)) (h0 : c ≠ 0 ∨ k ≠ 0) : mm_k M' a = (c, k) := by
  rw [h a (by rw [e]; intro q; simp at q; omega), e]
theorem kd_fx {SI SR : Nat → Nat → Prop} (f : fx_ SI SR M M') : kd_ M M' := fun a _ => f.2.1 a
theorem kd_ak (h : kd_ M M') {r y k : Nat} (q : ak_ M r y k) : ak_ M' r y k := by
  obtain ⟨tg, h1, h2, h3⟩ := q
  exact ⟨tg, kd_at h h1 (Or.inl (by omega)), h2, h3⟩
theorem bS_k (h : bS M b) (hk : kd_ M M') (hr : ∀ a j, (a = b ∨ a = b + 1 ∨ a = b + 2) → mm_r M' a j = mm_r M a j) (hi : ∀ l, l < 5 → mm_i M' (b + 6 + l) 0 = mm_i M (b + 6 + l) 0) : bS M' b := by
  obtain ⟨h1, h2, h3, h4, h5, h6, h7, h8, h9, h10, h11, h12⟩ := h
  refine ⟨kd_at hk h1 (by omega), (hr _ _ (Or.inl rfl)).trans h2, kd_ak hk h3, (hr _ _ (Or.inl rfl)).trans h4, kd_at hk h5 (by omega), (hr _ _ (Or.inr (Or.inr rfl))).trans h6, kd_ak hk h7, (hr _ _ (Or.inl rfl)).trans h8, kd_ak hk h9, (hr _ _ (Or.inl rfl)).trans h10, kd_ak hk h11, fun l hl => ?_⟩
  obtain ⟨g1, g2, g3⟩ := h12 l hl
  exact ⟨kd_at hk g1 (by omega), (hr _ _ (Or.inr (Or.inl rfl))).trans g2, (hi l hl).trans g3⟩
theorem ro_kd {r r0 cap : Nat} {xs : List Nat} (h : ro_ M r r0 cap xs) (hk : kd_ M M') (h1 : mm_r M' r 0 = mm_r M r 0) (h2 : mm_i M' r 1 = mm_i M r 1) (h3 : ∀ i, mm_r M' r0 i = mm_r M r0 i) : ro_ M' r r0 cap xs := by
  obtain ⟨a1, a2, a3, a4, a5, a6, a7, a8⟩ := h
  exact ⟨kd_at hk a1 (by omega), h1.trans a2, kd_ak hk a3, a4, a5, h2.trans a6, fun i x q => (h3 i).trans (a7 i x q), a8⟩
theorem bd0_k {sg : Nat → Int32} {lm : Nat → Nat} (h : bd0 M b n sg lm ta) (hk : kd_ M M') (hr : ∀ a j, (a = b ∨ a = b + 1 ∨ a = b + 2 ∨ a = b + 3) → mm_r M' a j = mm_r M a j) (hl : ∀ l j, l < 5 → (j = 0 ∨ j = 6 ∨ j = 7 ∨ j = 8) → mm_i M' (b + 6 + l) j = mm_i M (b + 6 + l) j) (hc : ∀ j, mm_i M' (b + 4) j = mm_i M (b + 4) j) (h2 : mm_i M' (b + 2) 1 = mm_i M (b + 2) 1) (ht : ∀ t, t < n → sd_ (sg t) = true → mm_i M' (ta t) 0 = mm_i M (ta t) 0 ∧ mm_i M' (ta t) 7 = mm_i M (ta t) 7 ∧ mm_r M' (ta t) 2 = mm_r M (ta t) 2) : bd0 M' b n sg lm ta := by
  obtain ⟨a1, a2, a3, a4, a5, a6⟩ := h
  refine ⟨bS_k a1 hk (fun a j q => hr a j (by omega)) (fun l q => hl l 0 q (Or.inl rfl)), a2, fun l q => ?_, fun s q => (hc s).trans (a4 s q), ro_kd a5 hk (hr _ _ (by omega)) h2 (fun i => hr _ _ (by omega)), fun t q1 q2 => ?_⟩
  · rw [hl l 6 q (by omega), hl l 7 q (by omega), hl l 8 q (by omega)]
    exact a3 l q
  · obtain ⟨g1, g2, g3, g4, g5⟩ := a6 t q1 q2
    obtain ⟨e1, e2, e3⟩ := ht t q1 q2
    exact ⟨kd_at hk g1 (by omega), e1.trans g2, e2.trans g3, e3.trans g4, g5⟩
theorem br_o (h : br_ M b ta I m n) (hk : kd_ M M') (hr : ∀ a j, (a = b ∨ a = b + 1 ∨ a = b + 2 ∨ a = b + 3) → mm_r M' a j = mm_r M a j) (hl : ∀ l j, l < 5 → j ≠ 4 → j < 9 → mm_i M' (b + 6 + l) j = mm_i M (b + 6 + l) j) (hc : ∀ j, mm_i M' (b + 4) j = mm_i M (b + 4) j) (h5 : ∀ j, j < 6 → mm_i M' (b + 5) j = mm_i M (b + 5) j) (h2 : mm_i M' (b + 2) 1 = mm_i M (b + 2) 1) (ht : ∀ t j, t < n → (j = 0 ∨ j = 3 ∨ j = 4 ∨ j = 6 ∨ j = 7) → mm_i M' (ta t) j = mm_i M (ta t) j) (htr : ∀ t, t < n → mm_r M' (ta t) 2 = mm_r M (ta t) 2)
    (hI : ∀ j, (j = 1 ∨ (4 ≤ j ∧ j < 10)) → J (m + 1) j = I (m + 1) j) (hL : ∀ l f, l < 5 → (f = 0 ∨ f = 1 ∨ f = 2 ∨ f = 4) → ra_L J m l f = ra_L I m l f) (hT : ∀ t f, t < n → (f = 0 ∨ f = 1 ∨ f = 2 ∨ f = 5 ∨ f = 6) → ra_T J m t f = ra_T I m t f) : br_ M' b ta J m n := by
  obtain ⟨a1, a2, a3, a4, a5, a6⟩ := h
  have eS : ∀ t, t < n → sgI J m t = sgI I m t := fun t q => hT t 6 q (by omega)
  refine ⟨?_, tv_o a2 (hI 1 (by omega)) (fun t q => ⟨hT t 0 q (by omega), hT t 6 q (by omega)⟩), fun l q => ?_, fun k q => ?_, fun t q1 q2 => ?_, fun t t' q1 q2 q3 q4 => ?_⟩
  · refine bd0_sg (sg := sgI I m) (lm := lmI I m) (bd0_k a1 hk hr (fun l j q1 q2 => hl l j q1 (by omega) (by omega)) hc h2 (fun t q1 _ => ⟨ht t 0 q1 (by omega), ht t 7 q1 (by omega), htr t q1⟩)) eS (fun t q => by unfold lmI; rw [hT t 0 q (by omega)])
  · rw [hl l 1 q (by omega) (by omega), hl l 2 q (by omega) (by omega), hl l 3 q (by omega) (by omega), hl l 5 q (by omega) (by omega), hL l 0 q (by omega), hL l 1 q (by omega), hL l 2 q (by omega), hL l 4 q (by omega)]
    exact a3 l q
  · rw [h5 k q, hI _ (by omega)]
    exact a4 k q
  · rw [eS t q1] at q2
    rw [ht t 3 q1 (by omega), ht t 4 q1 (by omega), ht t 6 q1 (by omega), hT t 1 q1 (by omega), hT t 2 q1 (by omega), hT t 5 q1 (by omega)]
    exact a5 t q1 q2
  · rw [eS t q1] at q3
    rw [eS t' q2] at q4
    exact a6 t t' q1 q2 q3 q4
/-! what stands fast -/
def rS_ (M : mm_T) : Prop :=
  (mm_k M 5 = (10, 14) ∧ mm_r M 5 0 = 6 ∧ mm_r M 5 1 = 17 ∧ mm_r M 5 2 = 79 ∧ mm_r M 5 3 = 81 ∧ mm_r M 5 4 = 83 ∧ mm_r M 5 5 = 85 ∧ mm_r M 5 6 = 92 ∧ mm_r M 5 7 = 93 ∧ mm_r M 5 8 = 96 ∧ mm_r M 5 9 = 98) ∧
  (mm_k M 17 = (8, 8) ∧ mm_r M 17 0 = 18 ∧ mm_r M 17 1 = 29 ∧ mm_r M 17 2 = 30 ∧ ak_ M 29 3 48 ∧ ak_ M 30 0 5 ∧ (∀ i, i < 48 → mm_k M (31 + i) = (6, 17) ∧ mm_r M 29 i = 31 + i) ∧ bS M 18) ∧
  (ak_ M 85 5 6 ∧ (∀ w, w < 6 → mm_r M 85 w = 86 + w ∧ mm_k M (86 + w) = (9, 5) ∧ mm_i M (86 + w) 0 = nI w) ∧ ak_ M 92 4 12) ∧
  (mm_k M 93 = (5, 3) ∧ mm_r M 93 0 = 94 ∧ mm_r M 93 1 = 95 ∧ ak_ M 94 0 400 ∧ ak_ M 95 0 400) ∧
  (mm_k M 96 = (1, 3) ∧ mm_r M 96 0 = 97 ∧ ak_ M 97 0 384 ∧ mm_k M 98 = (2, 1)) ∧
  (mm_k M 83 = (4, 2) ∧ mm_r M 83 0 = 84 ∧ ak_ M 84 3 48) ∧
  (mm_k M 3 = (15, 6) ∧ (∀ k, k < 6 → mm_i M 3 k = nI ((fun k => if k < 2 then 99 else if k = 2 then 20 else if k = 4 then 48 else 9) k))) ∧ (mm_k M 4 = (15, 3) ∧ ∀ k, k < 3 → mm_i M 4 k = nI ((fun k => if k = 0 then 9 else if k = 1 then 32 else 6) k))
def sr_ (a : Nat) : Prop := a = 5 ∨ a = 17 ∨ a = 18 ∨ a = 19 ∨ a = 20 ∨ a = 29 ∨ a = 83 ∨ a = 85 ∨ a = 93 ∨ a = 96
def si_ (a j : Nat) : Prop := a = 3 ∨ a = 4 ∨ (((24 ≤ a ∧ a < 29) ∨ (86 ≤ a ∧ a < 92)) ∧ j = 0)
theorem rS_o (h : rS_ M) (hk : kd_ M M') (hr : ∀ a j, sr_ a → mm_r M' a j = mm_r M a j) (hi : ∀ a j, si_ a j → mm_i M' a j = mm_i M a j) : rS_ M' := by
  obtain ⟨⟨a1, a2, a3, a4, a5, a6, a7, a8, a9, a10, a11⟩, ⟨b1, b2, b3, b4, b5, b6, b7, b8⟩, ⟨c1, c2, c3⟩, ⟨d1, d2, d3, d4, d5⟩, ⟨e1, e2, e3, e4⟩, ⟨f1, f2, f3⟩, ⟨g1, g2⟩, g3, g4⟩ := h
  have r5 : ∀ j, mm_r M' 5 j = mm_r M 5 j := fun j => hr 5 j (by unfold sr_; omega)
  have r17 : ∀ j, mm_r M' 17 j = mm_r M 17 j := fun j => hr 17 j (by unfold sr_; omega)
  refine ⟨⟨kd_at hk a1 (by omega), (r5 _).trans a2, (r5 _).trans a3, (r5 _).trans a4, (r5 _).trans a5, (r5 _).trans a6, (r5 _).trans a7, (r5 _).trans a8, (r5 _).trans a9, (r5 _).trans a10, (r5 _).trans a11⟩, ⟨kd_at hk b1 (by omega), (r17 _).trans b2, (r17 _).trans b3, (r17 _).trans b4, kd_ak hk b5, kd_ak hk b6, fun i q => ⟨kd_at hk (b7 i q).1 (by omega), (hr 29 i (by unfold sr_; omega)).trans (b7 i q).2⟩, bS_k b8 hk (fun a j q => hr a j (by unfold sr_; omega)) (fun l q => hi _ _ (by unfold si_; omega))⟩, ⟨kd_ak hk c1, fun w q => ⟨(hr 85 w (by unfold sr_; omega)).trans (c2 w q).1, kd_at hk (c2 w q).2.1 (by omega), (hi _ _ (by unfold si_; omega)).trans (c2 w q).2.2⟩, kd_ak hk c3⟩, ⟨kd_at hk d1 (by omega), (hr 93 0 (by unfold sr_; omega)).trans d2, (hr 93 1 (by unfold sr_; omega)).trans d3, kd_ak hk d4, kd_ak hk d5⟩, ⟨kd_at hk e1 (by omega), (hr 96 0 (by unfold sr_; omega)).trans e2, kd_ak hk e3, kd_at hk e4 (by omega)⟩, ⟨kd_at hk f1 (by omega), (hr 83 0 (by unfold sr_; omega)).trans f2, kd_ak hk f3⟩, ⟨kd_at hk g1 (by omega), fun k q => (hi _ _ (by unfold si_; omega)).trans (g2 k q)⟩, kd_at hk g3 (by omega), fun k q => (hi _ _ (by unfold si_; omega)).trans (g4 k q)⟩
/-! the tasks -/
def rft (ta : Nat → Nat) (x : Int32) : Nat := if x = -1 then 0 else ta x.toNatClampNeg
def rfw (x : Int32) : Nat := if x = -1 then 0 else 86 + x.toNatClampNeg
def rcs (M : mm_T) (I : Nat → Nat → Int32) (m a t : Nat) : Prop := (mm_r M a 14 = 0 ∧ I (m + 4) t = 0) ∨ (112 ≤ mm_r M a 14 ∧ ak_ M (mm_r M a 14) 0 20 ∧ ∀ k, k < 20 → nI k < I (m + 4) t → mm_i M (mm_r M a 14) k = I (m + 5) (20 * t + k))
def tk_ (M : mm_T) (I : Nat → Nat → Int32) (m : Nat) (ta : Nat → Nat) (t : Nat) : Prop :=
  (mm_k M (ta t) = (6, 17) ∧ 112 ≤ ta t ∧ mm_i M (ta t) 0 = nI t ∧ mm_r M (ta t) 1 = rft ta (ra_T I m t 4) ∧ mm_r M (ta t) 2 = 12 + lmI I m t ∧ mm_r M (ta t) 10 = rfw (ra_T I m t 9)) ∧
  (mm_i M (ta t) 3 = ra_T I m t 1 ∧ mm_i M (ta t) 4 = ra_T I m t 2 ∧ mm_i M (ta t) 5 = ra_T I m t 3 ∧ mm_i M (ta t) 6 = ra_T I m t 5 ∧ mm_i M (ta t) 7 = ra_T I m t 6 ∧ mm_i M (ta t) 8 = ra_T I m t 7 ∧ mm_i M (ta t) 13 = ra_T I m t 12 ∧ mm_i M (ta t) 16 = ra_T I m t 13) ∧
  ((ra_T I m t 8 ≠ -1 → mm_i M (ta t) 9 = ra_T I m t 8) ∧ (ra_T I m t 10 ≠ -1 → mm_i M (ta t) 11 = ra_T I m t 10) ∧ (ra_T I m t 11 ≠ -1 → mm_i M (ta t) 12 = ra_T I m t 11)) ∧ mm_i M (ta t) 15 = I (m + 4) t ∧ rcs M I m (ta t) t
def rT_ (M : mm_T) (I : Nat → Nat → Int32) (m n : Nat) (ta : Nat → Nat) : Prop := (∀ t, t < n → tk_ M I m ta t) ∧ (∀ t t', t < n → t' < n → ta t = ta t' → t = t') ∧ ∀ t t', t < n → t' < n → mm_r M (ta t) 14 ≠ 0 → mm_r M (ta t) 14 = mm_r M (ta t') 14 → t = t'
theorem rT_o (h : rT_ M I m n ta) (hk : kd_ M M') (hi : ∀ a j, 112 ≤ a → mm_k M a = (6, 17) ∨ ak_ M a 0 20 → mm_i M' a j = mm_i M a j) (hr : ∀ a j, 112 ≤ a → mm_k M a = (6, 17) → mm_r M' a j = mm_r M a j) (hT : ∀ t f, t < n → f < 14 → ra_T J m t f = ra_T I m t f) (h4 : ∀ t, t < n → J (m + 4) t = I (m + 4) t) (h5 : ∀ j, J (m + 5) j = I (m + 5) j) : rT_ M' J m n ta := by
  have nz : ∀ t, t < n → 112 ≤ ta t ∧ mm_k M (ta t) = (6, 17) := fun t q => ⟨(h.1 t q).1.2.1, (h.1 t q).1.1⟩
  have i1 : ∀ t j, t < n → mm_i M' (ta t) j = mm_i M (ta t) j := fun t j q => hi _ j (nz t q).1 (Or.inl (nz t q).2)
  have r1 : ∀ t j, t < n → mm_r M' (ta t) j = mm_r M (ta t) j := fun t j q => hr _ j (nz t q).1 (nz t q).2
  refine ⟨fun t q => ?_, h.2.1, fun t t' q1 q2 => ?_⟩
  · obtain ⟨⟨a1, a2, a3, a4, a5, a6⟩, ⟨b1, b2, b3, b4, b5, b6, b7, b8⟩, ⟨c1, c2, c3⟩, d1, d2⟩ := h.1 t q
    have eL : lmI J m t = lmI I m t := by unfold lmI; rw [hT t 0 q (by decide)]
    refine ⟨⟨kd_at hk a1 (by omega), a2, (i1 t _ q).trans a3, ?_, ?_, ?_⟩, ⟨?_, ?_, ?_, ?_, ?_, ?_, ?_, ?_⟩, ⟨?_, ?_, ?_⟩, ?_, ?_⟩
    · rw [r1 t _ q, hT t 4 q (by decide)]; exact a4
    · rw [r1 t _ q, eL]; exact a5
    · rw [r1 t _ q, hT t 9 q (by decide)]; exact a6
    · rw [i1 t _ q, hT t 1 q (by decide)]; exact b1
    · rw [i1 t _ q, hT t 2 q (by decide)]; exact b2
    · rw [i1 t _ q, hT t 3 q (by decide)]; exact b3
    · rw [i1 t _ q, hT t 5 q (by decide)]; exact b4
    · rw [i1 t _ q, hT t 6 q (by decide)]; exact b5
    · rw [i1 t _ q, hT t 7 q (by decide)]; exact b6
    · rw [i1 t _ q, hT t 12 q (by decide)]; exact b7
    · rw [i1 t _ q, hT t 13 q (by decide)]; exact b8
    · rw [i1 t _ q, hT t 8 q (by decide)]; exact c1
    · rw [i1 t _ q, hT t 10 q (by decide)]; exact c2
    · rw [i1 t _ q, hT t 11 q (by decide)]; exact c3
    · rw [i1 t _ q, h4 t q]; exact d1
    · unfold rcs
      rw [r1 t _ q, h4 t q]
      rcases d2 with d2 | ⟨d2, d3, d4⟩
      · exact Or.inl d2
      · refine Or.inr ⟨d2, kd_ak hk d3, fun k q1 q2 => ?_⟩
        rw [hi _ _ d2 (Or.inr d3), h5]
        exact d4 k q1 q2
  · rw [r1 t _ q1, r1 t' _ q2]
    exact h.2.2 t t' q1 q2
/-! lanes: open or not, what was taken -/
def opn_ (I : Nat → Nat → Int32) (m n l : Nat) : Int32 := if ra_L I m l 3 = 1 ∧ cn_ (ra_st I m (nI l)) n = 0 then 2 else ra_L I m l 3
def rL_ (M : mm_T) (I : Nat → Nat → Int32) (m n : Nat) : Prop := ∀ l, l < 5 → mm_i M (12 + l) 4 = opn_ I m n l ∧ ∀ f, f < 5 → mm_i M (12 + l) (9 + f) = ra_L I m l (5 + f)
theorem opn_o {l : Nat} (h3 : ra_L J m l 3 = ra_L I m l 3) (hT : ∀ t, t < n → ra_T J m t 0 = ra_T I m t 0 ∧ ra_T J m t 6 = ra_T I m t 6) : opn_ J m n l = opn_ I m n l := by
  unfold opn_
  rw [h3, cn_eq (p := ra_st J m (nI l)) (q := ra_st I m (nI l)) (fun t q => by unfold ra_st; rw [(hT t q).1, (hT t q).2])]
theorem rL_o (h : rL_ M I m n) (hi : ∀ l j, l < 5 → (j = 4 ∨ 9 ≤ j) → mm_i M' (12 + l) j = mm_i M (12 + l) j) (hL : ∀ l f, l < 5 → (f = 3 ∨ 5 ≤ f) → f < 10 → ra_L J m l f = ra_L I m l f) (hT : ∀ t, t < n → ra_T J m t 0 = ra_T I m t 0 ∧ ra_T J m t 6 = ra_T I m t 6) : rL_ M' J m n := by
  intro l q
  rw [hi l 4 q (by omega), opn_o (hL l 3 q (by omega) (by omega)) hT]
  refine ⟨(h l q).1, fun f q2 => ?_⟩
  rw [hi l _ q (by omega), hL l _ q (by omega) (by omega)]
  exact (h l q).2 f q2
/-! the rows of tasks and of those aside -/
def rO_ (M : mm_T) (n : Nat) (ta : Nat → Nat) : Prop := ro_ M 79 80 400 ((List.range n).map ta)
def rA_ (M : mm_T) (I : Nat → Nat → Int32) (m n : Nat) (ta : Nat → Nat) : Prop := ∃ as : List Nat, I (m + 1) 3 = nI as.length ∧ as.length ≤ 400 ∧ (∀ i x, as[i]? = some x → I (m + 1) (5800 + i) = nI x ∧ x < n) ∧ ro_ M 81 82 400 (as.map ta)
theorem rO_o (h : rO_ M n ta) (hk : kd_ M M') (h1 : mm_r M' 79 0 = mm_r M 79 0) (h2 : mm_i M' 79 1 = mm_i M 79 1) (h3 : ∀ i, mm_r M' 80 i = mm_r M 80 i) : rO_ M' n ta := ro_kd h hk h1 h2 h3
theorem rA_o (h : rA_ M I m n ta) (hk : kd_ M M') (h1 : mm_r M' 81 0 = mm_r M 81 0) (h2 : mm_i M' 81 1 = mm_i M 81 1) (h3 : ∀ i, mm_r M' 82 i = mm_r M 82 i) (hI : J (m + 1) 3 = I (m + 1) 3) (hI2 : ∀ i, i < 400 → J (m + 1) (5800 + i) = I (m + 1) (5800 + i)) : rA_ M' J m n ta := by
  obtain ⟨as, a1, a2, a3, a4⟩ := h
  refine ⟨as, hI.trans a1, a2, fun i x q => ?_, ro_kd a4 hk h1 h2 h3⟩
  rw [hI2 i (by have := gl_lt q; omega)]
  exact a3 i x q
/-! workers, timers, strikes, the log, numbers -/
def ra_W (I : Nat → Nat → Int32) (m w f : Nat) : Int32 := I (m + 1) (60 + 4 * w + f)
def rW_ (M : mm_T) (I : Nat → Nat → Int32) (m : Nat) (ta : Nat → Nat) : Prop := ∀ w, w < 6 → mm_r M (86 + w) 1 = rft ta (ra_W I m w 0) ∧ mm_i M (86 + w) 2 = ra_W I m w 1 ∧ mm_i M (86 + w) 3 = ra_W I m w 2 ∧ mm_i M (86 + w) 4 = ra_W I m w 3
theorem rW_o (h : rW_ M I m ta) (hi : ∀ w j, w < 6 → mm_i M' (86 + w) j = mm_i M (86 + w) j) (hr : ∀ w, w < 6 → mm_r M' (86 + w) 1 = mm_r M (86 + w) 1) (hI : ∀ w f, w < 6 → f < 4 → ra_W J m w f = ra_W I m w f) : rW_ M' J m ta := by
  intro w q
  rw [hr w q, hi w _ q, hi w _ q, hi w _ q, hI w 0 q (by decide), hI w 1 q (by decide), hI w 2 q (by decide), hI w 3 q (by decide)]
  exact h w q
def ra_C (I : Nat → Nat → Int32) (m c f : Nat) : Int32 := I (m + 1) (85 + 8 * c + f)
def rC_ (M : mm_T) (I : Nat → Nat → Int32) (m : Nat) (tm : Nat → Nat) : Prop := ∃ k, k ≤ 12 ∧ I (m + 1) 84 = nI k ∧ mm_i M 5 10 = nI k ∧ (∀ c, c < k → mm_r M 92 c = tm c ∧ 112 ≤ tm c ∧ mm_k M (tm c) = (7, 8) ∧ (∃ l, l < 5 ∧ ra_C I m c 0 = nI l ∧ mm_r M (tm c) 0 = 12 + l) ∧ ∀ f, 1 ≤ f → f < 8 → mm_i M (tm c) f = ra_C I m c f) ∧ (∀ c c', c < k → c' < k → tm c = tm c' → c = c') ∧ mm_i M 83 1 = nI (tm 1000) ∧ ∀ i, i < 48 → mm_r M 84 i = tm (1001 + i)
theorem rC_o (h : rC_ M I m tm) (hk : kd_ M M') (h5 : mm_i M' 5 10 = mm_i M 5 10) (h92 : ∀ c, mm_r M' 92 c = mm_r M 92 c) (hi : ∀ a j, 112 ≤ a → mm_k M a = (7, 8) → mm_i M' a j = mm_i M a j) (hr : ∀ a, 112 ≤ a → mm_k M a = (7, 8) → mm_r M' a 0 = mm_r M a 0) (hI : ∀ j, 84 ≤ j → j < 181 → J (m + 1) j = I (m + 1) j) (h83 : mm_i M' 83 1 = mm_i M 83 1) (h84 : ∀ i, mm_r M' 84 i = mm_r M 84 i) : rC_ M' J m tm := by
  obtain ⟨k, a1, a2, a3, a4, a5, a6, a7⟩ := h
  refine ⟨k, a1, (hI 84 (by omega) (by omega)).trans a2, h5.trans a3, fun c q => ?_, a5, h83.trans a6, fun i q => (h84 i).trans (a7 i q)⟩
  obtain ⟨b1, b2, b3, ⟨l, b4, b5, b6⟩, b7⟩ := a4 c q
  have eC : ∀ f, f < 8 → ra_C J m c f = ra_C I m c f := fun f q2 => hI _ (by omega) (by omega)
  refine ⟨(h92 c).trans b1, b2, kd_at hk b3 (by omega), ⟨l, b4, (eC 0 (by decide)).trans b5, (hr _ b2 b3).trans b6⟩, fun f q1 q2 => ?_⟩
  rw [hi _ _ b2 b3, eC f q2]
  exact b7 f q1 q2
def rK_ (M : mm_T) (I : Nat → Nat → Int32) (m n : Nat) : Prop := ∃ ks : List Nat, ks.length ≤ 400 ∧ mm_i M 93 2 = nI ks.length ∧ (∀ i x, ks[i]? = some x → mm_i M 94 i = nI x ∧ mm_i M 95 i = I (m + 3) x ∧ x < 10000) ∧ ks.Pairwise (· < ·) ∧ (∀ x, x < 10000 → x ∉ ks → I (m + 3) x = 0) ∧ ∀ x, x ∈ ks → ∃ t, t < n ∧ ra_T I m t 3 = nI x
theorem rK_o (h : rK_ M I m n) (h1 : mm_i M' 93 2 = mm_i M 93 2) (h2 : ∀ i, mm_i M' 94 i = mm_i M 94 i) (h3 : ∀ i, mm_i M' 95 i = mm_i M 95 i) (hI : ∀ x, J (m + 3) x = I (m + 3) x) (hT : ∀ t, t < n → ra_T J m t 3 = ra_T I m t 3) : rK_ M' J m n := by
  obtain ⟨ks, a1, a2, a3, a4, a5, a6⟩ := h
  refine ⟨ks, a1, h1.trans a2, fun i x q => ?_, a4, fun x q1 q2 => (hI x).trans (a5 x q1 q2), fun x q => ?_⟩
  · rw [h2, h3, hI]
    exact a3 i x q
  · obtain ⟨t, z1, z2⟩ := a6 x q
    exact ⟨t, z1, (hT t z1).trans z2⟩
/-- the log's ring: the place that is written next, and how many lines are kept, of x lines that were written -/
def dN_ (x : Int32) : Int32 := nI (x.toNatClampNeg % 64)
def dK_ (x : Int32) : Int32 := nI (if 64 ≤ x.toNatClampNeg then 64 else x.toNatClampNeg)
def dc_ (M : mm_T) (x : Int32) : Prop := mm_i M 96 1 = dN_ x ∧ mm_i M 96 2 = dK_ x
theorem dc_o {x : Int32} (h : dc_ M x) (h1 : ∀ j, mm_i M' 96 j = mm_i M 96 j) : dc_ M' x := ⟨(h1 1).trans h.1, (h1 2).trans h.2⟩
def rD_ (M : mm_T) (I : Nat → Nat → Int32) (m : Nat) : Prop := dc_ M (I m 6) ∧ ∀ j, j < 384 → mm_i M 97 j = I (m + 6) j
theorem rD_o (h : rD_ M I m) (h1 : ∀ j, mm_i M' 96 j = mm_i M 96 j) (h2 : ∀ j, mm_i M' 97 j = mm_i M 97 j) (hI : J m 6 = I m 6) (hI2 : ∀ j, J (m + 6) j = I (m + 6) j) : rD_ M' J m :=
  ⟨by rw [hI]; exact dc_o h.1 h1, fun j q => by rw [h2, hI2]; exact h.2 j q⟩
def rX_ (M : mm_T) (I : Nat → Nat → Int32) (m : Nat) : Prop := mm_i M 5 11 = I (m + 1) 0 ∧ mm_i M 5 12 = I (m + 1) 2 ∧ mm_i M 5 13 = I m 7
theorem rX_o (h : rX_ M I m) (hi : ∀ j, 11 ≤ j → mm_i M' 5 j = mm_i M 5 j) (h0 : J (m + 1) 0 = I (m + 1) 0) (h2 : J (m + 1) 2 = I (m + 1) 2) (h7 : J m 7 = I m 7) : rX_ M' J m :=
  ⟨by rw [hi 11 (by omega), h0]; exact h.1, by rw [hi 12 (by omega), h2]; exact h.2.1, by rw [hi 13 (by omega), h7]; exact h.2.2⟩
/-- room: what is made, and what may still be made -/
def rM_ (M : mm_T) (I : Nat → Nat → Int32) (m n : Nat) (ta : Nat → Nat) : Prop := 112 ≤ mm_n M ∧ ∃ k, k ≤ 12 ∧ I (m + 1) 84 = nI k ∧ mm_n M + (400 - n) + (400 - cn_ (fun t => decide (mm_r M (ta t) 14 ≠ 0)) n) + (12 - k) ≤ 1000 ∧ mm_t M (mm_n M) + 17 * (400 - n) + 20 * (400 - cn_ (fun t => decide (mm_r M (ta t) 14 ≠ 0)) n) + 8 * (12 - k) ≤ 200000
theorem rM_o (h : rM_ M I m n ta) (hn : mm_n M' = mm_n M) (ht : mm_t M' (mm_n M) = mm_t M (mm_n M)) (hr : ∀ t, t < n → mm_r M' (ta t) 14 = mm_r M (ta t) 14) (hI : J (m + 1) 84 = I (m + 1) 84) : rM_ M' J m n ta := by
  obtain ⟨a1, k, a2, a3, a4, a5⟩ := h
  have e : cn_ (fun t => decide (mm_r M' (ta t) 14 ≠ 0)) n = cn_ (fun t => decide (mm_r M (ta t) 14 ≠ 0)) n := cn_eq (fun t q => by rw [hr t q])
  refine ⟨by rw [hn]; exact a1, k, a2, hI.trans a3, ?_, ?_⟩
  · rw [e, hn]; exact a4
  · rw [e, hn, ht]; exact a5
theorem mt_fx {SI SR : Nat → Nat → Prop} (f : fx_ SI SR M M') : mm_n M' = mm_n M ∧ mm_t M' (mm_n M) = mm_t M (mm_n M) := ⟨f.1, mm_t_eq (fun a _ => f.2.1 a)⟩
/-- THE RELATION -/
def re_ (M : mm_T) (I : Nat → Nat → Int32) (m n : Nat) (ta tm : Nat → Nat) : Prop :=
  (rS_ M ∧ br_ M 6 ta I m n ∧ rT_ M I m n ta ∧ rL_ M I m n) ∧ (rO_ M n ta ∧ rA_ M I m n ta ∧ rW_ M I m ta ∧ rC_ M I m tm) ∧ rK_ M I m n ∧ rD_ M I m ∧ rX_ M I m ∧ rM_ M I m n ta
theorem re_hb (h : re_ M I m n ta tm) (hb : ∀ t, t < n → ra_T I m t 4 = -1 ∨ ∃ q, q < t ∧ ra_T I m t 4 = nI q) : hb_ M ta I m n := by
  intro t ht _
  have h4 := h.1.2.1.2.1.2.1
  have a4 := (h.1.2.2.1.1 t ht).1.2.2.2.1
  rcases hb t ht with e | ⟨q, hq, e⟩
  · refine Or.inl ⟨e, ?_⟩
    rw [a4, e]
    rfl
  · refine Or.inr ⟨q, by omega, e, ?_⟩
    have e2 : rft ta (ra_T I m t 4) = ta q := by
      unfold rft
      rw [e, if_neg (nI_nm (by omega)), nI_clamp (by omega)]
    rw [a4, e2]
    have hq2 := (h.1.2.2.1.1 q (by omega)).1
    exact ⟨by omega, hq2.1, hq2.2.2.1⟩
theorem re_0 (h : re_ M I m n ta tm) : ∀ t, t < n → sd_ (sgI I m t) = true → ta t ≠ 0 := fun t ht _ => by
  have := (h.1.2.2.1.1 t ht).1.2.1
  omega
end Rep0
