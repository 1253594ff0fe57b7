/-! the acts keep the invariant: done, failing, being cancelled -/
section Acts3
variable {I J : Nat → Nat → Int32} {m n T W P L : Nat}
theorem frs_s {pb : Int32} : ∀ {ts : List Nat} {J : Nat → Nat → Int32} {x : Nat}, (∀ t, t ∈ ts → t < n) → rb_ J m n pb → ra_T (sp_frs J m n ts) m x 6 = if x ∈ ts then 0 else ra_T J m x 6
  | [], J, x, _, _ => by simp [sp_frs]
  | t :: ts, J, x, hm, h => by
    have ht := hm t List.mem_cons_self
    show ra_T (sp_frs (sp_fr1 J m n t) m n ts) m x 6 = _
    rw [frs_s (ts := ts) (J := sp_fr1 J m n t) (fun t' q => hm t' (List.mem_cons_of_mem _ q)) (rb_fr1 h ht)]
    by_cases q : x ∈ ts
    · rw [if_pos q, if_pos (List.mem_cons_of_mem _ q)]
    · rw [if_neg q]
      by_cases z : x = t
      · rw [z, if_pos List.mem_cons_self]
        exact sp_fr1_6
      · rw [if_neg (fun y => (List.mem_cons.mp y).elim z q)]
        exact sp_fr1_o h ht (by omega) (by omega) (by omega)
theorem ix_done (h : ix_ I m n T W P L) (hP : P < 2147483648) (hL : L < 1999990000) {t w : Nat} (ht : t < n) (hw : w < 6) (h6 : ra_T I m t 6 = 3) (h9 : ra_T I m t 9 = nI w) : ix_ (sp_done I m n t w) m n T W P (L + 401) := by
  have hn := ix_4 h
  obtain ⟨Y, hY⟩ : ∃ Y, Y = i2_u (i2_u (sp_lw (i2_u (sp_log I m 2 t (nI w) 0) (m + 1) (60 + 4 * w + 2) (I (m + 1) (60 + 4 * w + 2) + 1)) m t w) (m + 1) (200 + 14 * t + 12) (I (m + 1) 0)) (m + 1) (200 + 14 * t + 6) 4 := ⟨_, rfl⟩
  have yo : ∀ a j, a ≠ m + 6 → (a ≠ m ∨ j ≠ 6) → (a ≠ m + 1 ∨ (j ≠ 60 + 4 * w + 2 ∧ j ≠ 60 + 4 * w ∧ j ≠ 200 + 14 * t + 9 ∧ j ≠ 200 + 14 * t + 10 ∧ j ≠ 200 + 14 * t + 11 ∧ j ≠ 200 + 14 * t + 12 ∧ j ≠ 200 + 14 * t + 6)) → Y a j = I a j := fun a j q1 q2 q3 => by
    rw [hY, i2_at, if_neg (by omega), i2_at, if_neg (by omega), sp_lw_o (by omega), i2_at, if_neg (by omega), sp_log_o q1 q2]
  have y6 : ∀ x, x < n → ra_T Y m x 6 = if x = t then 4 else ra_T I m x 6 := fun x q => by
    by_cases e : x = t
    · rw [if_pos e, e, hY]; exact i2_us
    · rw [if_neg e]; exact yo _ _ (by omega) (by omega) (by omega)
  have rbY : rb_ Y m n (nI P) := rb_o (ix_rb h hP) (yo _ _ (by omega) (by omega) (by omega)) (fun x _ => yo _ _ (by omega) (by omega) (by omega)) (fun l hl => yo _ _ (by omega) (by omega) (by omega))
  have lbY : lb_ Y m (L + 1) := by
    intro q
    have : lb_ (sp_log I m 2 t (nI w) 0) m (L + 1) := lb_log (ix_lb h) (by omega)
    obtain ⟨x, x1, x2⟩ := this ((sp_log_o (by omega) (by omega)).trans (ix_8 h))
    refine ⟨x, x1, ?_⟩
    rw [hY, i2_ua (by omega), i2_ua (by omega), sp_lw_o (by omega), i2_ua (by omega)]
    exact x2
  obtain ⟨ts, hts⟩ : ∃ ts, ts = sp_hs Y m n (nI t) := ⟨_, rfl⟩
  have mem : ∀ x, x ∈ ts ↔ x < n ∧ x ≠ t ∧ ra_T I m x 6 = 1 ∧ ra_T I m x 4 = nI t := fun x => by
    constructor
    · intro q
      rw [hts] at q
      obtain ⟨q1, q2, q3⟩ := hs_lt q
      rw [y6 x q1] at q2
      have hne : x ≠ t := fun e => by rw [if_pos e] at q2; exact absurd q2 (by decide)
      rw [if_neg hne] at q2
      rw [show ra_T Y m x 4 = ra_T I m x 4 from yo _ _ (by omega) (by omega) (by omega)] at q3
      exact ⟨q1, hne, q2, q3⟩
    · rintro ⟨q1, q2, q3, q4⟩
      rw [hts]
      unfold sp_hs
      rw [List.mem_filter, List.mem_range]
      refine ⟨q1, decide_eq_true ⟨?_, ?_⟩⟩
      · rw [y6 x q1, if_neg q2]; exact q3
      · exact (yo _ _ (by omega) (by omega) (by omega)).trans q4
  have hlen : ts.length ≤ 400 := by
    have := hs_len (I := Y) (m := m) (n := n) (x := nI t)
    rw [← hts] at this
    omega
  obtain ⟨rbF, lbF⟩ := frs_ok (ts := ts) (b := L + 1) (fun x q => ((mem x).mp q).1) rbY lbY (by omega)
  have eD : sp_done I m n t w = ra_cls (sp_frs Y m n ts) m n 5 := by
    unfold sp_done sp_frees
    rw [← hY, ← hts]
  have fo : ∀ a j, (a ≠ m + 1 ∨ ((∀ x, x ∈ ts → j ≠ 200 + 14 * x + 6) ∧ (j < 10 ∨ 60 ≤ j ∨ j % 10 ≠ 4))) → a ≠ m + 6 → (a ≠ m ∨ j ≠ 6) → sp_frs Y m n ts a j = Y a j := fun a j => frs_o (fun x q => ((mem x).mp q).1) rbY
  obtain ⟨D, hD⟩ : ∃ D, D = sp_done I m n t w := ⟨_, rfl⟩
  have d6 : ∀ x, x < n → ra_T D m x 6 = if x = t then 4 else if x ∈ ts then 0 else ra_T I m x 6 := fun x q => by
    rw [hD, eD]
    unfold ra_T
    rw [cl_o (by omega)]
    rw [show sp_frs Y m n ts (m + 1) (200 + 14 * x + 6) = if x ∈ ts then 0 else ra_T Y m x 6 from frs_s (fun x q => ((mem x).mp q).1) rbY, y6 x q]
    by_cases e : x = t
    · have : ¬ x ∈ ts := fun z => ((mem x).mp z).2.1 e
      rw [if_neg this, if_pos e, if_pos e]
    · rw [if_neg e, if_neg e]
      rfl
  have dT : ∀ x f, x < n → f < 14 → f ≠ 6 → ra_T D m x f = ra_T Y m x f := fun x f q1 q2 q3 => by
    rw [hD, eD]
    unfold ra_T
    rw [cl_o (by omega)]
    exact fo _ _ (Or.inr ⟨fun y _ => by omega, by omega⟩) (by omega) (by omega)
  have dI : ∀ x f, x < n → x ≠ t → f < 14 → f ≠ 6 → ra_T D m x f = ra_T I m x f := fun x f q1 q2 q3 q4 => (dT x f q1 q3 q4).trans (yo _ _ (by omega) (by omega) (by omega))
  have dt : ∀ f, f < 9 → f ≠ 6 → ra_T D m t f = ra_T I m t f := fun f q1 q2 => (dT t f ht (by omega) q2).trans (yo _ _ (by omega) (by omega) (by omega))
  have do1 : ∀ j, (j < 10 ∨ (60 ≤ j ∧ j < 200) ∨ 5800 ≤ j ∨ (j < 60 ∧ j % 10 ≠ 3 ∧ j % 10 ≠ 4)) → D (m + 1) j = Y (m + 1) j := fun j q => by
    rw [hD, eD, cl_o (by omega)]
    exact fo _ _ (Or.inr ⟨fun y hy => by have := ((mem y).mp hy).1; omega, by omega⟩) (by omega) (by omega)
  have doa : ∀ a j, a ≠ m + 1 → a ≠ m + 6 → (a ≠ m ∨ j ≠ 6) → D a j = I a j := fun a j q1 q2 q3 => by
    rw [hD, eD, cl_o (Or.inl q1), fo _ _ (Or.inl q1) q2 q3]
    exact yo _ _ q2 q3 (Or.inl q1)
  have hFL3 : ∀ l, l < 5 → ra_L (sp_frs Y m n ts) m l 3 = ra_L I m l 3 := fun l q => (fo _ _ (Or.inr ⟨fun y _ => by omega, by omega⟩) (by omega) (by omega)).trans (yo _ _ (by omega) (by omega) (by omega))
  have hFL4 : ∀ l, l < 5 → ∃ p, p ≤ P ∧ ra_L D m l 4 = nI p := fun l q => by
    rw [hD, eD]
    unfold ra_L
    rw [cl_o (by omega)]
    exact rb_4 (pb := 0) rbF hP l q
  rw [← hD]
  refine ix_mt h ((do1 1 (by omega)).trans (yo _ _ (by omega) (by omega) (by omega))) (fun x f q1 q2 => ?_) (fun x q z => ?_) (fun x q => ?_) (fun x q z => ?_) (fun l f q1 q2 => (do1 _ (by omega)).trans (yo _ _ (by omega) (by omega) (by omega))) ?_ (fun j q1 q2 => (do1 _ (by omega)).trans (yo _ _ (by omega) (by omega) (by omega))) ?_ ?_ ?_ ?_ (fun x q => doa _ _ (by omega) (by omega) (by omega)) ?_
  · by_cases e : x = t
    · rw [e]; exact dt f (by omega) (by omega)
    · exact dI x f q1 e (by omega) (by omega)
  · rw [show ra_T D m x 7 = ra_T I m x 7 from by
      by_cases e : x = t
      · rw [e]; exact dt 7 (by omega) (by omega)
      · exact dI x 7 q e (by omega) (by omega)]
    refine ix_7 h q ?_
    rw [d6 x q] at z
    by_cases e : x = t
    · rw [e, h6]; decide
    · rw [if_neg e] at z
      by_cases e2 : x ∈ ts
      · rw [((mem x).mp e2).2.2.1]; decide
      · rw [if_neg e2] at z; exact z
  · rw [d6 x q]
    split
    · exact ⟨4, by decide, rfl⟩
    · split
      · exact ⟨0, by decide, rfl⟩
      · exact ix_s h q
  · rw [d6 x q] at z
    by_cases e : x = t
    · rw [e, h6]; decide
    · rw [if_neg e] at z
      by_cases e2 : x ∈ ts
      · rw [((mem x).mp e2).2.2.1]; decide
      · rw [if_neg e2] at z; exact z
  · rw [hD, eD]
    exact cls_rng (fun l q => by rw [hFL3 l q]; exact (h.1.2.1.1 l q).2.2.2)
  · refine ivW_lv h.1.2.2.1 ht hn hw h9 (v := 4) (fun x q e => ?_) (by rw [d6 t ht, if_pos rfl]) (by decide) (Or.inr ⟨by decide, ?_⟩) (fun x f q e hf => dI x f q e (by omega) (by omega)) ?_ ?_ ?_ (fun w' q => ?_)
    · rw [d6 x q, if_neg e]
      by_cases e2 : x ∈ ts
      · rw [if_pos e2, ((mem x).mp e2).2.2.1]
        constructor <;> constructor <;> intro z <;> exact absurd z (by decide)
      · rw [if_neg e2]
        exact ⟨Iff.rfl, Iff.rfl⟩
    · rcases h.1.2.2.1.2.1 t ht with ⟨z, -⟩ | ⟨-, z⟩
      · rw [h6] at z; exact absurd z (by decide)
      · exact (dt 8 (by omega) (by omega)).trans z
    · rw [dT t 9 ht (by decide) (by decide), hY]
      unfold ra_T
      rw [i2_uj (by omega), i2_uj (by omega)]
      unfold sp_lw
      rw [i2_uj (by omega), i2_uj (by omega), i2_us]
    · rw [dT t 10 ht (by decide) (by decide), hY]
      unfold ra_T
      rw [i2_uj (by omega), i2_uj (by omega)]
      unfold sp_lw
      rw [i2_uj (by omega), i2_us]
    · rw [dT t 11 ht (by decide) (by decide), hY]
      unfold ra_T
      rw [i2_uj (by omega), i2_uj (by omega)]
      unfold sp_lw
      rw [i2_us]
    · refine (do1 _ (by omega)).trans ?_
      by_cases e : w' = w
      · rw [if_pos e, e, hY, i2_uj (by omega), i2_uj (by omega)]
        unfold sp_lw
        rw [i2_uj (by omega), i2_uj (by omega), i2_uj (by omega)]
        exact i2_us
      · rw [if_neg e]
        exact yo _ _ (by omega) (by omega) (by omega)
  · intro x q z
    have z' := z
    rw [d6 x q] at z'
    have hne : x ≠ t := fun e => by rw [if_pos e] at z'; exact absurd z' (by decide)
    rw [if_neg hne] at z'
    have hnt : ¬ x ∈ ts := fun e => by rw [if_pos e] at z'; exact absurd z' (by decide)
    rw [if_neg hnt] at z'
    obtain ⟨p, p1, p2, p3⟩ := h.1.2.2.2 x q z'
    refine ⟨p, p1, (dI x 4 q hne (by decide) (by decide)).trans p2, ?_⟩
    have hpt : p ≠ t := fun e => hnt ((mem x).mpr ⟨q, hne, z', by rw [← e]; exact p2⟩)
    rw [d6 p (by omega), if_neg hpt]
    split
    · decide
    · exact p3
  · rw [hD, eD]
    exact ivC_cls
  · refine ivS_o h.2.1.2.1 ((do1 3 (by omega)).trans (yo _ _ (by omega) (by omega) (by omega))) (fun j q => (do1 j (by omega)).trans (yo _ _ (by omega) (by omega) (by omega))) (fun x q => ?_)
    rw [d6 x q]
    by_cases e : x = t
    · rw [if_pos e, e, h6]
      constructor <;> intro z <;> exact absurd z (by decide)
    · rw [if_neg e]
      by_cases e2 : x ∈ ts
      · rw [if_pos e2, ((mem x).mp e2).2.2.1]
        constructor <;> intro z <;> exact absurd z (by decide)
      · rw [if_neg e2]
  · refine ivN_o h.2.2 ((do1 0 (by omega)).trans (yo _ _ (by omega) (by omega) (by omega))) ((do1 2 (by omega)).trans (yo _ _ (by omega) (by omega) (by omega))) hFL4 ?_ (doa _ _ (by omega) (by omega) (by omega)) (fun j => ⟨doa _ _ (by omega) (by omega) (by omega), doa _ _ (by omega) (by omega) (by omega)⟩) (fun x q => by rw [doa _ _ (by omega) (by omega) (by omega)]; exact h.2.2.2.2.2.2.2.2 x q)
    have h8F : sp_frs Y m n ts m 8 = 0 := (fo _ _ (by omega) (by omega) (by omega)).trans ((yo _ _ (by omega) (by omega) (by omega)).trans (ix_8 h))
    obtain ⟨x, x1, x2⟩ := lbF h8F
    refine ⟨x, by omega, ?_⟩
    rw [hD, eD, cl_o (by omega)]
    exact x2
/-! going aside -/
theorem ivS_ga {t : Nat} {c : Int32} (h : ivS I m n) (hn : n ≤ 400) (ht : t < n) (h5 : ¬ ra_T I m t 6 = 5) : ivS (sp_ga I m t c) m n := by
  have hc := ivS_n h hn
  have hlt := cn5_lt ht h5
  obtain ⟨as, a1, a2, a3, a4⟩ := h
  have hl : as.length < 400 := by
    rw [a1] at hc
    have h0 : as.length ≤ n := by
      have := List.Nodup.length_le_of_subset a2 (fun t q => List.mem_range.mpr ((a3 t).mp q).1) (l₂ := List.range n)
      simpa using this
    have : as.length = cn_ (fun t => decide (ra_T I m t 6 = 5)) n := (nI_eq (by omega) (by omega)).mp hc
    omega
  have ek : (I (m + 1) 3).toNatClampNeg = as.length := by rw [a1]; exact nI_clamp (by omega)
  refine ⟨as ++ [t], ?_, ?_, fun x => ?_, fun i x q => ?_⟩
  · unfold sp_ga
    rw [sp_log_r, i2_ua (by omega), i2_us, ek, List.length_append]
    rfl
  · rw [List.nodup_append]
    refine ⟨a2, by simp, fun a ha b hb => ?_⟩
    have hb : b = t := by simpa using hb
    intro e
    exact h5 ((a3 t).mp (by rw [← hb, ← e]; exact ha)).2
  · rw [List.mem_append, a3 x]
    constructor
    · rintro (⟨q1, q2⟩ | q)
      · exact ⟨q1, by rw [ga_s (by omega) (by omega)]; split; rfl; exact q2⟩
      · have q : x = t := by simpa using q
        rw [q]
        exact ⟨ht, by rw [ga_s (by omega) (by omega), if_pos rfl]⟩
    · rintro ⟨q1, q2⟩
      rw [ga_s (by omega) (by omega)] at q2
      by_cases e : x = t
      · exact Or.inr (by simp [e])
      · rw [if_neg e] at q2
        exact Or.inl ⟨q1, q2⟩
  · have hi := gl_lt q
    rw [List.length_append] at hi
    have hi : i < as.length + 1 := hi
    unfold sp_ga
    rw [sp_log_r, i2_ua (by omega), i2_uj (by omega), ek, i2_at]
    by_cases e : i < as.length
    · rw [List.getElem?_append_left e] at q
      rw [if_neg (by omega), i2_uj (by omega)]
      exact a4 i x q
    · have e : i = as.length := by omega
      subst e
      simp at q
      rw [if_pos ⟨rfl, rfl⟩, q]
theorem ivS_as1 {t : Nat} {c : Int32} (h : ivS I m n) (hn : n ≤ 400) (ht : t < n) (h5 : ¬ ra_T I m t 6 = 5) : ivS (sp_as1 I m t c) m n := by
  unfold sp_as1
  have e6 : ∀ x, x < n → ra_T (sp_bl I m t c) m x 6 = ra_T I m x 6 := fun x _ => sp_bl_o (by omega) (by omega) (by omega)
  exact ivS_ga (ivS_o h (sp_bl_o (by omega) (by omega) (by omega)) (fun j q => sp_bl_o (by omega) (by omega) (by omega)) (fun x q => by rw [e6 x q])) hn ht (by rw [e6 t ht]; exact h5)
theorem ivS_asd {c : Int32} (hn : n ≤ 400) : ∀ {ts : List Nat} {I : Nat → Nat → Int32}, ivS I m n → ts.Nodup → (∀ t, t ∈ ts → t < n ∧ ¬ ra_T I m t 6 = 5) → ivS (sp_asd I m ts c) m n
  | [], _, h, _, _ => h
  | t :: ts, I, h, hnd, hm => by
    rw [List.nodup_cons] at hnd
    obtain ⟨h1, h2⟩ := hm t List.mem_cons_self
    refine ivS_asd (I := sp_as1 I m t c) hn (ivS_as1 h hn h1 h2) hnd.2 (fun x q => ?_)
    obtain ⟨q1, q2⟩ := hm x (List.mem_cons_of_mem _ q)
    refine ⟨q1, ?_⟩
    rw [as1_s (by omega) (by omega), if_neg (fun e => hnd.1 (by rw [← e]; exact q))]
    exact q2
theorem dr_s (hn : n ≤ 400) : ∀ (k : Nat) {I : Nat → Nat → Int32} {lv : List Nat} {c : Int32} {x : Nat}, x < n → ra_T (sp_dr k I m n lv c).1 m x 6 = ra_T I m x 6 ∨ (ra_T I m x 6 = 1 ∧ ra_T (sp_dr k I m n lv c).1 m x 6 = 5)
  | 0, _, _, _, _, _ => Or.inl rfl
  | k + 1, I, lv, c, x, hx => by
    have mem : ∀ t, t ∈ (List.range n).filter (sp_p I m lv) → t < n ∧ ra_T I m t 6 = 1 := fun j hj => by
      rw [List.mem_filter, List.mem_range] at hj
      exact ⟨hj.1, (sp_p_of hj.2).1⟩
    have hs := asd_s (I := I) (m := m) (c := c) hn (fun t q => (mem t q).1) hx
    show ra_T (sp_dr k (sp_asd I m ((List.range n).filter (sp_p I m lv)) c) m n ((List.range n).filter (sp_p I m lv)) 100).1 m x 6 = _ ∨ (_ ∧ ra_T (sp_dr k (sp_asd I m ((List.range n).filter (sp_p I m lv)) c) m n ((List.range n).filter (sp_p I m lv)) 100).1 m x 6 = 5)
    rcases dr_s hn k (I := sp_asd I m ((List.range n).filter (sp_p I m lv)) c) (lv := (List.range n).filter (sp_p I m lv)) (c := 100) hx with q | ⟨q1, q2⟩
    · rw [q, hs]
      by_cases e : x ∈ (List.range n).filter (sp_p I m lv)
      · rw [if_pos e]
        exact Or.inr ⟨(mem x e).2, rfl⟩
      · rw [if_neg e]
        exact Or.inl rfl
    · rw [hs] at q1
      by_cases e : x ∈ (List.range n).filter (sp_p I m lv)
      · rw [if_pos e] at q1
        exact absurd q1 (by decide)
      · rw [if_neg e] at q1
        exact Or.inr ⟨q1, q2⟩
theorem dr_S (hn : n ≤ 400) : ∀ (k : Nat) {I : Nat → Nat → Int32} {lv : List Nat} {c : Int32}, ivS I m n → ivS (sp_dr k I m n lv c).1 m n
  | 0, _, _, _, h => h
  | k + 1, I, lv, c, h => by
    refine dr_S hn k (I := sp_asd I m ((List.range n).filter (sp_p I m lv)) c) (lv := (List.range n).filter (sp_p I m lv)) (c := 100) (ivS_asd hn h rg_nd (fun t q => ?_))
    rw [List.mem_filter, List.mem_range] at q
    exact ⟨q.1, by rw [(sp_p_of q.2).1]; decide⟩
/-- nobody stays held behind one that fell -/
theorem dr_cl (hn : n ≤ 400) : ∀ (k : Nat) {I : Nat → Nat → Int32} {lv : List Nat} {c : Int32}, hc_ I m n < k → (∀ q, q ∈ lv → q < n) → ∀ x q, x < n → q < n → ra_T (sp_dr k I m n lv c).1 m x 6 = 1 → ra_T I m x 4 = nI q → q ∉ lv ∧ ¬ (ra_T I m q 6 = 1 ∧ ra_T (sp_dr k I m n lv c).1 m q 6 = 5)
  | 0, _, _, _, hk, _, _, _, _, _, _, _ => by omega
  | k + 1, I, lv, c, hk, hlv, x, q, hx, hq, h1, h4 => by
    have mem : ∀ t, t ∈ (List.range n).filter (sp_p I m lv) → t < n ∧ ra_T I m t 6 = 1 := fun j hj => by
      rw [List.mem_filter, List.mem_range] at hj
      exact ⟨hj.1, (sp_p_of hj.2).1⟩
    obtain ⟨ts, hts⟩ : ∃ ts, ts = (List.range n).filter (sp_p I m lv) := ⟨_, rfl⟩
    rw [← hts] at mem
    have hs : ∀ y, y < n → ra_T (sp_asd I m ts c) m y 6 = if y ∈ ts then 5 else ra_T I m y 6 := fun y z => asd_s hn (fun t w => (mem t w).1) z
    have h1 : ra_T (sp_dr k (sp_asd I m ts c) m n ts 100).1 m x 6 = 1 := by rw [hts]; exact h1
    have hx1 : ra_T I m x 6 = 1 ∧ x ∉ ts := by
      have e : ra_T (sp_asd I m ts c) m x 6 = 1 := by
        rcases dr_s hn k (I := sp_asd I m ts c) (lv := ts) (c := 100) hx with z | ⟨z, -⟩
        · rw [← z]; exact h1
        · exact z
      rw [hs x hx] at e
      by_cases z : x ∈ ts
      · rw [if_pos z] at e; exact absurd e (by decide)
      · rw [if_neg z] at e; exact ⟨e, z⟩
    have n1 : q ∉ lv := fun z => hx1.2 (by rw [hts, List.mem_filter, List.mem_range]; exact ⟨hx, sp_p_t hx1.1 h4 z⟩)
    refine ⟨n1, fun z => ?_⟩
    have z2 : ra_T (sp_dr k (sp_asd I m ts c) m n ts 100).1 m q 6 = 5 := by rw [hts]; exact z.2
    by_cases hq0 : ts = []
    · rw [hq0, sp_dr_nil] at z2
      have : ra_T (sp_asd I m [] c) m q 6 = ra_T I m q 6 := rfl
      rw [this, z.1] at z2
      exact absurd z2 (by decide)
    · have hlt : hc_ (sp_asd I m ts c) m n < k := by
        cases hc : ts with
        | nil => exact absurd hc hq0
        | cons y ys =>
          have hy : y ∈ ts := by rw [hc]; exact List.mem_cons_self
          have := cn_lt (p := fun t => decide (ra_T (sp_asd I m ts c) m t 6 = 1)) (q := fun t => decide (ra_T I m t 6 = 1)) (t := y) (n := n) (fun i hi w => by
            have w := of_decide_eq_true w
            rw [hs i hi] at w
            by_cases e : i ∈ ts
            · rw [if_pos e] at w; exact absurd w (by decide)
            · rw [if_neg e] at w; exact decide_eq_true w) (mem y hy).1 (decide_eq_false (by rw [hs y (mem y hy).1, if_pos hy]; decide)) (decide_eq_true (mem y hy).2)
          rw [← hc]
          unfold hc_ at hk ⊢
          omega
      have e4 : ra_T (sp_asd I m ts c) m x 4 = nI q := (asd_f (by decide) (by decide) (by decide) (by omega)).trans h4
      obtain ⟨w1, w2⟩ := dr_cl hn k (I := sp_asd I m ts c) (lv := ts) (c := 100) hlt (fun q z => (mem q z).1) x q hx hq h1 e4
      exact w2 ⟨by rw [hs q hq, if_neg w1]; exact z.1, z2⟩
end Acts3
