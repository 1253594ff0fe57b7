/-! THE CLASS: what falls, level by level -/
section Fall
variable {M M' : mm_T} {I J : Nat → Nat → Int32} {m n : Nat} {ta tm : Nat → Nat}
def fal_ (tm : Nat → Nat) (xs : List Nat) : Prop := tm 1000 = xs.length ∧ xs.length ≤ 48 ∧ ∀ i x, xs[i]? = some x → tm (1001 + i) = x
theorem re_ro (h : re_ M I m n ta tm) {xs : List Nat} (hf : fal_ tm xs) : ro_ M 83 84 48 xs := by
  obtain ⟨k, -, -, -, -, -, a6, a7⟩ := h.2.1.2.2.2
  obtain ⟨f1, f2, f3⟩ := h.1.1.2.2.2.2.2.1
  exact ⟨f1, f2, f3, by decide, hf.2.1, by rw [a6, hf.1], fun i x q => (a7 i (by have := gl_lt q; have := hf.2.1; omega)).trans (hf.2.2 i x q), by decide⟩
theorem re_f (h : re_ M I m n ta tm) (f : fx_ (fun a j => a = 83 ∧ j = 1) (fun a _ => a = 84) M M') {xs : List Nat} (hR : ro_ M' 83 84 48 xs) : ∃ tn : Nat → Nat, re_ M' I m n ta tn ∧ (∀ c, c < 1000 → tn c = tm c) ∧ fal_ tn xs := by
  obtain ⟨r1, r2, r3, r4, r5, r6, r7, r8⟩ := hR
  obtain ⟨k, a1, a2, a3, a4, a5, a6, a7⟩ := id h.2.1.2.2.2
  have e1 : ∀ c, c < 1000 → (fun c => if c < 1000 then tm c else if c = 1000 then xs.length else mm_r M' 84 (c - 1001)) c = tm c := fun c q => if_pos q
  refine ⟨fun c => if c < 1000 then tm c else if c = 1000 then xs.length else mm_r M' 84 (c - 1001), re_F h f (fun _ _ _ => rfl) ⟨k, a1, a2, ?_, fun c q => ?_, fun c c' q1 q2 => ?_, ?_, fun i q => ?_⟩, e1, by simp, r5, fun i x q => ?_⟩
  · rw [f.2.2.1 _ _ (by omega)]
    exact a3
  · obtain ⟨b1, b2, b3, ⟨l, b4, b5, b6⟩, b7⟩ := a4 c q
    rw [e1 c (by omega)]
    refine ⟨(f.2.2.2.1 _ _ (by omega)).trans b1, b2, (f.2.1 _).trans b3, ⟨l, b4, b5, (f.2.2.2.1 _ _ (by omega)).trans b6⟩, fun f' q1 q2 => ?_⟩
    rw [f.2.2.1 _ _ (by omega)]
    exact b7 f' q1 q2
  · rw [e1 c (by omega), e1 c' (by omega)]
    exact a5 c c' q1 q2
  · rw [r6]
    rfl
  · show _ = if 1001 + i < 1000 then _ else if 1001 + i = 1000 then _ else mm_r M' 84 (1001 + i - 1001)
    rw [if_neg (by omega), if_neg (by omega), show 1001 + i - 1001 = i by omega]
  · show (if 1001 + i < 1000 then _ else if 1001 + i = 1000 then _ else mm_r M' 84 (1001 + i - 1001)) = x
    rw [if_neg (by omega), if_neg (by omega), show 1001 + i - 1001 = i by omega]
    exact r7 i x q
theorem ce_clearF (h : re_ M I m n ta tm) {P : mm_T → Prop} (K : ∀ M' tn, re_ M' I m n ta tn → (∀ c, c < 1000 → tn c = tm c) → fal_ tn [] → P M') : cs_v mt_X4_clear [pv_r 83] M P := by
  obtain ⟨f1, f2, f3⟩ := h.1.1.2.2.2.2.2.1
  refine wc_X4_clear_0 f1 (fun M1 h1 => ?_)
  have hR : ro_ M1 83 84 48 [] := by
    rw [h1]
    exact ⟨f1, f2, f3, by decide, Nat.zero_le _, mi_pis, fun i x q => by simp at q, by decide⟩
  obtain ⟨tn, r1, r2, r3⟩ := re_f h (by rw [h1]; exact fx_pi ⟨rfl, rfl⟩) hR
  exact K M1 tn r1 r2 r3
theorem ce_appF (h : re_ M I m n ta tm) {xs : List Nat} (hf : fal_ tm xs) (hl : xs.length < 48) {a1 : Nat} (ha : mm_k M a1 = (6, 17)) {P : mm_T → Prop} (K : ∀ M' tn, re_ M' I m n ta tn → (∀ c, c < 1000 → tn c = tm c) → fal_ tn (xs ++ [a1]) → P M') : cs_v mt_X4_append [pv_r 83, pv_r a1] M P := by
  refine cc_append (re_ro h hf) hl ha (fun M' hR f => ?_)
  obtain ⟨tn, r1, r2, r3⟩ := re_f h f hR
  exact K M' tn r1 r2 r3
/-- behind one that is lost -/
def bl_ (I : Nat → Nat → Int32) (m n : Nat) : Prop := ∀ t, t < n → ra_T I m t 4 = -1 ∨ ∃ q, q < t ∧ ra_T I m t 4 = nI q
def bhl_ (I : Nat → Nat → Int32) (m t : Nat) : Bool := decide (¬ ra_T I m t 4 = -1 ∧ (ra_T I m (ra_T I m t 4).toNatClampNeg 6 = 5 ∨ ra_T I m (ra_T I m t 4).toNatClampNeg 6 = 6))
def lost_ (I : Nat → Nat → Int32) (m t : Nat) : Bool := decide (ra_T I m t 6 = 1) && bhl_ I m t
theorem ce_behind (h : re_ M I m n ta tm) (hb : bl_ I m n) {t : Nat} (ht : t < n) : (ra_T I m t 4 = -1 ∧ mm_r M (ta t) 1 = 0) ∨ ∃ q, q < t ∧ ra_T I m t 4 = nI q ∧ (ra_T I m t 4).toNatClampNeg = q ∧ mm_r M (ta t) 1 = ta q := by
  have h4 := re_4 h
  have a4 := (h.1.2.2.1.1 t ht).1.2.2.2.1
  rcases hb t ht with e | ⟨q, hq, e⟩
  · refine Or.inl ⟨e, ?_⟩
    rw [a4, e]
    rfl
  · refine Or.inr ⟨q, hq, e, by rw [e]; exact nI_clamp (by omega), ?_⟩
    rw [a4, e, rft_n (by omega)]
theorem re_7 (h : re_ M I m n ta tm) {t : Nat} (ht : t < n) : mm_i M (ta t) 7 = ra_T I m t 6 := (h.1.2.2.1.1 t ht).2.1.2.2.2.2.1
theorem ce_lost (h : re_ M I m n ta tm) (hb : bl_ I m n) {t : Nat} (ht : t < n) {P : Int32 → mm_T → Prop} (K : P (if bhl_ I m t = true then 1 else 0) M) : cs_i mt_X6_isBehindLost [pv_r (ta t)] M P := by
  obtain ⟨g1, g2⟩ := re_ge h ht
  rcases ce_behind h hb ht with ⟨e1, e2⟩ | ⟨q, hq, e1, e2, e3⟩
  · have e : bhl_ I m t = false := decide_eq_false (fun z => z.1 e1)
    rw [e] at K
    refine wc_X6_isBehindLost_0 g2 ⟨fun _ => K, fun c => absurd e2 c⟩
  · obtain ⟨g3, g4⟩ := re_ge h (show q < n by omega)
    have h4 := re_4 h
    have hne : ¬ ra_T I m t 4 = -1 := by rw [e1]; exact nI_nm (by omega)
    refine wc_X6_isBehindLost_0 g2 ?_
    rw [e3, re_7 h (show q < n by omega)]
    refine ⟨fun c => absurd c (by omega), fun _ => ⟨g4, fun c => ?_, fun c => ⟨fun c2 => ?_, fun c2 => ?_⟩⟩⟩
    · rw [if_pos (show bhl_ I m t = true from decide_eq_true ⟨hne, by rw [e2]; exact Or.inl c⟩)] at K
      exact K
    · rw [if_neg (by rw [show bhl_ I m t = false from decide_eq_false (fun z => by rw [e2] at z; exact z.2.elim c c2)]; decide)] at K
      exact K
    · rw [if_pos (show bhl_ I m t = true from decide_eq_true ⟨hne, by rw [e2]; exact Or.inr c2⟩)] at K
      exact K
theorem ce_gather (h : re_ M I m n ta tm) (hb : bl_ I m n) {P : mm_T → Prop} (K : ∀ M' tn, re_ M' I m n ta tn → (∀ c, c < 1000 → tn c = tm c) → fal_ tn (((List.range n).filter (lost_ I m)).map ta) → P M') : cs_v mt_X10_gatherFalling [pv_r 5] M P := by
  have hm5 := re_m5 h
  obtain ⟨⟨s1, s2, s3, s4, s5, s6, -⟩, -⟩ := h.1.1
  refine wc_X10_gatherFalling_0 hm5 ?_
  rw [s6]
  refine ⟨h.1.1.2.2.2.2.2.1.1, ce_clearF h (fun M1 tn1 h1 t1 f1 => ?_)⟩
  have fsl : (sl_ (sgI I m) n).filter (lost_ I m) = (List.range n).filter (lost_ I m) := by
    unfold sl_
    rw [List.filter_filter]
    refine fl_eq (fun t ht => ?_)
    cases hl : lost_ I m t with
    | false => simp
    | true =>
      unfold lost_ at hl
      rw [Bool.and_eq_true, decide_eq_true_eq] at hl
      have : sd_ (sgI I m t) = true := sd_3 (Or.inr (Or.inl hl.1))
      simp [this]
  have loop : ∀ (suf pre : List Nat) (M : mm_T) (tn : Nat → Nat), pre ++ suf = sl_ (sgI I m) n → re_ M I m n ta tn → (∀ c, c < 1000 → tn c = tm c) → fal_ tn ((pre.filter (lost_ I m)).map ta) → cw_v mt_X10_gatherFalling 9 [some (pv_r 5), some (pv_i (nI pre.length)), none] [] M P := by
    intro suf
    induction suf with
    | nil =>
      intro pre M tn hp h t1 f1
      have hB := h.1.2.1.1
      obtain ⟨k1, k2, k3, k4, k5, k6⟩ := row_k hB
      refine wc_X10_gatherFalling_9 (re_m5 h) ?_
      rw [h.1.1.1.2.1, k1]
      refine ⟨(br_S h.1.2.1).1, k2, fun _ => K M tn h t1 ?_, fun c => absurd (row_end hB hp) c⟩
      rw [show pre = sl_ (sgI I m) n by simpa using hp, fsl] at f1
      exact f1
    | cons y suf ih =>
      intro pre M tn hp h t1 f1
      have hB := h.1.2.1.1
      obtain ⟨k1, k2, k3, k4, k5, k6⟩ := row_k hB
      obtain ⟨e1, e2, e3, e4, e5, e6⟩ := row_at hB hp
      obtain ⟨g1, g2⟩ := re_ge h e2
      have no : lost_ I m y = false → cw_v mt_X10_gatherFalling 9 [some (pv_r 5), some (pv_i (nI (pre.length + 1))), none] [] M P := fun hf => by
        have := ih (pre ++ [y]) M tn (app1 hp) h t1 (by
          rw [List.filter_append, List.filter_cons, if_neg (by rw [hf]; decide)]
          simpa using f1)
        rw [← len1] at this
        exact this
      refine wc_X10_gatherFalling_9 (re_m5 h) ?_
      rw [h.1.1.1.2.1, k1, k3]
      refine ⟨(br_S h.1.2.1).1, k2, fun c => absurd c (row_go hB hp), fun _ => ⟨48, k4, pre.length, ⟨rfl, e5⟩, ?_⟩⟩
      rw [e1, re_7 h e2]
      refine ⟨g2, fun c => no (by unfold lost_; rw [decide_eq_false c]; rfl), fun c => ce_lost h hb e2 ?_⟩
      cases hl : bhl_ I m y with
      | false => exact ⟨fun _ => no (by unfold lost_; rw [hl]; simp), fun c2 => absurd rfl c2⟩
      | true =>
        have hly : lost_ I m y = true := by unfold lost_; rw [hl, decide_eq_true c]; rfl
        refine ⟨fun c2 => absurd c2 (by decide), fun _ => ?_⟩
        rw [h.1.1.1.2.2.2.2.2.1]
        have hlen : ((pre.filter (lost_ I m)).map ta).length < 48 := by
          rw [List.length_map]
          have := List.length_filter_le (lost_ I m) pre
          omega
        refine ⟨h.1.1.2.2.2.2.2.1.1, ce_appF h f1 hlen g2 (fun M2 tn2 h2 t2 f2 => ?_)⟩
        have := ih (pre ++ [y]) M2 tn2 (app1 hp) h2 (fun c q => (t2 c q).trans (t1 c q)) (by
          rw [List.filter_append, List.filter_cons, if_pos hly, List.map_append]
          exact f2)
        rw [← len1] at this
        exact this
  exact loop _ [] M1 tn1 rfl h1 t1 f1
/-! updates that pass the log and the causes -/
theorem log_cm {a j t : Nat} {x1 x3 x4 y : Int32} (h1 : a ≠ m + 6) (h2 : a ≠ m ∨ (j ≠ 6 ∧ j ≠ 8)) (h3 : a ≠ m + 1 ∨ (j ≠ 0 ∧ j ≠ 200 + 14 * t)) : sp_log (i2_u I a j y) m x1 t x3 x4 = i2_u (sp_log I m x1 t x3 x4) a j y := by
  have r8 : i2_u I a j y m 8 = I m 8 := by rw [i2_at, if_neg (by omega)]
  have r6 : i2_u I a j y m 6 = I m 6 := by rw [i2_at, if_neg (by omega)]
  have r0 : i2_u I a j y (m + 1) 0 = I (m + 1) 0 := by rw [i2_at, if_neg (by omega)]
  have rT : ra_T (i2_u I a j y) m t 0 = ra_T I m t 0 := by unfold ra_T; rw [i2_at, if_neg (by omega)]
  unfold sp_log
  rw [r8, r6]
  split
  · unfold ra_wr
    rw [r0, rT]
    funext p q
    by_cases c : p = a ∧ q = j
    · rw [i2_at (a := a), if_pos c, i2_at, if_neg (by omega), i2_at, if_neg (by omega), i2_at, if_neg (by omega), i2_at, if_neg (by omega), i2_at, if_neg (by omega), i2_at, if_neg (by omega), i2_at, if_neg (by omega), i2_at, if_pos c]
    · rw [i2_at (a := a), if_neg c]
      simp only [i2_at, if_neg c]
  · rfl
theorem bl_cm {j t : Nat} {x y : Int32} (h : j ≠ 200 + 14 * t + 13) : sp_bl (i2_u I (m + 1) j y) m t x = i2_u (sp_bl I m t x) (m + 1) j y := by
  have r8 : i2_u I (m + 1) j y m 8 = I m 8 := i2_ua (by omega)
  have r4 : i2_u I (m + 1) j y (m + 4) t = I (m + 4) t := i2_ua (by omega)
  unfold sp_bl
  rw [r8, r4]
  split
  · unfold ra_blame
    split
    · exact (i2_cm (Or.inr h)).symm ▸ rfl
    · rw [i2_cm (a := m + 1) (b := m + 1) (Or.inr (Ne.symm (Ne.symm h))), i2_cm (a := m + 1) (b := m + 5) (Or.inl (by omega)), i2_cm (a := m + 1) (b := m + 4) (Or.inl (by omega))]
  · exact i2_cm (Or.inr h)
/-- one of those that fall, by a cause -/
def sp_stp (I : Nat → Nat → Int32) (m t : Nat) (c : Int32) : Nat → Nat → Int32 := if c < 100 then sp_ga I m t c else sp_as1 I m t c
theorem ga_ex {t : Nat} {c : Int32} : ∀ a j, ¬ (a = m ∧ j = 10) → sp_ga I m t c a j = sp_log (sp_aa (i2_u I (m + 1) (200 + 14 * t + 6) 5) m t) m 4 t (-1) c a j := by
  intro a j q
  have e3 : i2_u I (m + 1) (200 + 14 * t + 6) 5 (m + 1) 3 = I (m + 1) 3 := i2_uj (by omega)
  unfold sp_ga sp_aa
  rw [e3, log_cm (a := m) (by omega) (by omega) (by omega), i2_at, if_neg q]
theorem ce_fall1 (h : re_ M I m n ta tm) (h8 : I m 8 = 0) {b : Nat} (hd : dv_ I m n b) (hb : b < 1999999000) {t : Nat} (ht : t < n) (hst : sd_ (sgI I m t) = true) {c : Int32} (hc : c < 100 ∨ True) {P : mm_T → Prop} (K : ∀ M', re_ M' (sp_stp I m t c) m n ta tm → P M') :
    cs_v mt_X0_change [pv_r 6, pv_r (ta t), pv_i 5] M (fun M10 => ((c < 100 → mm_k M10 (mm_r M10 5 3) = (4, 2) ∧ cs_v mt_X4_append [pv_r (mm_r M10 5 3), pv_r (ta t)] M10 (fun M16 => cs_v mt_X10_note [pv_r 5, pv_i 4, pv_r (ta t), pv_r 0, pv_i c] M16 (fun M22 => P M22))) ∧ (¬ c < 100 → mm_k M10 (ta t) = (6, 17) ∧ cs_v mt_X6_addCause [pv_r (ta t), pv_i c] M10 (fun M29 => mm_k M29 (mm_r M29 5 3) = (4, 2) ∧ cs_v mt_X4_append [pv_r (mm_r M29 5 3), pv_r (ta t)] M29 (fun M36 => cs_v mt_X10_note [pv_r 5, pv_i 4, pv_r (ta t), pv_r 0, pv_i c] M36 (fun M43 => P M43)))))) := by
  have h4 := re_4 h
  obtain ⟨v1, v2, v3, v4, v5, v6⟩ := hd
  obtain ⟨L, hL1, hL2⟩ := v6 h8
  have n5 : ¬ ra_T I m t 6 = 5 := fun q => by
    unfold sgI at hst
    rw [q] at hst
    exact absurd hst (by decide)
  have hlt := cn5_lt ht n5
  refine ce_change h (s := 5) (v := 5) ht rfl (by decide) (fun q => by rw [hst] at q; cases q) (fun M1 h1 => ?_)
  have tail : ∀ (B : Nat → Nat → Int32) (M2 : mm_T), B (m + 1) 3 = I (m + 1) 3 → B m 8 = 0 → B m 6 = nI L → re_ M2 (i2_u B (m + 1) (200 + 14 * t + 6) 5) m n ta tm → (∀ M3, re_ M3 (sp_ga B m t c) m n ta tm → P M3) → mm_k M2 (mm_r M2 5 3) = (4, 2) ∧ cs_v mt_X4_append [pv_r (mm_r M2 5 3), pv_r (ta t)] M2 (fun M16 => cs_v mt_X10_note [pv_r 5, pv_i 4, pv_r (ta t), pv_r 0, pv_i c] M16 (fun M22 => P M22)) := by
    intro B M2 e3 e8 e6 h2 K
    have a4 := h2.2.1.2.1
    rw [h2.1.1.1.2.2.2.2.1]
    obtain ⟨as, -, -, -, hro⟩ := a4
    refine ⟨hro.1, ce_asAppend h2 ht (k := cn_ (fun t => decide (ra_T I m t 6 = 5)) n) (by rw [i2_uj (by omega), e3]; exact v5) (by omega) (fun M3 h3 => ?_)⟩
    refine ce_note h3 ?_ (L := L) ?_ (by omega) ht (x3 := -1) (Or.inl ⟨rfl, rfl⟩) (fun M4 h5 => K M4 (re_I h5 fx_rf (fun a j q => ga_ex a j (by omega))))
    · unfold sp_aa
      rw [i2_ua (by omega), i2_ua (by omega), i2_ua (by omega)]
      exact e8
    · unfold sp_aa
      rw [i2_ua (by omega), i2_ua (by omega), i2_ua (by omega)]
      exact e6
  unfold sp_stp at K
  refine ⟨fun c1 => ?_, fun c1 => ⟨(re_ge h1 ht).2, ce_addCause h1 ?_ ht ?_ (fun M2 h2 => ?_)⟩⟩
  · rw [if_pos c1] at K
    exact tail I M1 rfl h8 hL2 h1 K
  · rw [i2_ua (by omega)]; exact h8
  · exact cb_o (v4 t ht) (i2_ua (by omega)) (i2_ua (by omega))
  · rw [if_neg c1] at K
    rw [bl_cm (by omega)] at h2
    exact tail (sp_bl I m t c) M2 (sp_bl_o (by omega) (by omega) (by omega)) ((sp_bl_o (by omega) (by omega) (by omega)).trans h8) ((sp_bl_o (by omega) (by omega) (by omega)).trans hL2) h2 K
/-! levels -/
theorem asd_s {c : Int32} (h4 : n ≤ 400) : ∀ {ts : List Nat} {I : Nat → Nat → Int32} {t' : Nat}, (∀ t, t ∈ ts → t < n) → t' < n → ra_T (sp_asd I m ts c) m t' 6 = if t' ∈ ts then 5 else ra_T I m t' 6
  | [], _, _, _, _ => by simp [sp_asd]
  | t :: ts, I, t', hm, ht' => by
    have := hm t List.mem_cons_self
    show ra_T (sp_asd (sp_as1 I m t c) m ts c) m t' 6 = _
    rw [asd_s h4 (fun t q => hm t (List.mem_cons_of_mem _ q)) ht', as1_s (by omega) (by omega)]
    by_cases q : t' ∈ ts
    · rw [if_pos q, if_pos (List.mem_cons_of_mem _ q)]
    · rw [if_neg q]
      by_cases z : t' = t
      · rw [if_pos z, if_pos (by rw [z]; exact List.mem_cons_self)]
      · rw [if_neg z, if_neg (fun y => (List.mem_cons.mp y).elim z q)]
theorem asd_f {c : Int32} {f : Nat} (hf : f < 14) (h6 : f ≠ 6) (h13 : f ≠ 13) : ∀ {ts : List Nat} {I : Nat → Nat → Int32} {t' : Nat}, t' < 400 → ra_T (sp_asd I m ts c) m t' f = ra_T I m t' f
  | [], _, _, _ => rfl
  | t :: ts, I, t', ht' => by
    show ra_T (sp_asd (sp_as1 I m t c) m ts c) m t' f = _
    rw [asd_f hf h6 h13 ht', as1_f ht' hf h6 h13]
theorem ce_set27 {c x1 x3 x4 : Int32} (hc : ¬ c < 100) {P : Int32 → mm_T → Prop} : ∀ (suf pre : List Nat) {M : mm_T} {I : Nat → Nat → Int32} {b : Nat}, re_ M I m n ta tm → I m 8 = 0 → fal_ tm ((pre ++ suf).map ta) → suf.Nodup → (∀ t, t ∈ suf → t < n ∧ ra_T I m t 6 = 1) → dv_ I m n b → b + suf.length < 1999999000 → (∀ M', re_ M' (sp_asd I m suf c) m n ta tm → cs_v mt_X10_gatherFalling [pv_r 5] M' (fun M2 => cw_i mt_X10_setAside 7 [some (pv_r 5), some (pv_i x1), some (pv_i 100), some (pv_i (x3 + nI (pre ++ suf).length)), some (pv_i (x4 + 1)), none, none] [] M2 P)) → cw_i mt_X10_setAside 27 [some (pv_r 5), some (pv_i x1), some (pv_i c), some (pv_i x3), some (pv_i x4), some (pv_i (nI pre.length)), none] [] M P
  | [], pre, M, I, b, h, h8, hf, _, _, _, _, K => by
    have hro := re_ro h hf
    rw [List.append_nil] at hro hf K
    refine wc_X10_setAside_27 (re_m5 h) ?_
    rw [h.1.1.1.2.2.2.2.2.1]
    have e1 : mm_i M 83 1 = nI pre.length := by
      have := hro.2.2.2.2.2.1
      rw [List.length_map] at this
      exact this
    rw [e1]
    exact ⟨hro.1, fun _ => K M h, fun c => absurd (Int32.le_refl _) c⟩
  | t :: suf, pre, M, I, b, h, h8, hf, hnd, hm, hd, hb, K => by
    have hro := re_ro h hf
    have h4 := re_4 h
    obtain ⟨ht, h1⟩ := hm t List.mem_cons_self
    rw [List.nodup_cons] at hnd
    have hlen : ((pre ++ t :: suf).map ta).length = pre.length + (suf.length + 1) := by simp
    have hl48 := hf.2.1
    have e1 : mm_i M 83 1 = nI (pre.length + (suf.length + 1)) := by
      have := hro.2.2.2.2.2.1
      rw [hlen] at this
      exact this
    have et : mm_r M 84 pre.length = ta t := hro.2.2.2.2.2.2.1 _ _ (by simp)
    rw [List.length_cons] at hb
    refine wc_X10_setAside_27 (re_m5 h) ?_
    rw [h.1.1.1.2.2.2.2.2.1, h.1.1.1.2.1, hro.2.1, e1]
    refine ⟨hro.1, fun z => absurd z (nI_ge (by omega) (by omega)), fun _ => ⟨48, hro.2.2.1, pre.length, ⟨rfl, by omega⟩, (br_S h.1.2.1).1, ?_⟩⟩
    rw [et]
    have ih : ∀ M', re_ M' (sp_stp I m t c) m n ta tm → cw_i mt_X10_setAside 27 [some (pv_r 5), some (pv_i x1), some (pv_i c), some (pv_i x3), some (pv_i x4), some (pv_i (nI (pre.length + 1))), none] [] M' P := fun M' h' => by
      have e : sp_stp I m t c = sp_as1 I m t c := by unfold sp_stp; rw [if_neg hc]
      rw [e] at h'
      have := ce_set27 (x1 := x1) (x3 := x3) (x4 := x4) (P := P) hc suf (pre ++ [t]) h' ((as1_o (by omega) (by omega) (by omega) (by omega) (by omega)).trans h8) (by simpa using hf) hnd.2 (fun t' q => by
        obtain ⟨q1, q2⟩ := hm t' (List.mem_cons_of_mem _ q)
        refine ⟨q1, ?_⟩
        rw [as1_s (by omega) (by omega), if_neg (fun z => hnd.1 (by rw [← z]; exact q))]
        exact q2) (dv_as1 hd (by omega) ht h1) (by omega) (fun M'' h'' => by
          have := K M'' h''
          simpa using this)
      rw [← len1] at this
      exact this
    exact ce_fall1 h h8 hd (by omega) ht (sd_3 (Or.inr (Or.inl h1))) (Or.inr trivial) ih
theorem hc_le (hv : tv_ I m n) : hc_ I m n ≤ cn_ (ra_st I m (-1)) n := by
  unfold hc_
  rw [← lkS hv, ← ct_sl (sg := sgI I m) (p := fun t => decide (ra_T I m t 6 = 1)) (fun t ht hp => sd_3 (Or.inr (Or.inl (of_decide_eq_true hp))))]
  exact List.length_filter_le _ _
theorem ce_set7 {x1 : Int32} {P : Int32 → mm_T → Prop} : ∀ (k : Nat) {M : mm_T} {I : Nat → Nat → Int32} {tm : Nat → Nat} {lv : List Nat} {c x3 : Int32} {b s : Nat}, re_ M I m n ta tm → I m 8 = 0 → bl_ I m n → fal_ tm (((List.range n).filter (lost_ I m)).map ta) → (∀ t, t < n → lost_ I m t = sp_p I m lv t) → (∀ q, q ∈ lv → q < n) → dv_ I m n b → zr_ I m → b + hc_ I m n < 1999998000 → s + hc_ I m n ≤ 48 → hc_ I m n < k → ¬ c < 100 → (∀ M' tn, re_ M' (sp_dr k I m n lv c).1 m n ta tn → (∀ c, c < 1000 → tn c = tm c) → P (x3 + nI (sp_dr k I m n lv c).2) M') → cw_i mt_X10_setAside 7 [some (pv_r 5), some (pv_i x1), some (pv_i c), some (pv_i x3), some (pv_i (nI s)), none, none] [] M P
  | 0, _, _, _, _, _, _, _, _, _, _, _, _, _, _, _, _, _, _, hk, _, _ => by omega
  | k + 1, M, I, tm, lv, c, x3, b, s, h, h8, hbl, hf, hlv, hlvn, hd, hz, hb, hs, hk, hc, K => by
    have hro := re_ro h hf
    have h4 := re_4 h
    have eL : (List.range n).filter (lost_ I m) = (List.range n).filter (sp_p I m lv) := fl_eq hlv
    rw [eL] at hf hro
    refine wc_X10_setAside_7 (re_m5 h) ⟨fun z => absurd z (show ¬ nI 48 < nI s from nI_nlt (by omega) (by omega)), fun _ => ?_⟩
    rw [h.1.1.1.2.2.2.2.2.1]
    have e1 : mm_i M 83 1 = nI ((List.range n).filter (sp_p I m lv)).length := by
      have := hro.2.2.2.2.2.1
      rw [List.length_map] at this
      exact this
    have hl48 : ((List.range n).filter (sp_p I m lv)).length ≤ 48 := by
      have := hf.2.1
      rw [List.length_map] at this
      exact this
    rw [e1]
    have mem : ∀ t, t ∈ (List.range n).filter (sp_p I m lv) → t < n ∧ ra_T I m t 6 = 1 := fun t q => by
      rw [List.mem_filter, List.mem_range] at q
      exact ⟨q.1, (sp_p_of q.2).1⟩
    have Kd : ∀ M' tn, re_ M' (sp_dr k (sp_asd I m ((List.range n).filter (sp_p I m lv)) c) m n ((List.range n).filter (sp_p I m lv)) 100).1 m n ta tn → (∀ c, c < 1000 → tn c = tm c) → P (x3 + nI (((List.range n).filter (sp_p I m lv)).length + (sp_dr k (sp_asd I m ((List.range n).filter (sp_p I m lv)) c) m n ((List.range n).filter (sp_p I m lv)) 100).2)) M' := K
    obtain ⟨ts, hts⟩ : ∃ ts, ts = (List.range n).filter (sp_p I m lv) := ⟨_, rfl⟩
    rw [← hts] at Kd hf mem hl48 eL ⊢
    cases hcase : ts with
    | nil =>
      rw [hcase] at Kd
      rw [sp_dr_nil] at Kd
      refine ⟨h.1.1.2.2.2.2.2.1.1, fun _ => ?_, fun z => absurd (by decide) z⟩
      have := Kd M tm h (fun _ _ => rfl)
      simpa [nI_0] using this
    | cons y ys =>
      have hne : 0 < ts.length := by rw [hcase]; simp
      rw [← hcase]
      refine ⟨h.1.1.2.2.2.2.2.1.1, fun z => absurd z (nI_nle hne (by omega)), fun _ => ?_⟩
      obtain ⟨o1, o2, o3⟩ := asd_ok (c := c) (ts := ts) h4 (by rw [hts]; exact rg_nd) mem hd hz (by omega)
      have hsl : ∀ t', t' < n → ra_T (sp_asd I m ts c) m t' 6 = if t' ∈ ts then 5 else ra_T I m t' 6 := fun t' q => asd_s h4 (fun t z => (mem t z).1) q
      have hs4 : ∀ t', t' < n → ra_T (sp_asd I m ts c) m t' 4 = ra_T I m t' 4 := fun t' q => asd_f (by decide) (by decide) (by decide) (by omega)
      refine ce_set27 hc ts [] h h8 (by simpa using hf) (by rw [hts]; exact rg_nd) mem hd (by omega) (fun M' h' => ?_)
      have hbl' : bl_ (sp_asd I m ts c) m n := fun t q => by
        rw [hs4 t q]
        exact hbl t q
      refine ce_gather h' hbl' (fun M2 tn2 h2 t2 f2 => ?_)
      have e : x3 + nI ([] ++ ts).length = x3 + nI ts.length := by simp
      rw [e, nI_1]
      refine ce_set7 k (lv := ts) (b := b + ts.length) h2 ?_ hbl' f2 ?_ (fun q z => (mem q z).1) o2 o3 (by omega) (by omega) (by omega) (by decide) (fun M3 tn3 h3 t3 => ?_)
      · exact (asd_o (by omega) (by omega) (by omega) (by omega) (by omega)).trans h8
      · intro t ht
        rw [Bool.eq_iff_iff]
        constructor
        · intro q
          unfold lost_ bhl_ at q
          rw [Bool.and_eq_true, decide_eq_true_eq, decide_eq_true_eq, hs4 t ht] at q
          obtain ⟨q1, q2, q3⟩ := q
          rw [hsl t ht] at q1
          by_cases z : t ∈ ts
          · rw [if_pos z] at q1
            exact absurd q1 (by decide)
          · rw [if_neg z] at q1
            rcases hbl t ht with e | ⟨r, hr, e⟩
            · exact absurd e q2
            · have er : (ra_T I m t 4).toNatClampNeg = r := by rw [e]; exact nI_clamp (by omega)
              rw [er, hsl r (by omega)] at q3
              by_cases w : r ∈ ts
              · exact sp_p_t (by rw [hsl t ht, if_neg z]; exact q1) ((hs4 t ht).trans e) w
              · rw [if_neg w] at q3
                have : lost_ I m t = true := by
                  unfold lost_ bhl_
                  rw [decide_eq_true q1, decide_eq_true ⟨q2, by rw [er]; exact q3⟩]
                  rfl
                exact absurd (by rw [← eL, List.mem_filter, List.mem_range]; exact ⟨ht, this⟩) z
        · intro q
          obtain ⟨q1, r, hr, q2⟩ := sp_p_of q
          have hrn := (mem r hr).1
          unfold lost_ bhl_
          rw [Bool.and_eq_true, decide_eq_true_eq, decide_eq_true_eq]
          refine ⟨q1, by rw [q2]; exact nI_nm (by omega), Or.inl ?_⟩
          rw [q2, nI_clamp (by omega), hsl r hrn, if_pos hr]
      · have := Kd M3 tn3 h3 (fun c q => (t3 c q).trans (t2 c q))
        rw [← nI_add, ← Int32.add_assoc] at this
        exact this
end Fall
