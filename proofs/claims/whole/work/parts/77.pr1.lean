/-! THE CLASS: single writes of tasks and workers; looking up; the log; holding -/
section Pr1
variable {M M' : mm_T} {I J : Nat → Nat → Int32} {m n : Nat} {ta tm : Nat → Nat}
theorem mk_u {a j : Nat} {x : Int32} : ∀ c, mm_k (mm_pi M a j x) c = mm_k M c := fun _ => rfl
/-- an int of one task's cell, and its place in the row -/
def jf_ (j f : Nat) : Prop := (j = 3 ∧ f = 1) ∨ (j = 7 ∧ f = 6) ∨ (j = 8 ∧ f = 7) ∨ (j = 9 ∧ f = 8) ∨ (j = 11 ∧ f = 10) ∨ (j = 12 ∧ f = 11) ∨ (j = 13 ∧ f = 12) ∨ (j = 16 ∧ f = 13)
theorem rT_pi (h : rT_ M I m n ta) {t0 j f : Nat} {x : Int32} (ht0 : t0 < n) (hjf : jf_ j f) : rT_ (mm_pi M (ta t0) j x) (i2_u I (m + 1) (200 + 14 * t0 + f) x) m n ta := by
  unfold jf_ at hjf
  have prc : ∀ t jj ff, t < n → ff < 14 → (jj = j ↔ ff = f) → (ra_T I m t ff ≠ -1 → mm_i M (ta t) jj = ra_T I m t ff) → ra_T (i2_u I (m + 1) (200 + 14 * t0 + f) x) m t ff ≠ -1 → mm_i (mm_pi M (ta t0) j x) (ta t) jj = ra_T (i2_u I (m + 1) (200 + 14 * t0 + f) x) m t ff := by
    intro t jj ff ht hff hh e hn
    by_cases q : t = t0 ∧ jj = j
    · have hf := hh.mp q.2
      have e2 : ra_T (i2_u I (m + 1) (200 + 14 * t0 + f) x) m t ff = x := by
        unfold ra_T
        rw [i2_at, if_pos ⟨rfl, by omega⟩]
      rw [e2, mi_pi, if_pos ⟨by rw [q.1], q.2⟩]
    · have e2 : ra_T (i2_u I (m + 1) (200 + 14 * t0 + f) x) m t ff = ra_T I m t ff := by
        unfold ra_T
        rw [i2_at, if_neg (fun z => q (by
          have hz : t = t0 ∧ ff = f := by omega
          exact ⟨hz.1, hh.mpr hz.2⟩))]
      rw [e2] at hn ⊢
      rw [mi_pi, if_neg (fun z => q ⟨h.2.1 t t0 ht ht0 z.1, z.2⟩)]
      exact e hn
  have pr : ∀ t jj ff, t < n → ff < 14 → (jj = j ↔ ff = f) → mm_i M (ta t) jj = ra_T I m t ff → mm_i (mm_pi M (ta t0) j x) (ta t) jj = ra_T (i2_u I (m + 1) (200 + 14 * t0 + f) x) m t ff := by
    intro t jj ff ht hff hh e
    unfold ra_T
    rw [mi_pi, i2_at]
    by_cases q : t = t0 ∧ jj = j
    · have := hh.mp q.2
      rw [if_pos ⟨by rw [q.1], q.2⟩, if_pos ⟨rfl, by omega⟩]
    · rw [if_neg (fun z => q ⟨h.2.1 t t0 ht ht0 z.1, z.2⟩), if_neg (fun z => q (by
        have hz : t = t0 ∧ ff = f := by omega
        exact ⟨hz.1, hh.mpr hz.2⟩))]
      exact e
  have fr : ∀ t ff, ff < 14 → ff ≠ f → ra_T (i2_u I (m + 1) (200 + 14 * t0 + f) x) m t ff = ra_T I m t ff := fun t ff _ _ => i2_uj (by omega)
  refine ⟨fun t q => ?_, h.2.1, h.2.2⟩
  obtain ⟨⟨a1, a2, a3, a4, a5, a6⟩, ⟨b1, b2, b3, b4, b5, b6, b7, b8⟩, ⟨c1, c2, c3⟩, d1, d2⟩ := h.1 t q
  refine ⟨⟨a1, a2, (mi_pij (by omega)).trans a3, ?_, ?_, ?_⟩, ⟨pr t 3 1 q (by decide) (by omega) b1, pr t 4 2 q (by decide) (by omega) b2, pr t 5 3 q (by decide) (by omega) b3, pr t 6 5 q (by decide) (by omega) b4, pr t 7 6 q (by decide) (by omega) b5, pr t 8 7 q (by decide) (by omega) b6, pr t 13 12 q (by decide) (by omega) b7, pr t 16 13 q (by decide) (by omega) b8⟩, ⟨prc t 9 8 q (by decide) (by omega) c1, prc t 11 10 q (by decide) (by omega) c2, prc t 12 11 q (by decide) (by omega) c3⟩, ?_, ?_⟩
  · rw [fr t 4 (by decide) (by omega)]; exact a4
  · unfold lmI
    rw [fr t 0 (by decide) (by omega)]
    exact a5
  · rw [fr t 9 (by decide) (by omega)]; exact a6
  · rw [mi_pij (by omega), i2_ua (by omega)]; exact d1
  · unfold rcs
    rw [i2_ua (by omega)]
    rcases d2 with d2 | ⟨d2, d3, d4⟩
    · exact Or.inl d2
    · refine Or.inr ⟨d2, d3, fun k q1 q2 => ?_⟩
      have hne : mm_r M (ta t) 14 ≠ ta t0 := (ne_ak (h.1 t0 ht0).1.1 (by decide) d3).symm
      rw [i2_ua (by omega), mi_pia (show mm_r (mm_pi M (ta t0) j x) (ta t) 14 ≠ ta t0 from hne)]
      exact d4 k q1 q2
/-- an int of the row alone becomes -1 -/
theorem rT_neg (h : rT_ M I m n ta) {t0 f : Nat} (hf : f = 8 ∨ f = 10 ∨ f = 11) : rT_ M (i2_u I (m + 1) (200 + 14 * t0 + f) (-1)) m n ta := by
  have fr : ∀ t ff, ff < 14 → ff ≠ f → ra_T (i2_u I (m + 1) (200 + 14 * t0 + f) (-1)) m t ff = ra_T I m t ff := fun t ff _ _ => i2_uj (by omega)
  have cn : ∀ t ff jj, ff < 14 → (ra_T I m t ff ≠ -1 → mm_i M (ta t) jj = ra_T I m t ff) → ra_T (i2_u I (m + 1) (200 + 14 * t0 + f) (-1)) m t ff ≠ -1 → mm_i M (ta t) jj = ra_T (i2_u I (m + 1) (200 + 14 * t0 + f) (-1)) m t ff := fun t ff jj hff e => by
    unfold ra_T
    rw [i2_at]
    split
    · exact fun z => absurd rfl z
    · exact e
  refine ⟨fun t q => ?_, h.2.1, h.2.2⟩
  obtain ⟨⟨a1, a2, a3, a4, a5, a6⟩, ⟨b1, b2, b3, b4, b5, b6, b7, b8⟩, ⟨c1, c2, c3⟩, d1, d2⟩ := h.1 t q
  refine ⟨⟨a1, a2, a3, ?_, ?_, ?_⟩, ⟨?_, ?_, ?_, ?_, ?_, ?_, ?_, ?_⟩, ⟨cn t 8 9 (by decide) c1, cn t 10 11 (by decide) c2, cn t 11 12 (by decide) c3⟩, ?_, ?_⟩
  · rw [fr t 4 (by decide) (by omega)]; exact a4
  · unfold lmI
    rw [fr t 0 (by decide) (by omega)]
    exact a5
  · rw [fr t 9 (by decide) (by omega)]; exact a6
  · rw [fr t _ (by decide) (by omega)]; exact b1
  · rw [fr t _ (by decide) (by omega)]; exact b2
  · rw [fr t _ (by decide) (by omega)]; exact b3
  · rw [fr t _ (by decide) (by omega)]; exact b4
  · rw [fr t _ (by decide) (by omega)]; exact b5
  · rw [fr t _ (by decide) (by omega)]; exact b6
  · rw [fr t _ (by decide) (by omega)]; exact b7
  · rw [fr t _ (by decide) (by omega)]; exact b8
  · rw [i2_ua (by omega)]; exact d1
  · unfold rcs
    rw [i2_ua (by omega)]
    rcases d2 with d2 | ⟨d2, d3, d4⟩
    · exact Or.inl d2
    · refine Or.inr ⟨d2, d3, fun k q1 q2 => ?_⟩
      rw [i2_ua (by omega)]
      exact d4 k q1 q2
/-- a task's worker -/
theorem rT_pr (h : rT_ M I m n ta) {t0 r : Nat} {y : Int32} (ht0 : t0 < n) (hr : r = rfw y) : rT_ (mm_pr M (ta t0) 10 r) (i2_u I (m + 1) (200 + 14 * t0 + 9) y) m n ta := by
  have fr : ∀ t ff, ff < 14 → ff ≠ 9 → ra_T (i2_u I (m + 1) (200 + 14 * t0 + 9) y) m t ff = ra_T I m t ff := fun t ff _ _ => i2_uj (by omega)
  refine ⟨fun t q => ?_, h.2.1, fun t t' q1 q2 => by
    rw [mr_prj (by decide), mr_prj (by decide)]
    exact h.2.2 t t' q1 q2⟩
  obtain ⟨⟨a1, a2, a3, a4, a5, a6⟩, ⟨b1, b2, b3, b4, b5, b6, b7, b8⟩, ⟨c1, c2, c3⟩, d1, d2⟩ := h.1 t q
  refine ⟨⟨a1, a2, a3, ?_, ?_, ?_⟩, ⟨?_, ?_, ?_, ?_, ?_, ?_, ?_, ?_⟩, ⟨?_, ?_, ?_⟩, ?_, ?_⟩
  · rw [fr t 4 (by decide) (by omega), mr_prj (by decide)]; exact a4
  · unfold lmI
    rw [fr t 0 (by decide) (by omega), mr_prj (by decide)]
    exact a5
  · by_cases e : t = t0
    · subst e
      rw [mr_prs]
      unfold ra_T
      rw [i2_us]
      exact hr
    · rw [mr_pra (fun z => e (h.2.1 t t0 q ht0 z))]
      unfold ra_T
      rw [i2_uj (by omega)]
      exact a6
  · rw [fr t _ (by decide) (by omega)]; exact b1
  · rw [fr t _ (by decide) (by omega)]; exact b2
  · rw [fr t _ (by decide) (by omega)]; exact b3
  · rw [fr t _ (by decide) (by omega)]; exact b4
  · rw [fr t _ (by decide) (by omega)]; exact b5
  · rw [fr t _ (by decide) (by omega)]; exact b6
  · rw [fr t _ (by decide) (by omega)]; exact b7
  · rw [fr t _ (by decide) (by omega)]; exact b8
  · rw [fr t _ (by decide) (by omega)]; exact c1
  · rw [fr t _ (by decide) (by omega)]; exact c2
  · rw [fr t _ (by decide) (by omega)]; exact c3
  · rw [i2_ua (by omega)]; exact d1
  · unfold rcs
    rw [i2_ua (by omega), show mm_r (mm_pr M (ta t0) 10 r) (ta t) 14 = mm_r M (ta t) 14 from mr_prj (by decide)]
    rcases d2 with d2 | ⟨d2, d3, d4⟩
    · exact Or.inl d2
    · refine Or.inr ⟨d2, d3, fun k q1 q2 => ?_⟩
      rw [i2_ua (by omega)]
      exact d4 k q1 q2
theorem re_ge (h : re_ M I m n ta tm) {t : Nat} (ht : t < n) : 112 ≤ ta t ∧ mm_k M (ta t) = (6, 17) := ⟨(h.1.2.2.1.1 t ht).1.2.1, (h.1.2.2.1.1 t ht).1.1⟩
theorem re_4 (h : re_ M I m n ta tm) : n ≤ 400 := h.1.2.1.2.1.2.1
theorem re_1 (h : re_ M I m n ta tm) : I (m + 1) 1 = nI n := h.1.2.1.2.1.1
/-- tried, due, ends, done: a task's int -/
theorem re_ti (h : re_ M I m n ta tm) {t j f : Nat} {x : Int32} (ht : t < n) (hjf : (j = 8 ∧ f = 7) ∨ (j = 9 ∧ f = 8) ∨ (j = 11 ∧ f = 10) ∨ (j = 12 ∧ f = 11) ∨ (j = 13 ∧ f = 12) ∨ (j = 16 ∧ f = 13)) : re_ (mm_pi M (ta t) j x) (i2_u I (m + 1) (200 + 14 * t + f) x) m n ta tm := by
  obtain ⟨g1, g2⟩ := re_ge h ht
  have h4 := re_4 h
  refine re_T h (fx_pi (Or.inr ⟨g1, g2, by omega⟩)) (fun a j' q => ?_) (rT_pi h.1.2.2.1 ht (by unfold jf_; omega)) (rW_o h.2.1.2.2.1 (fun w j' q => mi_pia (by omega)) (fun _ _ => rfl) (fun w f' _ _ => i2_uj (by omega)))
  rw [i2_at, if_neg]
  rintro ⟨z1, z2⟩
  exact q ⟨z1, by omega⟩
theorem re_neg (h : re_ M I m n ta tm) {t f : Nat} (ht : t < n) (hf : f = 8 ∨ f = 10 ∨ f = 11) : re_ M (i2_u I (m + 1) (200 + 14 * t + f) (-1)) m n ta tm := by
  have h4 := re_4 h
  refine re_T h fx_rf (fun a j' q => ?_) (rT_neg h.1.2.2.1 hf) (rW_o h.2.1.2.2.1 (fun _ _ _ => rfl) (fun _ _ => rfl) (fun w f' _ _ => i2_uj (by omega)))
  rw [i2_at, if_neg]
  rintro ⟨z1, z2⟩
  exact q ⟨z1, by omega⟩
/-- a worker's count -/
theorem re_wi (h : re_ M I m n ta tm) {w f : Nat} {x : Int32} (hw : w < 6) (hf : f = 1 ∨ f = 2 ∨ f = 3) : re_ (mm_pi M (86 + w) (f + 1) x) (i2_u I (m + 1) (60 + 4 * w + f) x) m n ta tm := by
  refine re_W h (fx_pi (by omega)) (fun a j' q => ?_) ?_
  · rw [i2_at, if_neg]
    rintro ⟨z1, z2⟩
    exact q ⟨z1, by omega⟩
  · intro w' hw'
    obtain ⟨e1, e2, e3, e4⟩ := h.2.1.2.2.1 w' hw'
    have pr : ∀ f', 1 ≤ f' → f' < 4 → mm_i M (86 + w') (f' + 1) = ra_W I m w' f' → mm_i (mm_pi M (86 + w) (f + 1) x) (86 + w') (f' + 1) = ra_W (i2_u I (m + 1) (60 + 4 * w + f) x) m w' f' := fun f' h1 h2 e => by
      unfold ra_W
      rw [mi_pi, i2_at]
      by_cases q : w' = w ∧ f' = f
      · rw [if_pos (by omega), if_pos (by omega)]
      · rw [if_neg (by omega), if_neg (by omega)]
        exact e
    have e0 : ra_W (i2_u I (m + 1) (60 + 4 * w + f) x) m w' 0 = ra_W I m w' 0 := i2_uj (by omega)
    rw [e0]
    exact ⟨e1, pr 1 (by decide) (by decide) e2, pr 2 (by decide) (by decide) e3, pr 3 (by decide) (by decide) e4⟩
/-- a task has a worker, or none; the worker has it, or none -/
theorem re_tw (h : re_ M I m n ta tm) {t w : Nat} {y z : Int32} {r s : Nat} (ht : t < n) (hw : w < 6) (hr : r = rfw y) (hs : s = rft ta z) : re_ (mm_pr (mm_pr M (86 + w) 1 s) (ta t) 10 r) (i2_u (i2_u I (m + 1) (60 + 4 * w + 0) z) (m + 1) (200 + 14 * t + 9) y) m n ta tm := by
  obtain ⟨g1, g2⟩ := re_ge h ht
  have h4 := re_4 h
  have hT0 : rT_ (mm_pr M (86 + w) 1 s) (i2_u I (m + 1) (60 + 4 * w + 0) z) m n ta := rT_o h.1.2.2.1 (fun _ _ => rfl) (fun _ _ _ _ => rfl) (fun a j q _ => mr_pra (by omega)) (fun t f _ _ => i2_uj (by omega)) (fun _ _ => i2_ua (by omega)) (fun _ => i2_ua (by omega))
  refine re_T h (fx_tr (fx_pr (Or.inl ⟨by omega, by omega, rfl⟩)) (fx_pr (Or.inr ⟨g1, g2, rfl⟩))) (fun a j' q => ?_) (rT_pr hT0 ht hr) ?_
  · rw [i2_at, if_neg, i2_at, if_neg]
    · rintro ⟨z1, z2⟩
      exact q ⟨z1, by omega⟩
    · rintro ⟨z1, z2⟩
      exact q ⟨z1, by omega⟩
  · intro w' hw'
    obtain ⟨e1, e2, e3, e4⟩ := h.2.1.2.2.1 w' hw'
    have fr : ∀ f, f < 4 → (w' ≠ w ∨ f ≠ 0) → ra_W (i2_u (i2_u I (m + 1) (60 + 4 * w + 0) z) (m + 1) (200 + 14 * t + 9) y) m w' f = ra_W I m w' f := fun f _ _ => by
      unfold ra_W
      rw [i2_uj (by omega), i2_uj (by omega)]
    rw [fr 1 (by decide) (by omega), fr 2 (by decide) (by omega), fr 3 (by decide) (by omega)]
    refine ⟨?_, e2, e3, e4⟩
    rw [mr_pra (by omega), mr_pr]
    by_cases q : w' = w
    · rw [if_pos ⟨by omega, rfl⟩, hs, q]
      unfold ra_W
      rw [i2_uj (by omega), i2_us]
    · rw [if_neg (by omega), fr 0 (by decide) (by omega)]
      exact e1
theorem rfw_n {w : Nat} (h : w < 6) : rfw (nI w) = 86 + w := by
  unfold rfw
  rw [if_neg (nI_nm (by omega)), nI_clamp (by omega)]
theorem rft_n {t : Nat} (h : t < 400) : rft ta (nI t) = ta t := by
  unfold rft
  rw [if_neg (nI_nm (by omega)), nI_clamp (by omega)]
theorem rfw_0 : rfw (-1) = 0 := rfl
theorem rft_0 : rft ta (-1) = 0 := rfl
/-! looking up -/
theorem re_m5 (h : re_ M I m n ta tm) : mm_k M 5 = (10, 14) := h.1.1.1.1
theorem ce_taskAt (h : re_ M I m n ta tm) {x1 : Int32} {P : Nat → mm_T → Prop} (K1 : ∀ t, t < n → x1 = nI t → P (ta t) M) (K2 : (¬ (0 ≤ x1 ∧ x1 ≤ nI n - 1)) → P 0 M) : cs_r mt_X10_taskAt [pv_r 5, pv_i x1] M P := by
  obtain ⟨⟨s1, s2, s3, s4, s5, s6, s7, s8, s9, s10, s11⟩, -⟩ := h.1.1
  have hO : ro_ M 79 80 400 ((List.range n).map ta) := h.2.1.1
  refine wc_X10_taskAt_0 s1 ?_
  rw [s4]
  refine ⟨hO.1, cc_at hO (fun i x hx hi => ?_) (fun q => K2 (fun z => q ?_))⟩
  · have hl := gl_lt hi
    rw [List.length_map, List.length_range] at hl
    rw [List.getElem?_map, List.getElem?_range hl] at hi
    simp at hi
    rw [← hi]
    exact K1 i hl hx
  · obtain ⟨t, ht, e⟩ := (i32_tk (re_4 h)).mp z
    exact ⟨t, by simpa using ht, e⟩
theorem ce_workerAt (h : re_ M I m n ta tm) {x1 : Int32} {P : Nat → mm_T → Prop} (K1 : ∀ w, w < 6 → x1 = nI w → P (86 + w) M) (K2 : (¬ (0 ≤ x1 ∧ x1 ≤ 5)) → P 0 M) : cs_r mt_X10_workerAt [pv_r 5, pv_i x1] M P := by
  obtain ⟨⟨s1, s2, s3, s4, s5, s6, s7, s8, s9, s10, s11⟩, -, ⟨c1, c2, c3⟩, -⟩ := h.1.1
  refine wc_X10_workerAt_0 s1 ⟨fun c => K2 (fun q => Int32.not_lt.mpr q.1 c), fun c => ⟨fun c2' => ?_, fun c2' => K2 (fun q => ?_)⟩⟩
  · obtain ⟨w, hw, rfl⟩ := nI_of c
    have hw6 : w < 6 := (nI_ltI hw (by decide)).mp (show nI w < nI 6 from c2')
    rw [s7]
    refine ⟨6, c1, w, ⟨rfl, hw6⟩, ?_⟩
    rw [(c2 w hw6).1]
    exact K1 w hw6 rfl
  · obtain ⟨j, hj, rfl⟩ := i32_in (N := 5) (by decide) q
    exact c2' (show nI j < nI 6 from nI_lt (by omega) (by decide))
theorem ce_timerAt (h : re_ M I m n ta tm) {x1 : Int32} {k : Nat} (hk : I (m + 1) 84 = nI k) (hk12 : k ≤ 12) {P : Nat → mm_T → Prop} (K1 : ∀ c, c < k → x1 = nI c → P (tm c) M) (K2 : (¬ (0 ≤ x1 ∧ x1 ≤ nI k - 1)) → P 0 M) : cs_r mt_X10_timerAt [pv_r 5, pv_i x1] M P := by
  obtain ⟨⟨s1, s2, s3, s4, s5, s6, s7, s8, s9, s10, s11⟩, -, ⟨c1, c2, c3⟩, -⟩ := h.1.1
  obtain ⟨k', a1, a2, a3, a4, -⟩ := h.2.1.2.2.2
  have : k' = k := (nI_eq (by omega) (by omega)).mp (a2.symm.trans hk)
  subst this
  refine wc_X10_timerAt_0 s1 ⟨fun c => K2 (fun q => Int32.not_lt.mpr q.1 c), fun c => ⟨fun c2' => ?_, fun c2' => K2 (fun q => ?_)⟩⟩
  · obtain ⟨w, hw, rfl⟩ := nI_of c
    rw [a3] at c2'
    have hw6 : w < k' := (nI_ltI hw (by omega)).mp c2'
    rw [s8]
    refine ⟨12, c3, w, ⟨rfl, by omega⟩, ?_⟩
    rw [(a4 w hw6).1]
    exact K1 w hw6 rfl
  · obtain ⟨j, hj, rfl⟩ := (i32_tk (n := k') (by omega)).mp q
    rw [a3] at c2'
    exact c2' (nI_lt hj (by omega))
/-! counting a refusal -/
def sp_ref (I : Nat → Nat → Int32) (m : Nat) : Nat → Nat → Int32 := i2_u I m 7 (I m 7 + 1)
theorem ce_counted (h : re_ M I m n ta tm) {x1 : Int32} {P : Int32 → mm_T → Prop} (K1 : -1 ≤ x1 → P x1 M) (K2 : ¬ -1 ≤ x1 → ∀ M', re_ M' (sp_ref I m) m n ta tm → P x1 M') : cs_i mt_X10_counted [pv_r 5, pv_i x1] M P := by
  refine wc_X10_counted_0 (re_m5 h) ⟨K1, fun c M1 h1 => K2 c M1 ?_⟩
  obtain ⟨x1, x2, x3⟩ := h.2.2.2.2.1
  rw [h1]
  refine re_X h (fx_pi (by omega)) (fun a j q => ?_) ⟨?_, ?_, ?_⟩
  · unfold sp_ref
    rw [i2_at, if_neg (by omega)]
  · unfold sp_ref
    rw [mi_pij (by decide), i2_ua (by omega)]; exact x1
  · unfold sp_ref
    rw [mi_pij (by decide), i2_ua (by omega)]; exact x2
  · unfold sp_ref
    rw [mi_pis, i2_us, x3]
/-! the log -/
theorem qs_ {a c N k : Nat} {x : Int32} (h : ∀ j, j < N → mm_i M a j = I c j) : ∀ j, j < N → mm_i (mm_pi M a k x) a j = i2_u I c k x c j := fun j q => by
  rw [mi_pi, i2_at]
  by_cases e : j = k
  · rw [if_pos ⟨rfl, e⟩, if_pos ⟨rfl, e⟩]
  · rw [if_neg (fun z => e z.2), if_neg (fun z => e z.2)]
    exact h j q
/-! the ring's place and number of lines, a line later -/
theorem dN_n {L : Nat} (h : L < 2000000000) : dN_ (nI L) = nI (L % 64) := by
  unfold dN_
  rw [nI_clamp (by omega)]
theorem dK_n {L : Nat} (h : L < 2000000000) : dK_ (nI L) = nI (if 64 ≤ L then 64 else L) := by
  unfold dK_
  rw [nI_clamp (by omega)]
theorem dN_up {L : Nat} (h : L < 2000000000) (c : (64 : Int32) ≤ dN_ (nI L) + 1) : dN_ (nI (L + 1)) = 0 := by
  have hb : L % 64 < 64 := Nat.mod_lt _ (by decide)
  rw [dN_n h, nI_1] at c
  have c' : 64 ≤ L % 64 + 1 := (nI_leI (a := 64) (by decide) (by omega)).mp c
  unfold dN_
  rw [nI_clamp (by omega), show (L + 1) % 64 = 0 by omega]
  rfl
theorem dN_on {L : Nat} (h : L < 2000000000) (c : ¬ (64 : Int32) ≤ dN_ (nI L) + 1) : dN_ (nI (L + 1)) = dN_ (nI L) + 1 := by
  have hb : L % 64 < 64 := Nat.mod_lt _ (by decide)
  rw [dN_n h, nI_1] at c
  have c' : ¬ 64 ≤ L % 64 + 1 := fun z => c (nI_le (a := 64) z (by omega))
  rw [dN_n h, nI_1]
  unfold dN_
  rw [nI_clamp (by omega), show (L + 1) % 64 = L % 64 + 1 by omega]
theorem dK_up {L : Nat} (h : L < 2000000000) : (if (64 : Int32) < dK_ (nI L) + 1 then (64 : Int32) else dK_ (nI L) + 1) = dK_ (nI (L + 1)) := by
  rw [dK_n h]
  unfold dK_
  rw [nI_clamp (by omega)]
  by_cases z : 64 ≤ L
  · rw [if_pos z, if_pos (show (64 : Int32) < nI 64 + 1 by decide), if_pos (show 64 ≤ L + 1 by omega)]
    first | done | rfl
  · rw [if_neg z, nI_1, if_neg (show ¬ (64 : Int32) < nI (L + 1) from fun y => absurd ((nI_ltI (a := 64) (by decide) (by omega)).mp y) (by omega))]
    by_cases z2 : 64 ≤ L + 1
    · rw [if_pos z2, show L + 1 = 64 by omega]
    · rw [if_neg z2]
theorem dc_wr {M52 : mm_T} {L : Nat} (h : L < 2000000000) (hd : dc_ M52 (nI L)) {P : mm_T → Prop} (K : ∀ M', M' = mm_pi (mm_pi M52 96 1 (dN_ (nI (L + 1)))) 96 2 (dK_ (nI (L + 1))) → P M') : ((((64 : Int32) ≤ (mm_i M52 96 1 + (1 : Int32))) → ∀ M62, M62 = mm_pi M52 96 1 (0 : Int32) → ∀ M72, M72 = mm_pi M62 96 2 (if (64 : Int32) < (mm_i M62 96 2 + (1 : Int32)) then (64 : Int32) else (mm_i M62 96 2 + (1 : Int32))) → P M72) ∧ ((¬ (64 : Int32) ≤ (mm_i M52 96 1 + (1 : Int32))) → ∀ M82, M82 = mm_pi M52 96 1 (mm_i M52 96 1 + (1 : Int32)) → ∀ M92, M92 = mm_pi M82 96 2 (if (64 : Int32) < (mm_i M82 96 2 + (1 : Int32)) then (64 : Int32) else (mm_i M82 96 2 + (1 : Int32))) → P M92)) := by
  obtain ⟨h1, h2⟩ := hd
  rw [h1]
  refine ⟨fun c M62 e1 M72 e2 => K M72 ?_, fun c M62 e1 M72 e2 => K M72 ?_⟩
  · have e3 : mm_i M62 96 2 = dK_ (nI L) := by rw [e1, mi_pij (by decide)]; exact h2
    rw [e2, e3, dK_up h, e1, dN_up h c]
  · have e3 : mm_i M62 96 2 = dK_ (nI L) := by rw [e1, mi_pij (by decide)]; exact h2
    rw [e2, e3, dK_up h, e1, dN_on h c]
theorem ce_note (h : re_ M I m n ta tm) (h8 : I m 8 = 0) {L : Nat} (hL : I m 6 = nI L) (hL2 : L < 2000000000) {t a3 : Nat} (ht : t < n) {x1 x3 x4 : Int32} (h3 : (a3 = 0 ∧ x3 = -1) ∨ ∃ w, w < 6 ∧ a3 = 86 + w ∧ x3 = nI w) {P : mm_T → Prop} (K : ∀ M', re_ M' (sp_log I m x1 t x3 x4) m n ta tm → P M') : cs_v mt_X10_note [pv_r 5, pv_i x1, pv_r (ta t), pv_r a3, pv_i x4] M P := by
  obtain ⟨⟨s1, s2, s3, s4, s5, s6, s7, s8, s9, s10, s11⟩, -, ⟨w1, w2, w3⟩, -, ⟨d1, d2, d3, d4⟩, -⟩ := h.1.1
  obtain ⟨g1, g2⟩ := re_ge h ht
  obtain ⟨D1, D2⟩ := h.2.2.2.1
  have eX : mm_i M 5 11 = I (m + 1) 0 := h.2.2.2.2.1.1
  have main : cs_v mt_X1_write [pv_r 96, pv_i (mm_i M 5 11), pv_i x1, pv_r (ta t), pv_i x3, pv_i x4] M P := by
    have hb : L % 64 < 64 := Nat.mod_lt _ (by omega)
    have e0 : mm_i M 96 1 * (6 : Int32) = nI (6 * (L % 64)) := by
      rw [D1.1, hL, dN_n hL2, show (6 : Int32) = nI 6 from rfl, pk_mul, Nat.mul_comm]
    have r97 : ∀ M'' : mm_T, (∀ a j, mm_r M'' a j = mm_r M a j) → mm_r M'' 96 0 = 97 := fun M'' q => (q 96 0).trans d2
    refine wc_X1_write_0 d1 ?_
    rw [d2]
    refine ⟨384, d3, 6 * (L % 64), ⟨e0, by omega⟩, fun M5 h5 => ?_⟩
    have r5 : ∀ a j, mm_r M5 a j = mm_r M a j := fun a j => by rw [h5]; rfl
    rw [r97 M5 r5]
    refine ⟨384, by rw [h5]; exact d3, by omega, fun M11 h11 => ?_⟩
    have r11 : ∀ a j, mm_r M11 a j = mm_r M a j := fun a j => by rw [h11]; exact r5 a j
    rw [r97 M11 r11]
    refine ⟨by rw [h11, h5]; exact g2, 384, by rw [h11, h5]; exact d3, by omega, fun M19 h19 => ?_⟩
    have r19 : ∀ a j, mm_r M19 a j = mm_r M a j := fun a j => by rw [h19]; exact r11 a j
    have e2 : mm_r M19 (ta t) 2 = 12 + lmI I m t := (r19 _ _).trans (h.1.2.2.1.1 t ht).1.2.2.2.2.1
    obtain ⟨l1, l2⟩ := lm_of h.1.2.1.2.1 ht
    have kl := br_ln h.1.2.1 l1
    rw [r97 M19 r19, e2]
    refine ⟨by rw [h19, h11, h5]; exact kl.1, 384, by rw [h19, h11, h5]; exact d3, by omega, fun M29 h29 => ?_⟩
    have r29 : ∀ a j, mm_r M29 a j = mm_r M a j := fun a j => by rw [h29]; exact r19 a j
    rw [r97 M29 r29]
    refine ⟨384, by rw [h29, h19, h11, h5]; exact d3, by omega, fun M40 h40 => ?_⟩
    have r40 : ∀ a j, mm_r M40 a j = mm_r M a j := fun a j => by rw [h40]; exact r29 a j
    rw [r97 M40 r40]
    refine ⟨384, by rw [h40, h29, h19, h11, h5]; exact d3, by omega, fun M52 h52 => ?_⟩
    have f5 : fx_ (fun a j => a = 97 ∨ a = 96) (fun _ _ => False) M M5 := by rw [h5]; exact fx_pi (Or.inl rfl)
    have f11 : fx_ (fun a j => a = 97 ∨ a = 96) (fun _ _ => False) M M11 := fx_tr f5 (by rw [h11]; exact fx_pi (Or.inl rfl))
    have f19 : fx_ (fun a j => a = 97 ∨ a = 96) (fun _ _ => False) M M19 := fx_tr f11 (by rw [h19]; exact fx_pi (Or.inl rfl))
    have f29 : fx_ (fun a j => a = 97 ∨ a = 96) (fun _ _ => False) M M29 := fx_tr f19 (by rw [h29]; exact fx_pi (Or.inl rfl))
    have f40 : fx_ (fun a j => a = 97 ∨ a = 96) (fun _ _ => False) M M40 := fx_tr f29 (by rw [h40]; exact fx_pi (Or.inl rfl))
    have f52 : fx_ (fun a j => a = 97 ∨ a = 96) (fun _ _ => False) M M52 := fx_tr f40 (by rw [h52]; exact fx_pi (Or.inl rfl))
    have v19 : mm_i M11 (ta t) 0 = nI t := (f11.2.2.1 _ _ (by omega)).trans (h.1.2.2.1.1 t ht).1.2.2.1
    have v29 : mm_i M19 (12 + lmI I m t) 0 = ra_T I m t 0 := (f19.2.2.1 _ _ (by omega)).trans (kl.2.2.trans l2.symm)
    rw [v19] at h19
    rw [v29] at h29
    rw [eX] at h5
    have d6 : dc_ M52 (nI L) := by
      rw [← hL]
      refine dc_o D1 (fun j => ?_)
      rw [h52, h40, h29, h19, h11, h5, mi_pia (by decide), mi_pia (by decide), mi_pia (by decide), mi_pia (by decide), mi_pia (by decide), mi_pia (by decide)]
    have q5 := qs_ (M := M) (I := I) (a := 97) (c := m + 6) (N := 384) (k := 6 * (L % 64)) (x := I (m + 1) 0) D2
    rw [← h5] at q5
    have q11 := qs_ (k := 6 * (L % 64) + 1) (x := x1) q5
    rw [← h11] at q11
    have q19 := qs_ (k := 6 * (L % 64) + 2) (x := nI t) q11
    rw [← h19] at q19
    have q29 := qs_ (k := 6 * (L % 64) + 3) (x := ra_T I m t 0) q19
    rw [← h29] at q29
    have q40 := qs_ (k := 6 * (L % 64) + 4) (x := x3) q29
    rw [← h40] at q40
    have q52 := qs_ (k := 6 * (L % 64) + 5) (x := x4) q40
    rw [← h52] at q52
    have eS : sp_log I m x1 t x3 x4 = ra_wr I m L x1 t x3 x4 := by
      unfold sp_log
      rw [if_pos h8, hL, nI_clamp (by omega)]
    refine dc_wr hL2 d6 (fun M62 h62 => ?_)
    have f62 : fx_ (fun a j => a = 97 ∨ a = 96) (fun _ _ => False) M M62 := fx_tr (fx_tr f52 (fx_pi (Or.inr rfl))) (by rw [h62]; exact fx_pi (Or.inr rfl))
    refine K M62 (re_D h f62 (fun a j q => sp_log_o (by omega) (by omega)) ⟨?_, fun j q => ?_⟩)
    · rw [eS]
      unfold ra_wr
      rw [i2_us, ← nI_1, nI_1]
      refine ⟨?_, ?_⟩
      · rw [h62, mi_pij (by decide), mi_pis]
      · rw [h62, mi_pis]
    · rw [eS, h62, mi_pia (by decide), mi_pia (by decide), q52 j q]
      unfold ra_wr
      rw [i2_ua (a := m) (by omega)]
  refine wc_X10_note_0 s1 ?_
  rw [s10]
  rcases h3 with ⟨r1, r2⟩ | ⟨w, hw, r1, r2⟩
  · rw [r2] at main
    exact ⟨fun c => absurd r1 c, fun _ => ⟨d1, main⟩⟩
  · refine ⟨fun _ => ⟨by rw [r1]; exact (w2 w hw).2.1, d1, ?_⟩, fun c => absurd c (by omega)⟩
    rw [r1, (w2 w hw).2.2]
    rw [r2] at main
    exact main
/-! holding, letting go -/
theorem ce_letGo (h : re_ M I m n ta tm) {t w : Nat} (ht : t < n) (hw : w < 6) (h9 : ra_T I m t 9 = nI w) {P : Nat → mm_T → Prop} (K : ∀ M', re_ M' (sp_lw I m t w) m n ta tm → P (86 + w) M') : cs_r mt_X6_letGo [pv_r (ta t)] M P := by
  obtain ⟨⟨s1, -⟩, -, ⟨w1, w2, w3⟩, -⟩ := h.1.1
  obtain ⟨g1, g2⟩ := re_ge h ht
  have e10 : mm_r M (ta t) 10 = 86 + w := by rw [(h.1.2.2.1.1 t ht).1.2.2.2.2.2, h9, rfw_n hw]
  refine wc_X6_letGo_0 g2 ?_
  rw [e10]
  refine ⟨fun c => absurd c (by omega), fun _ => ⟨(w2 w hw).2.1, fun M4 h4 M7 h7 => K M7 ?_⟩⟩
  have := re_neg (re_neg (re_tw h ht hw rfw_0.symm rft_0.symm) ht (f := 10) (by omega)) ht (f := 11) (by omega)
  rw [h7, h4]
  exact this
/-- a task is given to a worker -/
def sp_gv (I : Nat → Nat → Int32) (m t w : Nat) (x y : Int32) : Nat → Nat → Int32 := i2_u (i2_u (i2_u (i2_u I (m + 1) (60 + 4 * w + 0) (nI t)) (m + 1) (200 + 14 * t + 9) (nI w)) (m + 1) (200 + 14 * t + 10) x) (m + 1) (200 + 14 * t + 11) y
theorem ce_giveTo (h : re_ M I m n ta tm) {t w : Nat} (ht : t < n) (hw : w < 6) {x2 x3 : Int32} {P : mm_T → Prop} (K : ∀ M', re_ M' (sp_gv I m t w x2 x3) m n ta tm → P M') : cs_v mt_X6_giveTo [pv_r (ta t), pv_r (86 + w), pv_i x2, pv_i x3] M P := by
  obtain ⟨⟨s1, -⟩, -, ⟨w1, w2, w3⟩, -⟩ := h.1.1
  obtain ⟨g1, g2⟩ := re_ge h ht
  have h4 := re_4 h
  refine wc_X6_giveTo_0 g2 (fun M1 h1 M3 h3 M5 h5 => ⟨by rw [h5, h3, h1]; exact (w2 w hw).2.1, fun M8 h8 => K M8 ?_⟩)
  have := re_ti (x := x3) (re_ti (x := x2) (re_tw (y := nI w) (z := nI t) h ht hw (rfw_n hw).symm (rft_n (ta := ta) (by omega)).symm) ht (j := 11) (f := 10) (by omega)) ht (j := 12) (f := 11) (by omega)
  have e : M8 = mm_pi (mm_pi (mm_pr (mm_pr M (86 + w) 1 (ta t)) (ta t) 10 (86 + w)) (ta t) 11 x2) (ta t) 12 x3 := by
    rw [h8, h5, h3, h1]
    unfold mm_pi mm_pr
    simp only [Prod.mk.injEq, true_and]
    funext a j
    by_cases q1 : a = 86 + w ∧ j = 1
    · have : ¬ (a = ta t ∧ j = 10) := by omega
      simp [q1, this]
    · by_cases q2 : a = ta t ∧ j = 10
      · simp [q1, q2]
      · simp [q1, q2]
  rw [e]
  exact this
end Pr1
