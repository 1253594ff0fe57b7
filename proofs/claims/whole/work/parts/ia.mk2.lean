/-! the trial and the store are made -/
section MkD
variable {M M0 M' M'' : mm_T} {a b c : Nat}
def tq_ (M0 M : mm_T) (c : Nat) : Prop := gr_ M0 M 29 ∧ mm_n M = 31 + c ∧ tt_ M = tt_ M0 + 17 * c ∧ ∀ l, l < c → mm_k M (31 + l) = (6, 17) ∧ mm_r M 29 l = 31 + l
theorem cw_copies {P : mm_T → Prop} (hk : mm_k M0 17 = (8, 8)) (h0 : mm_r M0 17 1 = 29) (ha : ak_ M0 29 3 48) (hn0 : mm_n M0 = 31) (ht : tt_ M0 ≤ 100000) (K : ∀ M', tq_ M0 M' 48 → P M') : ∀ (j c : Nat) (M : mm_T), c + j = 48 → tq_ M0 M c → cw_v mt_X8_init 33 [some (pv_r 17), some (pv_i (nI c))] [] M P := by
  intro j
  induction j with
  | zero =>
    intro c M e q
    obtain rfl : c = 48 := by omega
    exact wc_X8_init_33 (gr_k q.1 hk (by decide)) ⟨fun _ => K M q, fun z => absurd (by decide) z⟩
  | succ j ih =>
    intro c M e q
    obtain ⟨g, hn, htt, hl⟩ := id q
    have hlt : ¬ (48 : Int32) ≤ nI c := show ¬ nI 48 ≤ nI c from nI_ge (by omega) (by decide)
    refine wc_X8_init_33 (gr_k g hk (by decide)) ⟨fun z => absurd z hlt, fun _ => ⟨⟨by rw [hn]; unfold nb_; omega, by have : tt_ M = mm_t M (mm_n M) := rfl; unfold sb_; omega⟩, fun M1 e1 => ?_⟩⟩
    refine wc_X6_init_0 (by rw [e1]; exact mm_k_w) (fun A1 g1 A2 g2 A3 g3 A4 g4 A5 g5 A6 g6 => ?_)
    have r0 : mm_r M 17 1 = 29 := by rw [gr_r g (by omega) (by omega), h0]
    have g17 : gr_ M0 A6 29 := by
      rw [g6, g5, g4, g3, g2, g1, e1]
      have z : mm_n M = 29 ∨ mm_n M0 ≤ mm_n M := Or.inr (by omega)
      exact gr_pr (gr_pr (gr_pi (gr_pi (gr_pi (gr_pi (gr_w g) z) z) z) z) z) z
    refine ⟨48, by rw [r0]; exact gr_ak g17 ha, c, ⟨rfl, by omega⟩, fun M11 e11 => ih (c + 1) M11 (by omega) ?_⟩
    rw [r0] at e11
    have kA : ∀ x, mm_k A6 x = if x = mm_n M then (6, 17) else mm_k M x := fun x => by
      rw [g6, g5, g4, g3, g2, g1, e1]
      exact kk_w
    have rA : ∀ j, mm_r A6 29 j = mm_r M 29 j := fun j => by
      have h29 : 29 ≠ mm_n M := by omega
      rw [g6, mr_pra h29, g5, mr_pra h29, g4, g3, g2, g1, e1]
      exact mr_w (tg := 6) (k := 17) h29
    refine ⟨by rw [e11]; exact gr_pr g17 (Or.inl rfl), ?_, ?_, fun l hl' => ?_⟩
    · rw [e11, nn_pr, g6, g5, g4, g3, g2, g1, e1]
      show mm_n M + 1 = _
      omega
    · rw [e11, tt_pr, g6, g5, g4, g3, g2, g1, e1]
      rw [tt_pr, tt_pr, tt_pi, tt_pi, tt_pi, tt_pi, tt_w (by omega), htt]
      omega
    · by_cases hc : l = c
      · subst hc
        exact ⟨by rw [e11, kk_pr, kA, if_pos hn.symm], by rw [e11, mr_prs, hn]⟩
      · obtain ⟨o1, o2⟩ := hl l (by omega)
        exact ⟨by rw [e11, kk_pr, kA, if_neg (by omega), o1], by rw [e11, mr_prj hc, rA, o2]⟩
def tS_ (M : mm_T) : Prop := mm_k M 17 = (8, 8) ∧ mm_r M 17 0 = 18 ∧ mm_r M 17 1 = 29 ∧ mm_r M 17 2 = 30 ∧ ak_ M 29 3 48 ∧ ak_ M 30 0 5 ∧ (∀ i, i < 48 → mm_k M (31 + i) = (6, 17) ∧ mm_r M 29 i = 31 + i) ∧ bS M 18
theorem tS_gr (h : tS_ M) (g : gr_ M M' a) (ha : a < 17 ∨ 79 ≤ a) (hn : 79 ≤ mm_n M) : tS_ M' := by
  obtain ⟨h1, h2, h3, h4, h5, h6, h7, h8⟩ := h
  exact ⟨gr_k g h1 (by decide), (gr_r g (by omega) (by omega) 0).trans h2, (gr_r g (by omega) (by omega) 1).trans h3, (gr_r g (by omega) (by omega) 2).trans h4, gr_ak g h5, gr_ak g h6, fun i q => ⟨gr_k g (h7 i q).1 (by decide), (gr_r g (by omega) (by omega) i).trans (h7 i q).2⟩, bS_gr h8 g (by omega) (by omega)⟩
theorem cs_trial {P : mm_T → Prop} (hk : mm_k M 17 = (8, 8)) (hn : mm_n M = 18) (ht : tt_ M ≤ 10000) (h2 : mm_k M 2 = (15, 6)) (K : ∀ M', gr_ M M' 17 → mm_n M' = 79 → tt_ M' = tt_ M + 1011 → tS_ M' → P M') : cs_v mt_X8_init [pv_r 17] M P := by
  have rm : ∀ {N : mm_T} (n : Nat), mm_n N ≤ 1000 → tt_ N ≤ 100000 → n ≤ 1000 → mm_n N + 1 ≤ nb_ ∧ mm_t N (mm_n N) + n ≤ sb_ := fun {N} n q1 q2 q3 => ⟨by unfold nb_; omega, by have : tt_ N = mm_t N (mm_n N) := rfl; unfold sb_; omega⟩
  refine wc_X8_init_0 hk ⟨rm 4 (by omega) (by omega) (by decide), fun M1 e1 => ?_⟩
  rw [hn]
  have n1 : mm_n M1 = 19 := by rw [e1, nn_w]; omega
  have t1 : tt_ M1 = tt_ M + 4 := by rw [e1, tt_w (by omega)]
  have g1 : gr_ M M1 17 := by rw [e1]; exact gr_w gr_rf
  refine cs_board (b := 18) (by rw [e1, ← hn]; exact mm_k_w) n1 (by decide) (by decide) (by omega) (gr_k g1 h2 (by decide)) (fun M4 g4 n4 t4 f4 M7 e7 => ?_)
  have g7 : gr_ M M7 17 := by rw [e7]; exact gr_pr (gr_cl g1 g4 (Or.inr (by omega))) (Or.inl rfl)
  have n7 : mm_n M7 = 29 := by rw [e7, nn_pr]; exact n4
  have t7 : tt_ M7 = tt_ M + 142 := by rw [e7, tt_pr]; omega
  have b7 : bS M7 18 := by rw [e7]; exact bS_gr f4.1 (gr_pr0 (a := 17)) (by omega) (by omega)
  refine ⟨rm 48 (by omega) (by omega) (by decide), fun M10 e10 M14 e14 => ?_⟩
  have n14 : mm_n M14 = 30 := by rw [e14, e10, nn_pr, nn_w]; omega
  have t14 : tt_ M14 = tt_ M + 190 := by rw [e14, e10, tt_pr, tt_w (by omega)]; omega
  have g714 : gr_ M7 M14 17 := by rw [e14, e10]; exact gr_pr (gr_w gr_rf) (Or.inl rfl)
  refine ⟨rm 5 (by omega) (by omega) (by decide), fun M18 e18 M23 e23 => ?_⟩
  have n23 : mm_n M23 = 31 := by rw [e23, e18, nn_pr, nn_w]; omega
  have t23 : tt_ M23 = tt_ M + 195 := by rw [e23, e18, tt_pr, tt_w (by omega)]; omega
  have g1423 : gr_ M14 M23 17 := by rw [e23, e18]; exact gr_pr (gr_w gr_rf) (Or.inl rfl)
  have g723 := gr_tr g714 g1423
  have E : M23 = mm_pr (mm_w (mm_pr (mm_w (mm_pr M4 17 0 18) 88 48) 17 1 29) 28 5) 17 2 30 := by
    rw [e23, n14, e18, e14, n7, e10, e7]
  have r0 : mm_r M23 17 0 = 18 := by rw [E]; simp [mr_pr, rr_w, nn_w, nn_pr, n4]
  have r1 : mm_r M23 17 1 = 29 := by rw [E]; simp [mr_pr, rr_w, nn_w, nn_pr, n4]
  have r2 : mm_r M23 17 2 = 30 := by rw [E]; simp [mr_pr]
  have k1 : mm_k M23 29 = (88, 48) := by rw [E]; simp [kk_pr, kk_w, nn_w, nn_pr, n4]
  have k2 : mm_k M23 30 = (28, 5) := by rw [E]; simp [kk_pr, kk_w, nn_w, nn_pr, n4]
  have a1 : ak_ M23 29 3 48 := ⟨88, k1, by decide, by decide, by decide, rfl⟩
  have a2 : ak_ M23 30 0 5 := ⟨28, k2, by decide, by decide, by decide, rfl⟩
  have k17 : mm_k M23 17 = (8, 8) := gr_k (gr_tr g7 g723) hk (by decide)
  show cw_v mt_X8_init 33 [some (pv_r 17), some (pv_i (nI 0))] [] M23 P
  refine cw_copies k17 r1 a1 n23 (by omega) (fun M' q => ?_) 48 0 M23 rfl ⟨gr_rf, n23, by omega, fun l hl => absurd hl (by omega)⟩
  obtain ⟨g, hn', htt, hl⟩ := q
  exact K M' (gr_cl (gr_tr g7 g723) g (Or.inr (by omega))) (by omega) (by omega) ⟨gr_k g k17 (by decide), (gr_r g (by omega) (by omega) 0).trans r0, (gr_r g (by omega) (by omega) 1).trans r1, (gr_r g (by omega) (by omega) 2).trans r2, gr_ak g a1, gr_ak g a2, hl, bS_gr (bS_gr b7 g723 (by omega) (by omega)) g (by omega) (by omega)⟩
/-! the store's own fields -/
def r5_ (j : Nat) : Nat := if j = 0 then 6 else if j = 1 then 17 else if j = 2 then 79 else if j = 3 then 81 else if j = 4 then 83 else if j = 5 then 85 else if j = 6 then 92 else if j = 7 then 93 else if j = 8 then 96 else 98
def s5_ (M : mm_T) (k : Nat) : Prop := mm_k M 5 = (10, 14) ∧ (∀ j, j < k → mm_r M 5 j = r5_ j) ∧ ∀ j, mm_i M 5 j = 0
theorem s5_gr {k : Nat} (h : s5_ M k) (g : gr_ M M' a) (ha : a ≠ 5) (hn : 5 < mm_n M) : s5_ M' k := ⟨gr_k g h.1 (by decide), fun j q => (gr_r g hn (Ne.symm ha) j).trans (h.2.1 j q), fun j => (gr_i g hn (Ne.symm ha) j).trans (h.2.2 j)⟩
theorem s5_put {k x : Nat} (h : s5_ M k) (e : x = r5_ k) : s5_ (mm_pr M 5 k x) (k + 1) := by
  refine ⟨h.1, fun j q => ?_, h.2.2⟩
  by_cases hj : j = k
  · subst hj; rw [mr_prs, e]
  · rw [mr_prj hj]; exact h.2.1 j (by omega)
theorem ro_gr {r r0 cap : Nat} (h : ro_ M r r0 cap []) (g : gr_ M M' a) (h1 : r ≠ a) (h2 : r < mm_n M) : ro_ M' r r0 cap [] := by
  obtain ⟨a1, a2, a3, a4, a5, a6, a7, a8⟩ := h
  exact ⟨gr_k g a1 (by decide), (gr_r g h2 h1 0).trans a2, gr_ak g a3, a4, a5, (gr_i g h2 h1 1).trans a6, fun i x q => by simp at q, a8⟩
/-- a row is made for the store -/
theorem cs_row5 {r n k : Nat} {P : mm_T → Prop} (hn : n ≤ 400) (h0 : mm_n M = r) (hr : 6 ≤ r) (hr2 : r ≤ 100) (ht : tt_ M ≤ 50000) (hs : s5_ M k) (e5 : r5_ k = r) (K : ∀ M', gr_ M M' 5 → mm_n M' = r + 2 → tt_ M' = tt_ M + (n + 2) → s5_ M' (k + 1) → ro_ M' r (r + 1) n [] → P M') : ∀ M1, M1 = mm_w M 4 2 → cs_v mt_X4_init [pv_r r, pv_i (nI n)] M1 (fun N => ∀ M3, M3 = mm_pr N 5 k r → P M3) := by
  intro M1 e1
  have n1 : mm_n M1 = r + 1 := by rw [e1, nn_w, h0]
  have t1 : tt_ M1 = tt_ M + 2 := by rw [e1, tt_w (by omega)]
  refine cs_row (by rw [e1, ← h0]; exact mm_k_w) (by omega) (by omega) (by omega) (fun M3 e3 => ?_)
  have g2 : gr_ M (mm_pr (mm_w M1 84 n) r 0 (mm_n M1)) 5 := by rw [e1]; exact gr_pr (gr_w (gr_w gr_rf)) (Or.inr (by omega))
  have gs : gr_ M (mm_pr (mm_w M1 84 n) r 0 (mm_n M1)) r := by rw [e1]; exact gr_pr (gr_w (gr_w gr_rf)) (Or.inl rfl)
  refine K M3 (by rw [e3]; exact gr_pr g2 (Or.inl rfl)) ?_ ?_ ?_ ?_
  · rw [e3, nn_pr, nn_pr, nn_w, n1]
  · rw [e3, tt_pr, tt_pr, tt_w (by omega), t1]; omega
  · rw [e3]; exact s5_put (s5_gr hs gs (by omega) (by omega)) e5.symm
  · have E : M3 = mm_pr (mm_pr (mm_w (mm_w M 4 2) 84 n) r 0 (r + 1)) 5 k r := by rw [e3, n1, e1]
    have h5 : ¬ r = 5 := by omega
    refine ⟨?_, ?_, ⟨84, ?_, by decide, by decide, by omega, rfl⟩, hn, Nat.zero_le _, ?_, fun i x q => by simp at q, by omega⟩
    · rw [E]; simp [kk_pr, kk_w, nn_w, h0, Nat.add_assoc]
    · rw [E]; simp [mr_pr, h5]
    · rw [E]; simp [kk_pr, kk_w, nn_w, h0, Nat.add_assoc]
    · rw [E]; simp [ii_pr, ii_w, nn_w, h0, Nat.add_assoc]; rfl
def wq_ (M0 M : mm_T) (c : Nat) : Prop := gr_ M0 M 85 ∧ mm_n M = 86 + c ∧ tt_ M = tt_ M0 + 5 * c ∧ ∀ w, w < c → mm_r M 85 w = 86 + w ∧ mm_k M (86 + w) = (9, 5) ∧ mm_i M (86 + w) 0 = nI w ∧ mm_r M (86 + w) 1 = 0 ∧ ∀ j, 1 ≤ j → mm_i M (86 + w) j = 0
theorem cw_works {P : mm_T → Prop} (hs : s5_ M0 6) (ha : ak_ M0 85 5 6) (hn0 : mm_n M0 = 86) (ht : tt_ M0 ≤ 100000) (K : ∀ M', wq_ M0 M' 6 → cw_v mt_X10_init 78 [some (pv_r 5), some (pv_i (6 : Int32))] [] M' P) : ∀ (j c : Nat) (M : mm_T), c + j = 6 → wq_ M0 M c → cw_v mt_X10_init 78 [some (pv_r 5), some (pv_i (nI c))] [] M P := by
  intro j
  induction j with
  | zero =>
    intro c M e q
    obtain rfl : c = 6 := by omega
    exact K M q
  | succ j ih =>
    intro c M e q
    obtain ⟨g, hn, htt, hl⟩ := id q
    have hlt : ¬ (6 : Int32) ≤ nI c := show ¬ nI 6 ≤ nI c from nI_ge (by omega) (by decide)
    have sM := s5_gr hs g (by decide) (by omega)
    refine wc_X10_init_78 sM.1 ⟨fun z => absurd z hlt, fun _ => ⟨⟨by rw [hn]; unfold nb_; omega, by have : tt_ M = mm_t M (mm_n M) := rfl; unfold sb_; omega⟩, fun M1 e1 => ?_⟩⟩
    refine wc_X9_init_0 (by rw [e1]; exact mm_k_w) (fun A1 g1 => ?_)
    have r0 : mm_r M 5 5 = 85 := sM.2.1 5 (by decide)
    have g17 : gr_ M0 A1 85 := by
      rw [g1, e1]
      exact gr_pi (gr_w g) (Or.inr (by omega))
    refine ⟨6, by rw [r0]; exact gr_ak g17 ha, c, ⟨rfl, by omega⟩, fun M11 e11 => ih (c + 1) M11 (by omega) ?_⟩
    rw [r0] at e11
    refine ⟨by rw [e11]; exact gr_pr g17 (Or.inl rfl), ?_, ?_, fun l hl' => ?_⟩
    · rw [e11, nn_pr, g1, e1]
      show mm_n M + 1 = _
      omega
    · rw [e11, tt_pr, g1, e1, tt_pi, tt_w (by omega), htt]
      omega
    · by_cases hc : l = c
      · subst hc
        have en : 86 + l = mm_n M := hn.symm
        refine ⟨by rw [e11, mr_prs, hn], ?_, ?_, ?_, fun j q1 => ?_⟩
        · rw [e11, kk_pr, g1, kk_pi, e1, kk_w, if_pos en]
        · rw [e11, ii_pr, g1, en, mi_pis]
        · rw [e11, mr_pra (show 86 + l ≠ 85 by omega), g1, rr_pi, e1, rr_w, if_pos en]
        · rw [e11, ii_pr, g1, mi_pij (show j ≠ 0 by omega), e1, ii_w, if_pos en]
      · obtain ⟨o1, o2, o3, o4, o5⟩ := hl l (by omega)
        have hx : 86 + l ≠ mm_n M := by omega
        have h85 : 85 ≠ mm_n M := by omega
        have hy : 86 + l ≠ 85 := by omega
        refine ⟨?_, ?_, ?_, ?_, fun j q1 => ?_⟩
        · rw [e11, mr_prj hc, g1, rr_pi, e1, mr_w h85, o1]
        · rw [e11, kk_pr, g1, kk_pi, e1, kk_w, if_neg hx, o2]
        · rw [e11, ii_pr, g1, mi_pia hx, e1, mi_w hx, o3]
        · rw [e11, mr_pra hy, g1, rr_pi, e1, mr_w hx, o4]
        · rw [e11, ii_pr, g1, mi_pia hx, e1, mi_w hx, o5 j q1]
end MkD
