section MkE
variable {M M0 M' M'' : mm_T} {a b c : Nat}
theorem s5_w {k t n : Nat} (h : s5_ M k) (h5 : 5 < mm_n M) : s5_ (mm_w M t n) k := s5_gr h (gr_w0 (a := 0)) (by decide) h5
theorem s5_pr {k j x : Nat} (h : s5_ M k) (h5 : 5 < mm_n M) (ha : a ≠ 5) : s5_ (mm_pr M a j x) k := s5_gr h (gr_pr0 (a := a)) ha h5
def ce_T (M : mm_T) : Prop := ak_ M 92 4 12 ∧ (mm_k M 93 = (5, 3) ∧ mm_r M 93 0 = 94 ∧ mm_r M 93 1 = 95 ∧ ak_ M 94 0 400 ∧ ak_ M 95 0 400 ∧ mm_i M 93 2 = 0) ∧ (mm_k M 96 = (1, 3) ∧ mm_r M 96 0 = 97 ∧ ak_ M 97 0 384 ∧ (mm_i M 96 1 = 0 ∧ mm_i M 96 2 = 0) ∧ ∀ j, mm_i M 97 j = 0) ∧ mm_k M 98 = (2, 1)
theorem cw_tail {P : mm_T → Prop} (hs : s5_ M 6) (hn : mm_n M = 92) (ht : tt_ M ≤ 50000) (K : ∀ M', gr_ M M' 5 → mm_n M' = 99 → tt_ M' ≤ tt_ M + 2000 → s5_ M' 10 → ce_T M' → P M') : cw_v mt_X10_init 78 [some (pv_r 5), some (pv_i (6 : Int32))] [] M P := by
  have rm : ∀ {N : mm_T} (n : Nat), mm_n N ≤ 1000 → tt_ N ≤ 100000 → n ≤ 1000 → mm_n N + 1 ≤ nb_ ∧ mm_t N (mm_n N) + n ≤ sb_ := fun {N} n q1 q2 q3 => ⟨by unfold nb_; omega, by have : tt_ N = mm_t N (mm_n N) := rfl; unfold sb_; omega⟩
  refine wc_X10_init_78 hs.1 ⟨fun _ => ⟨rm 12 (by omega) (by omega) (by decide), fun M1 e1 M4 e4 => ?_⟩, fun z => absurd (by decide) z⟩
  have n4 : mm_n M4 = 93 := by rw [e4, e1, nn_pr, nn_w, hn]
  have t4 : tt_ M4 = tt_ M + 12 := by rw [e4, e1, tt_pr, tt_w (by omega)]
  have g4 : gr_ M M4 5 := by rw [e4, e1]; exact gr_pr (gr_w gr_rf) (Or.inl rfl)
  have s4 : s5_ M4 7 := by rw [e4, e1, hn]; exact s5_put (s5_w hs (by omega)) rfl
  refine ⟨rm 3 (by omega) (by omega) (by decide), fun M7 e7 => ?_⟩
  have n7 : mm_n M7 = 94 := by rw [e7, nn_w, n4]
  have t7 : tt_ M7 = tt_ M + 15 := by rw [e7, tt_w (by omega), t4]
  refine wc_X5_init_0 (by rw [e7]; exact mm_k_w) ⟨rm 400 (by omega) (by omega) (by decide), fun B1 f1 B4 f4 => ?_⟩
  have nb4 : mm_n B4 = 95 := by rw [f4, f1, nn_pr, nn_w, n7]
  have tb4 : tt_ B4 = tt_ M + 415 := by rw [f4, f1, tt_pr, tt_w (by omega), t7]
  refine ⟨rm 400 (by omega) (by omega) (by decide), fun B7 f7 B11 f11 M15 e15 => ?_⟩
  have n15 : mm_n M15 = 96 := by rw [e15, f11, f7, nn_pr, nn_pr, nn_w, nb4]
  have t15 : tt_ M15 = tt_ M + 815 := by rw [e15, f11, f7, tt_pr, tt_pr, tt_w (by omega), tb4]
  have g15 : gr_ M M15 5 := by rw [e15, f11, f7, f4, f1, e7]; exact gr_pr (gr_pr (gr_w (gr_pr (gr_w (gr_w g4)) (Or.inr (by omega)))) (Or.inr (by omega))) (Or.inl rfl)
  have s15 : s5_ M15 8 := by
    rw [e15, f11, f7, f4, f1, e7, n4]
    exact s5_put (s5_pr (s5_w (s5_pr (s5_w (s5_w s4 (by omega)) (by rw [nn_w]; omega)) (by rw [nn_w, nn_w]; omega) (by decide)) (by rw [nn_pr, nn_w, nn_w]; omega)) (by rw [nn_w, nn_pr, nn_w, nn_w]; omega) (by decide)) rfl
  refine ⟨rm 3 (by omega) (by omega) (by decide), fun M19 e19 => ?_⟩
  have n19 : mm_n M19 = 97 := by rw [e19, nn_w, n15]
  have t19 : tt_ M19 = tt_ M + 818 := by rw [e19, tt_w (by omega), t15]
  refine wc_X1_init_0 (by rw [e19]; exact mm_k_w) ⟨rm 384 (by omega) (by omega) (by decide), fun C1 h1 C4 h4 M29 e29 => ?_⟩
  have n29 : mm_n M29 = 98 := by rw [e29, h4, h1, nn_pr, nn_pr, nn_w, n19]
  have t29 : tt_ M29 = tt_ M + 1202 := by rw [e29, h4, h1, tt_pr, tt_pr, tt_w (by omega), t19]
  have g29 : gr_ M M29 5 := by rw [e29, h4, h1, e19]; exact gr_pr (gr_pr (gr_w (gr_w g15)) (Or.inr (by omega))) (Or.inl rfl)
  have s29 : s5_ M29 9 := by
    rw [e29, h4, h1, e19, n15]
    exact s5_put (s5_pr (s5_w (s5_w s15 (by omega)) (by rw [nn_w]; omega)) (by rw [nn_w, nn_w]; omega) (by decide)) rfl
  refine ⟨rm 1 (by omega) (by omega) (by decide), fun M34 e34 => ?_⟩
  refine wc_X2_init_0 (by rw [e34]; exact mm_k_w) (fun M46 e46 => ?_)
  have E : M46 = mm_pr (mm_w (mm_pr (mm_pr (mm_w (mm_w (mm_pr (mm_pr (mm_w (mm_pr (mm_w (mm_w (mm_pr (mm_w M 110 12) 5 6 92) 5 3) 25 400) 93 0 94) 25 400) 93 1 95) 5 7 93) 1 3) 21 384) 96 0 97) 5 8 96) 2 1) 5 9 98 := by
    rw [e46, n29, e34, e29, h4, n15, n19, h1, e19, e15, f11, n4, nb4, f7, f4, n4, n7, f1, e7, e4, hn, e1]
  refine K M46 (by rw [e46, e34]; exact gr_pr (gr_w g29) (Or.inl rfl)) (by rw [e46, e34, nn_pr, nn_w, n29]) (by rw [e46, e34, tt_pr, tt_w (by omega)]; omega) (by rw [e46, e34, n29]; exact s5_put (s5_w s29 (by omega)) rfl) ?_
  have k92 : mm_k M46 92 = (110, 12) := by rw [E]; simp [kk_pr, kk_w, nn_w, nn_pr, hn, Nat.add_assoc]
  have k93 : mm_k M46 93 = (5, 3) := by rw [E]; simp [kk_pr, kk_w, nn_w, nn_pr, hn, Nat.add_assoc]
  have k94 : mm_k M46 94 = (25, 400) := by rw [E]; simp [kk_pr, kk_w, nn_w, nn_pr, hn, Nat.add_assoc]
  have k95 : mm_k M46 95 = (25, 400) := by rw [E]; simp [kk_pr, kk_w, nn_w, nn_pr, hn, Nat.add_assoc]
  have k96 : mm_k M46 96 = (1, 3) := by rw [E]; simp [kk_pr, kk_w, nn_w, nn_pr, hn, Nat.add_assoc]
  have k97 : mm_k M46 97 = (21, 384) := by rw [E]; simp [kk_pr, kk_w, nn_w, nn_pr, hn, Nat.add_assoc]
  have k98 : mm_k M46 98 = (2, 1) := by rw [E]; simp [kk_pr, kk_w, nn_w, nn_pr, hn, Nat.add_assoc]
  refine ⟨⟨110, k92, by decide, by decide, by decide, rfl⟩, ⟨k93, ?_, ?_, ⟨25, k94, by decide, by decide, by decide, rfl⟩, ⟨25, k95, by decide, by decide, by decide, rfl⟩, ?_⟩, ⟨k96, ?_, ⟨21, k97, by decide, by decide, by decide, rfl⟩, ⟨?_, ?_⟩, fun j => ?_⟩, k98⟩
  · rw [E]; simp [mr_pr, rr_w, nn_w, nn_pr, hn, Nat.add_assoc]
  · rw [E]; simp [mr_pr, rr_w, nn_w, nn_pr, hn, Nat.add_assoc]
  · rw [E]; simp [ii_pr, ii_w, nn_w, nn_pr, hn, Nat.add_assoc]
  · rw [E]; simp [mr_pr, rr_w, nn_w, nn_pr, hn, Nat.add_assoc]
  · rw [E]; simp [ii_pr, ii_w, nn_w, nn_pr, hn, Nat.add_assoc]
  · rw [E]; simp [ii_pr, ii_w, nn_w, nn_pr, hn, Nat.add_assoc]
  · rw [E]; simp [ii_pr, ii_w, nn_w, nn_pr, hn, Nat.add_assoc]
def wk_ (M : mm_T) : Prop := ak_ M 85 5 6 ∧ ∀ w, w < 6 → mm_r M 85 w = 86 + w ∧ mm_k M (86 + w) = (9, 5) ∧ mm_i M (86 + w) 0 = nI w ∧ mm_r M (86 + w) 1 = 0 ∧ ∀ j, 1 ≤ j → mm_i M (86 + w) j = 0
theorem wk_gr (h : wk_ M) (g : gr_ M M' a) (ha : a < 85 ∨ 92 ≤ a) (hn : 92 ≤ mm_n M) : wk_ M' := by
  refine ⟨gr_ak g h.1, fun w q => ?_⟩
  obtain ⟨o1, o2, o3, o4, o5⟩ := h.2 w q
  exact ⟨(gr_r g (by omega) (by omega) w).trans o1, gr_k g o2 (by decide), (gr_i g (by omega) (by omega) 0).trans o3, (gr_r g (by omega) (by omega) 1).trans o4, fun j z => (gr_i g (by omega) (by omega) j).trans (o5 j z)⟩
/-- the whole store as it is made -/
def cS_ (M : mm_T) (f : Nat → Int32) : Prop := (s5_ M 10 ∧ fbd_ M 6 f ∧ tS_ M) ∧ (ro_ M 79 80 400 [] ∧ ro_ M 81 82 400 [] ∧ ro_ M 83 84 48 []) ∧ wk_ M ∧ ce_T M
theorem cs_store {P : mm_T → Prop} (hk : mm_k M 5 = (10, 14)) (hn : mm_n M = 6) (hz : ∀ j, mm_i M 5 j = 0) (ht : tt_ M ≤ 1000) (h2 : mm_k M 2 = (15, 6)) (K : ∀ M', gr_ M M' 5 → mm_n M' = 99 → tt_ M' ≤ 10000 → cS_ M' (mm_i M 2) → P M') : cs_v mt_X10_init [pv_r 5] M P := by
  have rm : ∀ {N : mm_T} (n : Nat), mm_n N ≤ 1000 → tt_ N ≤ 100000 → n ≤ 1000 → mm_n N + 1 ≤ nb_ ∧ mm_t N (mm_n N) + n ≤ sb_ := fun {N} n q1 q2 q3 => ⟨by unfold nb_; omega, by have : tt_ N = mm_t N (mm_n N) := rfl; unfold sb_; omega⟩
  have s0 : s5_ M 0 := ⟨hk, fun j q => absurd q (by omega), hz⟩
  refine wc_X10_init_0 hk ⟨rm 4 (by omega) (by omega) (by decide), fun M1 e1 => ?_⟩
  rw [hn]
  have n1 : mm_n M1 = 7 := by rw [e1, nn_w, hn]
  have t1 : tt_ M1 = tt_ M + 4 := by rw [e1, tt_w (by omega)]
  have g1 : gr_ M M1 5 := by rw [e1]; exact gr_w gr_rf
  have s1 : s5_ M1 0 := by rw [e1]; exact s5_w s0 (by omega)
  refine cs_board (b := 6) (by rw [e1, ← hn]; exact mm_k_w) n1 (by decide) (by decide) (by omega) (gr_k g1 h2 (by decide)) (fun M4 g4 n4 t4 f4 M7 e7 => ?_)
  have n7 : mm_n M7 = 17 := by rw [e7, nn_pr]; exact n4
  have t7 : tt_ M7 = tt_ M + 142 := by rw [e7, tt_pr]; omega
  have g7 : gr_ M M7 5 := by rw [e7]; exact gr_pr (gr_cl g1 g4 (Or.inr (by omega))) (Or.inl rfl)
  have s7 : s5_ M7 1 := by rw [e7]; exact s5_put (s5_gr s1 g4 (by decide) (by omega)) rfl
  have i2 : mm_i M1 2 = mm_i M 2 := funext fun j => gr_i g1 (by omega) (by decide) j
  have f7 : fbd_ M7 6 (mm_i M 2) := by rw [e7, ← i2]; exact fbd_gr f4 (gr_pr0 (a := 5)) (by omega) (by omega)
  refine ⟨rm 8 (by omega) (by omega) (by decide), fun M10 e10 => ?_⟩
  rw [n7]
  have n10 : mm_n M10 = 18 := by rw [e10, nn_w, n7]
  have t10 : tt_ M10 = tt_ M + 150 := by rw [e10, tt_w (by omega), t7]
  have g10 : gr_ M7 M10 5 := by rw [e10]; exact gr_w gr_rf
  have s10 : s5_ M10 1 := by rw [e10]; exact s5_w s7 (by omega)
  refine cs_trial (by rw [e10, ← n7]; exact mm_k_w) n10 (by omega) (gr_k (gr_tr g7 g10) h2 (by decide)) (fun M14 g14 n14 t14 f14 M18 e18 => ?_)
  have n18 : mm_n M18 = 79 := by rw [e18, nn_pr]; exact n14
  have t18 : tt_ M18 = tt_ M + 1161 := by rw [e18, tt_pr]; omega
  have g18 : gr_ M7 M18 5 := by rw [e18]; exact gr_pr (gr_cl g10 g14 (Or.inr (by omega))) (Or.inl rfl)
  have s18 : s5_ M18 2 := by rw [e18]; exact s5_put (s5_gr s10 g14 (by decide) (by omega)) rfl
  have f18 : tS_ M18 := by rw [e18]; exact tS_gr f14 (gr_pr0 (a := 5)) (by omega) (by omega)
  refine ⟨rm 2 (by omega) (by omega) (by decide), ?_⟩
  rw [n18]
  refine cs_row5 (n := 400) (by decide) n18 (by decide) (by decide) (by omega) s18 rfl (fun M32 g32 n32 t32 s32 o32 => ?_)
  refine ⟨rm 2 (by omega) (by omega) (by decide), ?_⟩
  rw [n32]
  refine cs_row5 (n := 400) (by decide) n32 (by decide) (by decide) (by omega) s32 rfl (fun M49 g49 n49 t49 s49 o49 => ?_)
  refine ⟨rm 2 (by omega) (by omega) (by decide), ?_⟩
  rw [n49]
  refine cs_row5 (n := 48) (by decide) n49 (by decide) (by decide) (by omega) s49 rfl (fun M69 g69 n69 t69 s69 o69 => ?_)
  refine ⟨rm 6 (by omega) (by omega) (by decide), fun M76 e76 M84 e84 => ?_⟩
  have n84 : mm_n M84 = 86 := by rw [e84, e76, nn_pr, nn_w]; omega
  have t84 : tt_ M84 = tt_ M69 + 6 := by rw [e84, e76, tt_pr, tt_w (by omega)]
  have g84 : gr_ M69 M84 5 := by rw [e84, e76]; exact gr_pr (gr_w gr_rf) (Or.inl rfl)
  have s84 : s5_ M84 6 := by rw [e84, e76]; exact s5_put (s5_w s69 (by omega)) n69
  have a84 : ak_ M84 85 5 6 := by
    refine ⟨130, ?_, by decide, by decide, by decide, rfl⟩
    rw [e84, e76, kk_pr, kk_w, if_pos n69.symm]
  show cw_v mt_X10_init 78 [some (pv_r 5), some (pv_i (nI 0))] [] M84 P
  refine cw_works s84 a84 n84 (by omega) (fun N q => ?_) 6 0 M84 rfl ⟨gr_rf, n84, by omega, fun l hl => absurd hl (by omega)⟩
  obtain ⟨gN, nN, tN, lN⟩ := q
  refine cw_tail (s5_gr s84 gN (by decide) (by omega)) (by omega) (by omega) (fun M' g' n' t' s' c' => ?_)
  have gN5 : gr_ M69 N 5 := gr_cl g84 gN (Or.inr (by omega))
  have G69 : gr_ M69 M' 5 := gr_tr gN5 g'
  have G49 : gr_ M49 M' 5 := gr_tr g69 G69
  have G32 : gr_ M32 M' 5 := gr_tr g49 G49
  have G18 : gr_ M18 M' 5 := gr_tr g32 G32
  have G7 : gr_ M7 M' 5 := gr_tr g18 G18
  refine K M' (gr_tr g7 G7) n' (by omega) ⟨⟨s', fbd_gr f7 G7 (by omega) (by omega), tS_gr f18 G18 (by omega) (by omega)⟩, ⟨ro_gr o32 G32 (by decide) (by omega), ro_gr o49 G49 (by decide) (by omega), ro_gr o69 G69 (by decide) (by omega)⟩, wk_gr ⟨gr_ak gN a84, lN⟩ g' (by omega) (by omega), c'⟩
end MkE
