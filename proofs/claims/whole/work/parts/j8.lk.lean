/-! the law's calls closed, by program (wip/whole/genloop.py) -/
theorem lk_put {M : mm_T} {N i k : Nat} {nm : String} {Q : Option pv_T → mm_T → Prop} (h : lh_ M N k) (hk : k < 512) (hN : N ≤ 3072) (hi : i + 6 ≤ N) (kk : ∀ M2, lh_ M2 N (k + 1) → go_W (mt_Ln nm) fr_A 1803 (l4_ i) [] M2 Q) : go_W (mt_Ln nm) fr_A 256 (l4_ i) [] M Q := by
  obtain ⟨n, ta, tm, hre, hix, hxi⟩ := h.2
  have hl := lim_k hk
  obtain ⟨kt, hkt⟩ := hxi.2.2.2
  have H := st_sm (K := fun M2 => go_W (mt_Ln nm) fr_A 1803 (l4_ i) [] M2 Q) h hre (sm_put (x1 := mm_i M 1 (i + 1)) (x2 := mm_i M 1 (i + 2)) (x3 := mm_i M 1 (i + 3)) (x4 := mm_i M 1 (i + 4)) (x5 := mm_i M 1 (i + 5)) hix hl) (xo_put hix hl hxi) kk
  exact lc_put h.1.1 hN hi hre.1.1.1.1 h.1.2.1 H
theorem lk_take {M : mm_T} {N i k : Nat} {nm : String} {Q : Option pv_T → mm_T → Prop} (h : lh_ M N k) (hk : k < 512) (hN : N ≤ 3072) (hi : i + 6 ≤ N) (kk : ∀ M2, lh_ M2 N (k + 1) → go_W (mt_Ln nm) fr_A 1803 (l4_ i) [] M2 Q) : go_W (mt_Ln nm) fr_A 319 (l4_ i) [] M Q := by
  obtain ⟨n, ta, tm, hre, hix, hxi⟩ := h.2
  have hl := lim_k hk
  obtain ⟨kt, hkt⟩ := hxi.2.2.2
  have H := st_sm (K := fun M2 => go_W (mt_Ln nm) fr_A 1803 (l4_ i) [] M2 Q) h hre (sm_take (x1 := mm_i M 1 (i + 1)) hix hl) (xo_take hix hl hxi) kk
  exact lc_take h.1.1 hN hi hre.1.1.1.1 h.1.2.1 H
theorem lk_done {M : mm_T} {N i k : Nat} {nm : String} {Q : Option pv_T → mm_T → Prop} (h : lh_ M N k) (hk : k < 512) (hN : N ≤ 3072) (hi : i + 6 ≤ N) (kk : ∀ M2, lh_ M2 N (k + 1) → go_W (mt_Ln nm) fr_A 1803 (l4_ i) [] M2 Q) : go_W (mt_Ln nm) fr_A 342 (l4_ i) [] M Q := by
  obtain ⟨n, ta, tm, hre, hix, hxi⟩ := h.2
  have hl := lim_k hk
  obtain ⟨kt, hkt⟩ := hxi.2.2.2
  have H := st_sm (K := fun M2 => go_W (mt_Ln nm) fr_A 1803 (l4_ i) [] M2 Q) h hre (sm_done (x1 := mm_i M 1 (i + 1)) (x2 := mm_i M 1 (i + 2)) hix hl) (xo_done hix hl hxi) kk
  exact lc_done h.1.1 hN hi hre.1.1.1.1 h.1.2.1 H
theorem lk_fail {M : mm_T} {N i k : Nat} {nm : String} {Q : Option pv_T → mm_T → Prop} (h : lh_ M N k) (hk : k < 512) (hN : N ≤ 3072) (hi : i + 6 ≤ N) (kk : ∀ M2, lh_ M2 N (k + 1) → go_W (mt_Ln nm) fr_A 1803 (l4_ i) [] M2 Q) : go_W (mt_Ln nm) fr_A 375 (l4_ i) [] M Q := by
  obtain ⟨n, ta, tm, hre, hix, hxi⟩ := h.2
  have hl := lim_k hk
  obtain ⟨kt, hkt⟩ := hxi.2.2.2
  have H := st_sm (K := fun M2 => go_W (mt_Ln nm) fr_A 1803 (l4_ i) [] M2 Q) h hre (sm_fail (x1 := mm_i M 1 (i + 1)) (x2 := mm_i M 1 (i + 2)) (x3 := mm_i M 1 (i + 3)) hix hl) (xo_fail hix hl hxi) kk
  exact lc_fail h.1.1 hN hi hre.1.1.1.1 h.1.2.1 H
theorem lk_beat {M : mm_T} {N i k : Nat} {nm : String} {Q : Option pv_T → mm_T → Prop} (h : lh_ M N k) (hk : k < 512) (hN : N ≤ 3072) (hi : i + 6 ≤ N) (kk : ∀ M2, lh_ M2 N (k + 1) → go_W (mt_Ln nm) fr_A 1803 (l4_ i) [] M2 Q) : go_W (mt_Ln nm) fr_A 418 (l4_ i) [] M Q := by
  obtain ⟨n, ta, tm, hre, hix, hxi⟩ := h.2
  have hl := lim_k hk
  obtain ⟨kt, hkt⟩ := hxi.2.2.2
  have H := st_sm (K := fun M2 => go_W (mt_Ln nm) fr_A 1803 (l4_ i) [] M2 Q) h hre (sm_beat (x1 := mm_i M 1 (i + 1)) (x2 := mm_i M 1 (i + 2)) hix hl) (xo_beat hix hl hxi) kk
  exact lc_beat h.1.1 hN hi hre.1.1.1.1 h.1.2.1 H
theorem lk_back {M : mm_T} {N i k : Nat} {nm : String} {Q : Option pv_T → mm_T → Prop} (h : lh_ M N k) (hk : k < 512) (hN : N ≤ 3072) (hi : i + 6 ≤ N) (kk : ∀ M2, lh_ M2 N (k + 1) → go_W (mt_Ln nm) fr_A 1803 (l4_ i) [] M2 Q) : go_W (mt_Ln nm) fr_A 451 (l4_ i) [] M Q := by
  obtain ⟨n, ta, tm, hre, hix, hxi⟩ := h.2
  have hl := lim_k hk
  obtain ⟨kt, hkt⟩ := hxi.2.2.2
  have H := st_sm (K := fun M2 => go_W (mt_Ln nm) fr_A 1803 (l4_ i) [] M2 Q) h hre (sm_back (x1 := mm_i M 1 (i + 1)) (x2 := mm_i M 1 (i + 2)) hix hl) (xo_back hix hl hxi) kk
  exact lc_back h.1.1 hN hi hre.1.1.1.1 h.1.2.1 H
theorem lk_hand {M : mm_T} {N i k : Nat} {nm : String} {Q : Option pv_T → mm_T → Prop} (h : lh_ M N k) (hk : k < 512) (hN : N ≤ 3072) (hi : i + 6 ≤ N) (kk : ∀ M2, lh_ M2 N (k + 1) → go_W (mt_Ln nm) fr_A 1803 (l4_ i) [] M2 Q) : go_W (mt_Ln nm) fr_A 484 (l4_ i) [] M Q := by
  obtain ⟨n, ta, tm, hre, hix, hxi⟩ := h.2
  have hl := lim_k hk
  obtain ⟨kt, hkt⟩ := hxi.2.2.2
  have H := st_sm (K := fun M2 => go_W (mt_Ln nm) fr_A 1803 (l4_ i) [] M2 Q) h hre (sm_hand (x1 := mm_i M 1 (i + 1)) (x2 := mm_i M 1 (i + 2)) (x3 := mm_i M 1 (i + 3)) hix hl) (xo_hand hix hl hxi) kk
  exact lc_hand h.1.1 hN hi hre.1.1.1.1 h.1.2.1 H
theorem lk_every {M : mm_T} {N i k : Nat} {nm : String} {Q : Option pv_T → mm_T → Prop} (h : lh_ M N k) (hk : k < 512) (hN : N ≤ 3072) (hi : i + 6 ≤ N) (kk : ∀ M2, lh_ M2 N (k + 1) → go_W (mt_Ln nm) fr_A 1803 (l4_ i) [] M2 Q) : go_W (mt_Ln nm) fr_A 527 (l4_ i) [] M Q := by
  obtain ⟨n, ta, tm, hre, hix, hxi⟩ := h.2
  have hl := lim_k hk
  obtain ⟨kt, hkt⟩ := hxi.2.2.2
  have H := st_sm (K := fun M2 => go_W (mt_Ln nm) fr_A 1803 (l4_ i) [] M2 Q) h hre (sm_every (x1 := mm_i M 1 (i + 1)) (x2 := mm_i M 1 (i + 2)) (x3 := mm_i M 1 (i + 3)) (x4 := mm_i M 1 (i + 4)) (x5 := mm_i M 1 (i + 5)) hix hkt) (xo_every hix hxi) kk
  exact lc_every h.1.1 hN hi hre.1.1.1.1 h.1.2.1 H
theorem lk_stop {M : mm_T} {N i k : Nat} {nm : String} {Q : Option pv_T → mm_T → Prop} (h : lh_ M N k) (hk : k < 512) (hN : N ≤ 3072) (hi : i + 6 ≤ N) (kk : ∀ M2, lh_ M2 N (k + 1) → go_W (mt_Ln nm) fr_A 1803 (l4_ i) [] M2 Q) : go_W (mt_Ln nm) fr_A 590 (l4_ i) [] M Q := by
  obtain ⟨n, ta, tm, hre, hix, hxi⟩ := h.2
  have hl := lim_k hk
  obtain ⟨kt, hkt⟩ := hxi.2.2.2
  have H := st_sm (K := fun M2 => go_W (mt_Ln nm) fr_A 1803 (l4_ i) [] M2 Q) h hre (sm_stop (x1 := mm_i M 1 (i + 1)) hix hkt) (xo_stop hix hxi) kk
  exact lc_stop h.1.1 hN hi hre.1.1.1.1 h.1.2.1 H
theorem lk_tick {M : mm_T} {N i k : Nat} {nm : String} {Q : Option pv_T → mm_T → Prop} (h : lh_ M N k) (hk : k < 512) (hN : N ≤ 3072) (hi : i + 6 ≤ N) (kk : ∀ M2, lh_ M2 N (k + 1) → go_W (mt_Ln nm) fr_A 1803 (l4_ i) [] M2 Q) : go_W (mt_Ln nm) fr_A 613 (l4_ i) [] M Q := by
  obtain ⟨n, ta, tm, hre, hix, hxi⟩ := h.2
  have hl := lim_k hk
  obtain ⟨kt, hkt⟩ := hxi.2.2.2
  have H := st_sm (K := fun M2 => go_W (mt_Ln nm) fr_A 1803 (l4_ i) [] M2 Q) h hre (sm_tick (x1 := mm_i M 1 (i + 1)) hix hl hkt) (xo_tick hix hl hxi) kk
  exact lc_tick h.1.1 hN hi hre.1.1.1.1 h.1.2.1 H
theorem lk_drain {M : mm_T} {N i k : Nat} {nm : String} {Q : Option pv_T → mm_T → Prop} (h : lh_ M N k) (hk : k < 512) (hN : N ≤ 3072) (hi : i + 6 ≤ N) (kk : ∀ M2, lh_ M2 N (k + 1) → go_W (mt_Ln nm) fr_A 1803 (l4_ i) [] M2 Q) : go_W (mt_Ln nm) fr_A 636 (l4_ i) [] M Q := by
  obtain ⟨n, ta, tm, hre, hix, hxi⟩ := h.2
  have hl := lim_k hk
  obtain ⟨kt, hkt⟩ := hxi.2.2.2
  have H := st_sm (K := fun M2 => go_W (mt_Ln nm) fr_A 1803 (l4_ i) [] M2 Q) h hre (sm_drain (x1 := mm_i M 1 (i + 1)) hix) (xo_drain hix hxi) kk
  exact lc_drain h.1.1 hN hi hre.1.1.1.1 h.1.2.1 H
theorem lk_open {M : mm_T} {N i k : Nat} {nm : String} {Q : Option pv_T → mm_T → Prop} (h : lh_ M N k) (hk : k < 512) (hN : N ≤ 3072) (hi : i + 6 ≤ N) (kk : ∀ M2, lh_ M2 N (k + 1) → go_W (mt_Ln nm) fr_A 1803 (l4_ i) [] M2 Q) : go_W (mt_Ln nm) fr_A 659 (l4_ i) [] M Q := by
  obtain ⟨n, ta, tm, hre, hix, hxi⟩ := h.2
  have hl := lim_k hk
  obtain ⟨kt, hkt⟩ := hxi.2.2.2
  have H := st_sm (K := fun M2 => go_W (mt_Ln nm) fr_A 1803 (l4_ i) [] M2 Q) h hre (sm_open (x1 := mm_i M 1 (i + 1)) hix) (xo_open hix hxi) kk
  exact lc_open h.1.1 hN hi hre.1.1.1.1 h.1.2.1 H
theorem lk_cancel {M : mm_T} {N i k : Nat} {nm : String} {Q : Option pv_T → mm_T → Prop} (h : lh_ M N k) (hk : k < 512) (hN : N ≤ 3072) (hi : i + 6 ≤ N) (kk : ∀ M2, lh_ M2 N (k + 1) → go_W (mt_Ln nm) fr_A 1803 (l4_ i) [] M2 Q) : go_W (mt_Ln nm) fr_A 682 (l4_ i) [] M Q := by
  obtain ⟨n, ta, tm, hre, hix, hxi⟩ := h.2
  have hl := lim_k hk
  obtain ⟨kt, hkt⟩ := hxi.2.2.2
  have H := st_sm (K := fun M2 => go_W (mt_Ln nm) fr_A 1803 (l4_ i) [] M2 Q) h hre (sm_cancel (x1 := mm_i M 1 (i + 1)) hix hl) (xo_cancel hix hxi) kk
  exact lc_cancel h.1.1 hN hi hre.1.1.1.1 h.1.2.1 H
theorem lk_move {M : mm_T} {N i k : Nat} {nm : String} {Q : Option pv_T → mm_T → Prop} (h : lh_ M N k) (hk : k < 512) (hN : N ≤ 3072) (hi : i + 6 ≤ N) (kk : ∀ M2, lh_ M2 N (k + 1) → go_W (mt_Ln nm) fr_A 1803 (l4_ i) [] M2 Q) : go_W (mt_Ln nm) fr_A 705 (l4_ i) [] M Q := by
  obtain ⟨n, ta, tm, hre, hix, hxi⟩ := h.2
  have hl := lim_k hk
  obtain ⟨kt, hkt⟩ := hxi.2.2.2
  have H := st_sm (K := fun M2 => go_W (mt_Ln nm) fr_A 1803 (l4_ i) [] M2 Q) h hre (sm_move (x1 := mm_i M 1 (i + 1)) (x2 := mm_i M 1 (i + 2)) hix hl) (xo_mov hix hxi) kk
  exact lc_move h.1.1 hN hi hre.1.1.1.1 h.1.2.1 H
theorem lk_raise {M : mm_T} {N i k : Nat} {nm : String} {Q : Option pv_T → mm_T → Prop} (h : lh_ M N k) (hk : k < 512) (hN : N ≤ 3072) (hi : i + 6 ≤ N) (kk : ∀ M2, lh_ M2 N (k + 1) → go_W (mt_Ln nm) fr_A 1803 (l4_ i) [] M2 Q) : go_W (mt_Ln nm) fr_A 738 (l4_ i) [] M Q := by
  obtain ⟨n, ta, tm, hre, hix, hxi⟩ := h.2
  have hl := lim_k hk
  obtain ⟨kt, hkt⟩ := hxi.2.2.2
  have H := st_sm (K := fun M2 => go_W (mt_Ln nm) fr_A 1803 (l4_ i) [] M2 Q) h hre (sm_raise (x1 := mm_i M 1 (i + 1)) (x2 := mm_i M 1 (i + 2)) hix) (xo_raise hix hxi) kk
  exact lc_raise h.1.1 hN hi hre.1.1.1.1 h.1.2.1 H
theorem lk_again {M : mm_T} {N i k : Nat} {nm : String} {Q : Option pv_T → mm_T → Prop} (h : lh_ M N k) (hk : k < 512) (hN : N ≤ 3072) (hi : i + 6 ≤ N) (kk : ∀ M2, lh_ M2 N (k + 1) → go_W (mt_Ln nm) fr_A 1803 (l4_ i) [] M2 Q) : go_W (mt_Ln nm) fr_A 772 (l4_ i) [] M Q := by
  obtain ⟨n, ta, tm, hre, hix, hxi⟩ := h.2
  have hl := lim_k hk
  obtain ⟨kt, hkt⟩ := hxi.2.2.2
  have H := st_sm (K := fun M2 => go_W (mt_Ln nm) fr_A 1803 (l4_ i) [] M2 Q) h hre (sm_again (x1 := mm_i M 1 (i + 1)) hix hl) (xo_agn hix hl hxi) kk
  exact lc_again h.1.1 hN hi hre.1.1.1.1 h.1.2.1 H
theorem lk_discard {M : mm_T} {N i k : Nat} {nm : String} {Q : Option pv_T → mm_T → Prop} (h : lh_ M N k) (hk : k < 512) (hN : N ≤ 3072) (hi : i + 6 ≤ N) (kk : ∀ M2, lh_ M2 N (k + 1) → go_W (mt_Ln nm) fr_A 1803 (l4_ i) [] M2 Q) : go_W (mt_Ln nm) fr_A 795 (l4_ i) [] M Q := by
  obtain ⟨n, ta, tm, hre, hix, hxi⟩ := h.2
  have hl := lim_k hk
  obtain ⟨kt, hkt⟩ := hxi.2.2.2
  have H := st_sm (K := fun M2 => go_W (mt_Ln nm) fr_A 1803 (l4_ i) [] M2 Q) h hre (sm_dis (x1 := mm_i M 1 (i + 1)) hix hl) (xo_dis hix hxi) kk
  exact lc_discard h.1.1 hN hi hre.1.1.1.1 h.1.2.1 H
theorem lk_arrange {M : mm_T} {N i k : Nat} {nm : String} {Q : Option pv_T → mm_T → Prop} (h : lh_ M N k) (hk : k < 512) (hN : N ≤ 3072) (hi : i + 6 ≤ N) (kk : ∀ M2, lh_ M2 N (k + 1) → go_W (mt_Ln nm) fr_A 1803 (l4_ i) [] M2 Q) : go_W (mt_Ln nm) fr_A 818 (l4_ i) [] M Q := by
  obtain ⟨n, ta, tm, hre, hix, hxi⟩ := h.2
  have hl := lim_k hk
  obtain ⟨kt, hkt⟩ := hxi.2.2.2
  have H := st_sm (K := fun M2 => go_W (mt_Ln nm) fr_A 1803 (l4_ i) [] M2 Q) h hre (sm_arr (x1 := mm_i M 1 (i + 1)) (x2 := mm_i M 1 (i + 2)) (x3 := mm_i M 1 (i + 3)) hix) (xo_arr hix hxi) kk
  exact lc_arrange h.1.1 hN hi hre.1.1.1.1 h.1.2.1 H
theorem lk_rule {M : mm_T} {N i k : Nat} {nm : String} {Q : Option pv_T → mm_T → Prop} (h : lh_ M N k) (hk : k < 512) (hN : N ≤ 3072) (hi : i + 6 ≤ N) (kk : ∀ M2, lh_ M2 N (k + 1) → go_W (mt_Ln nm) fr_A 1803 (l4_ i) [] M2 Q) : go_W (mt_Ln nm) fr_A 861 (l4_ i) [] M Q := by
  obtain ⟨n, ta, tm, hre, hix, hxi⟩ := h.2
  have hl := lim_k hk
  obtain ⟨kt, hkt⟩ := hxi.2.2.2
  have H := st_sm (K := fun M2 => go_W (mt_Ln nm) fr_A 1803 (l4_ i) [] M2 Q) h hre (sm_rule (x1 := mm_i M 1 (i + 1)) (x2 := mm_i M 1 (i + 2)) hix) (xo_rule hix hxi) kk
  exact lc_rule h.1.1 hN hi hre.1.1.1.1 h.1.2.1 H
theorem lk_pardon {M : mm_T} {N i k : Nat} {nm : String} {Q : Option pv_T → mm_T → Prop} (h : lh_ M N k) (hk : k < 512) (hN : N ≤ 3072) (hi : i + 6 ≤ N) (kk : ∀ M2, lh_ M2 N (k + 1) → go_W (mt_Ln nm) fr_A 1803 (l4_ i) [] M2 Q) : go_W (mt_Ln nm) fr_A 894 (l4_ i) [] M Q := by
  obtain ⟨n, ta, tm, hre, hix, hxi⟩ := h.2
  have hl := lim_k hk
  obtain ⟨kt, hkt⟩ := hxi.2.2.2
  have H := st_sm (K := fun M2 => go_W (mt_Ln nm) fr_A 1803 (l4_ i) [] M2 Q) h hre (sm_pardon (x1 := mm_i M 1 (i + 1)) hix) (xo_pardon hix hxi) kk
  exact lc_pardon h.1.1 hN hi hre.1.1.1.1 h.1.2.1 H
theorem lk_steps {M : mm_T} {N i k : Nat} {nm : String} {Q : Option pv_T → mm_T → Prop} (h : lh_ M N k) (hk : k < 512) (hN : N ≤ 3072) (hi : i + 6 ≤ N) (kk : ∀ M2, lh_ M2 N (k + 1) → go_W (mt_Ln nm) fr_A 1803 (l4_ i) [] M2 Q) : go_W (mt_Ln nm) fr_A 917 (l4_ i) [] M Q := by
  obtain ⟨n, ta, tm, hre, hix, hxi⟩ := h.2
  have hl := lim_k hk
  obtain ⟨kt, hkt⟩ := hxi.2.2.2
  have H := st_stp (x1 := mm_i M 1 (i + 1)) (x2 := mm_i M 1 (i + 2)) (K := fun M2 => go_W (mt_Ln nm) fr_A 1803 (l4_ i) [] M2 Q) h hk hre hix hxi kk
  exact lc_steps h.1.1 hN hi hre.1.1.1.1 h.1.2.1 H
theorem lk_store {M : mm_T} {N i k : Nat} {nm : String} {Q : Option pv_T → mm_T → Prop} (h : lh_ M N k) (hk : k < 512) (hN : N ≤ 3072) (hi : i + 6 ≤ N) (kk : ∀ M2, lh_ M2 N (k + 1) → go_W (mt_Ln nm) fr_A 1803 (l4_ i) [] M2 Q) : go_W (mt_Ln nm) fr_A 950 (l4_ i) [] M Q := by
  obtain ⟨n, ta, tm, hre, hix, hxi⟩ := h.2
  have hl := lim_k hk
  obtain ⟨kt, hkt⟩ := hxi.2.2.2
  obtain ⟨v, hs⟩ := sm_store (x1 := mm_i M 1 (i + 1)) hix
  have H := st_sm (K := fun M2 => go_W (mt_Ln nm) fr_A 1803 (l4_ i) [] M2 Q) h hre hs (xo_id hix hxi) kk
  exact lc_store h.1.1 hN hi hre.1.1.1.1 h.1.2.1 H
theorem lk_lane {M : mm_T} {N i k : Nat} {nm : String} {Q : Option pv_T → mm_T → Prop} (h : lh_ M N k) (hk : k < 512) (hN : N ≤ 3072) (hi : i + 6 ≤ N) (kk : ∀ M2, lh_ M2 N (k + 1) → go_W (mt_Ln nm) fr_A 1803 (l4_ i) [] M2 Q) : go_W (mt_Ln nm) fr_A 973 (l4_ i) [] M Q := by
  obtain ⟨n, ta, tm, hre, hix, hxi⟩ := h.2
  have hl := lim_k hk
  obtain ⟨kt, hkt⟩ := hxi.2.2.2
  obtain ⟨v, hs⟩ := sm_lane (x1 := mm_i M 1 (i + 1)) (x2 := mm_i M 1 (i + 2)) hix
  have H := st_sm (K := fun M2 => go_W (mt_Ln nm) fr_A 1803 (l4_ i) [] M2 Q) h hre hs (xo_id hix hxi) kk
  exact lc_lane h.1.1 hN hi hre.1.1.1.1 h.1.2.1 H
theorem lk_task {M : mm_T} {N i k : Nat} {nm : String} {Q : Option pv_T → mm_T → Prop} (h : lh_ M N k) (hk : k < 512) (hN : N ≤ 3072) (hi : i + 6 ≤ N) (kk : ∀ M2, lh_ M2 N (k + 1) → go_W (mt_Ln nm) fr_A 1803 (l4_ i) [] M2 Q) : go_W (mt_Ln nm) fr_A 1006 (l4_ i) [] M Q := by
  obtain ⟨n, ta, tm, hre, hix, hxi⟩ := h.2
  have hl := lim_k hk
  obtain ⟨kt, hkt⟩ := hxi.2.2.2
  obtain ⟨v, hs⟩ := sm_task (x1 := mm_i M 1 (i + 1)) (x2 := mm_i M 1 (i + 2)) hix
  have H := st_sm (K := fun M2 => go_W (mt_Ln nm) fr_A 1803 (l4_ i) [] M2 Q) h hre hs (xo_id hix hxi) kk
  exact lc_task h.1.1 hN hi hre.1.1.1.1 h.1.2.1 H
theorem lk_rank {M : mm_T} {N i k : Nat} {nm : String} {Q : Option pv_T → mm_T → Prop} (h : lh_ M N k) (hk : k < 512) (hN : N ≤ 3072) (hi : i + 6 ≤ N) (kk : ∀ M2, lh_ M2 N (k + 1) → go_W (mt_Ln nm) fr_A 1803 (l4_ i) [] M2 Q) : go_W (mt_Ln nm) fr_A 1039 (l4_ i) [] M Q := by
  obtain ⟨n, ta, tm, hre, hix, hxi⟩ := h.2
  have hl := lim_k hk
  obtain ⟨kt, hkt⟩ := hxi.2.2.2
  obtain ⟨v, hs⟩ := sm_rank (x1 := mm_i M 1 (i + 1)) hix
  have H := st_sm (K := fun M2 => go_W (mt_Ln nm) fr_A 1803 (l4_ i) [] M2 Q) h hre hs (xo_id hix hxi) kk
  exact lc_rank h.1.1 hN hi hre.1.1.1.1 h.1.2.1 H
theorem lk_cause {M : mm_T} {N i k : Nat} {nm : String} {Q : Option pv_T → mm_T → Prop} (h : lh_ M N k) (hk : k < 512) (hN : N ≤ 3072) (hi : i + 6 ≤ N) (kk : ∀ M2, lh_ M2 N (k + 1) → go_W (mt_Ln nm) fr_A 1803 (l4_ i) [] M2 Q) : go_W (mt_Ln nm) fr_A 1062 (l4_ i) [] M Q := by
  obtain ⟨n, ta, tm, hre, hix, hxi⟩ := h.2
  have hl := lim_k hk
  obtain ⟨kt, hkt⟩ := hxi.2.2.2
  obtain ⟨v, hs⟩ := sm_cause (x1 := mm_i M 1 (i + 1)) (x2 := mm_i M 1 (i + 2)) hix
  have H := st_sm (K := fun M2 => go_W (mt_Ln nm) fr_A 1803 (l4_ i) [] M2 Q) h hre hs (xo_id hix hxi) kk
  exact lc_cause h.1.1 hN hi hre.1.1.1.1 h.1.2.1 H
theorem lk_worker {M : mm_T} {N i k : Nat} {nm : String} {Q : Option pv_T → mm_T → Prop} (h : lh_ M N k) (hk : k < 512) (hN : N ≤ 3072) (hi : i + 6 ≤ N) (kk : ∀ M2, lh_ M2 N (k + 1) → go_W (mt_Ln nm) fr_A 1803 (l4_ i) [] M2 Q) : go_W (mt_Ln nm) fr_A 1095 (l4_ i) [] M Q := by
  obtain ⟨n, ta, tm, hre, hix, hxi⟩ := h.2
  have hl := lim_k hk
  obtain ⟨kt, hkt⟩ := hxi.2.2.2
  obtain ⟨v, hs⟩ := sm_worker (x1 := mm_i M 1 (i + 1)) (x2 := mm_i M 1 (i + 2)) hix
  have H := st_sm (K := fun M2 => go_W (mt_Ln nm) fr_A 1803 (l4_ i) [] M2 Q) h hre hs (xo_id hix hxi) kk
  exact lc_worker h.1.1 hN hi hre.1.1.1.1 h.1.2.1 H
theorem lk_timer {M : mm_T} {N i k : Nat} {nm : String} {Q : Option pv_T → mm_T → Prop} (h : lh_ M N k) (hk : k < 512) (hN : N ≤ 3072) (hi : i + 6 ≤ N) (kk : ∀ M2, lh_ M2 N (k + 1) → go_W (mt_Ln nm) fr_A 1803 (l4_ i) [] M2 Q) : go_W (mt_Ln nm) fr_A 1128 (l4_ i) [] M Q := by
  obtain ⟨n, ta, tm, hre, hix, hxi⟩ := h.2
  have hl := lim_k hk
  obtain ⟨kt, hkt⟩ := hxi.2.2.2
  obtain ⟨v, hs⟩ := sm_timer (x1 := mm_i M 1 (i + 1)) (x2 := mm_i M 1 (i + 2)) hix hkt
  have H := st_sm (K := fun M2 => go_W (mt_Ln nm) fr_A 1803 (l4_ i) [] M2 Q) h hre hs (xo_id hix hxi) kk
  exact lc_timer h.1.1 hN hi hre.1.1.1.1 h.1.2.1 H
theorem lk_waiting {M : mm_T} {N i k : Nat} {nm : String} {Q : Option pv_T → mm_T → Prop} (h : lh_ M N k) (hk : k < 512) (hN : N ≤ 3072) (hi : i + 6 ≤ N) (kk : ∀ M2, lh_ M2 N (k + 1) → go_W (mt_Ln nm) fr_A 1803 (l4_ i) [] M2 Q) : go_W (mt_Ln nm) fr_A 1161 (l4_ i) [] M Q := by
  obtain ⟨n, ta, tm, hre, hix, hxi⟩ := h.2
  have hl := lim_k hk
  obtain ⟨kt, hkt⟩ := hxi.2.2.2
  obtain ⟨v, hs⟩ := sm_waiting (x1 := mm_i M 1 (i + 1)) (x2 := mm_i M 1 (i + 2)) hix
  have H := st_sm (K := fun M2 => go_W (mt_Ln nm) fr_A 1803 (l4_ i) [] M2 Q) h hre hs (xo_id hix hxi) kk
  exact lc_waiting h.1.1 hN hi hre.1.1.1.1 h.1.2.1 H
theorem lk_keyed {M : mm_T} {N i k : Nat} {nm : String} {Q : Option pv_T → mm_T → Prop} (h : lh_ M N k) (hk : k < 512) (hN : N ≤ 3072) (hi : i + 6 ≤ N) (kk : ∀ M2, lh_ M2 N (k + 1) → go_W (mt_Ln nm) fr_A 1803 (l4_ i) [] M2 Q) : go_W (mt_Ln nm) fr_A 1194 (l4_ i) [] M Q := by
  obtain ⟨n, ta, tm, hre, hix, hxi⟩ := h.2
  have hl := lim_k hk
  obtain ⟨kt, hkt⟩ := hxi.2.2.2
  obtain ⟨v, hs⟩ := sm_keyed (x1 := mm_i M 1 (i + 1)) hix
  have H := st_sm (K := fun M2 => go_W (mt_Ln nm) fr_A 1803 (l4_ i) [] M2 Q) h hre hs (xo_id hix hxi) kk
  exact lc_keyed h.1.1 hN hi hre.1.1.1.1 h.1.2.1 H
theorem lk_resting {M : mm_T} {N i k : Nat} {nm : String} {Q : Option pv_T → mm_T → Prop} (h : lh_ M N k) (hk : k < 512) (hN : N ≤ 3072) (hi : i + 6 ≤ N) (kk : ∀ M2, lh_ M2 N (k + 1) → go_W (mt_Ln nm) fr_A 1803 (l4_ i) [] M2 Q) : go_W (mt_Ln nm) fr_A 1217 (l4_ i) [] M Q := by
  obtain ⟨n, ta, tm, hre, hix, hxi⟩ := h.2
  have hl := lim_k hk
  obtain ⟨kt, hkt⟩ := hxi.2.2.2
  obtain ⟨v, hs⟩ := sm_resting (x1 := mm_i M 1 (i + 1)) hix
  have H := st_sm (K := fun M2 => go_W (mt_Ln nm) fr_A 1803 (l4_ i) [] M2 Q) h hre hs (xo_id hix hxi) kk
  exact lc_resting h.1.1 hN hi hre.1.1.1.1 h.1.2.1 H
theorem lk_aside {M : mm_T} {N i k : Nat} {nm : String} {Q : Option pv_T → mm_T → Prop} (h : lh_ M N k) (hk : k < 512) (hN : N ≤ 3072) (hi : i + 6 ≤ N) (kk : ∀ M2, lh_ M2 N (k + 1) → go_W (mt_Ln nm) fr_A 1803 (l4_ i) [] M2 Q) : go_W (mt_Ln nm) fr_A 1240 (l4_ i) [] M Q := by
  obtain ⟨n, ta, tm, hre, hix, hxi⟩ := h.2
  have hl := lim_k hk
  obtain ⟨kt, hkt⟩ := hxi.2.2.2
  obtain ⟨v, hs⟩ := sm_aside (x1 := mm_i M 1 (i + 1)) hix
  have H := st_sm (K := fun M2 => go_W (mt_Ln nm) fr_A 1803 (l4_ i) [] M2 Q) h hre hs (xo_id hix hxi) kk
  exact lc_aside h.1.1 hN hi hre.1.1.1.1 h.1.2.1 H
theorem lk_ending {M : mm_T} {N i k : Nat} {nm : String} {Q : Option pv_T → mm_T → Prop} (h : lh_ M N k) (hk : k < 512) (hN : N ≤ 3072) (hi : i + 6 ≤ N) (kk : ∀ M2, lh_ M2 N (k + 1) → go_W (mt_Ln nm) fr_A 1803 (l4_ i) [] M2 Q) : go_W (mt_Ln nm) fr_A 1263 (l4_ i) [] M Q := by
  obtain ⟨n, ta, tm, hre, hix, hxi⟩ := h.2
  have hl := lim_k hk
  obtain ⟨kt, hkt⟩ := hxi.2.2.2
  obtain ⟨v, hs⟩ := sm_ending (x1 := mm_i M 1 (i + 1)) hix
  have H := st_sm (K := fun M2 => go_W (mt_Ln nm) fr_A 1803 (l4_ i) [] M2 Q) h hre hs (xo_id hix hxi) kk
  exact lc_ending h.1.1 hN hi hre.1.1.1.1 h.1.2.1 H
theorem lk_strikes {M : mm_T} {N i k : Nat} {nm : String} {Q : Option pv_T → mm_T → Prop} (h : lh_ M N k) (hk : k < 512) (hN : N ≤ 3072) (hi : i + 6 ≤ N) (kk : ∀ M2, lh_ M2 N (k + 1) → go_W (mt_Ln nm) fr_A 1803 (l4_ i) [] M2 Q) : go_W (mt_Ln nm) fr_A 1286 (l4_ i) [] M Q := by
  obtain ⟨n, ta, tm, hre, hix, hxi⟩ := h.2
  have hl := lim_k hk
  obtain ⟨kt, hkt⟩ := hxi.2.2.2
  obtain ⟨v, hs⟩ := sm_strikes (x1 := mm_i M 1 (i + 1)) hix
  have H := st_sm (K := fun M2 => go_W (mt_Ln nm) fr_A 1803 (l4_ i) [] M2 Q) h hre hs (xo_id hix hxi) kk
  exact lc_strikes h.1.1 hN hi hre.1.1.1.1 h.1.2.1 H
theorem lk_banned {M : mm_T} {N i k : Nat} {nm : String} {Q : Option pv_T → mm_T → Prop} (h : lh_ M N k) (hk : k < 512) (hN : N ≤ 3072) (hi : i + 6 ≤ N) (kk : ∀ M2, lh_ M2 N (k + 1) → go_W (mt_Ln nm) fr_A 1803 (l4_ i) [] M2 Q) : go_W (mt_Ln nm) fr_A 1309 (l4_ i) [] M Q := by
  obtain ⟨n, ta, tm, hre, hix, hxi⟩ := h.2
  have hl := lim_k hk
  obtain ⟨kt, hkt⟩ := hxi.2.2.2
  obtain ⟨v, hs⟩ := sm_banned (x1 := mm_i M 1 (i + 1)) hix
  have H := st_sm (K := fun M2 => go_W (mt_Ln nm) fr_A 1803 (l4_ i) [] M2 Q) h hre hs (xo_id hix hxi) kk
  exact lc_banned h.1.1 hN hi hre.1.1.1.1 h.1.2.1 H
theorem lk_waits {M : mm_T} {N i k : Nat} {nm : String} {Q : Option pv_T → mm_T → Prop} (h : lh_ M N k) (hk : k < 512) (hN : N ≤ 3072) (hi : i + 6 ≤ N) (kk : ∀ M2, lh_ M2 N (k + 1) → go_W (mt_Ln nm) fr_A 1803 (l4_ i) [] M2 Q) : go_W (mt_Ln nm) fr_A 1332 (l4_ i) [] M Q := by
  obtain ⟨n, ta, tm, hre, hix, hxi⟩ := h.2
  have hl := lim_k hk
  obtain ⟨kt, hkt⟩ := hxi.2.2.2
  obtain ⟨v, hs⟩ := sm_waits (x1 := mm_i M 1 (i + 1)) (x2 := mm_i M 1 (i + 2)) hix
  have H := st_sm (K := fun M2 => go_W (mt_Ln nm) fr_A 1803 (l4_ i) [] M2 Q) h hre hs (xo_id hix hxi) kk
  exact lc_waits h.1.1 hN hi hre.1.1.1.1 h.1.2.1 H
theorem lk_share {M : mm_T} {N i k : Nat} {nm : String} {Q : Option pv_T → mm_T → Prop} (h : lh_ M N k) (hk : k < 512) (hN : N ≤ 3072) (hi : i + 6 ≤ N) (kk : ∀ M2, lh_ M2 N (k + 1) → go_W (mt_Ln nm) fr_A 1803 (l4_ i) [] M2 Q) : go_W (mt_Ln nm) fr_A 1365 (l4_ i) [] M Q := by
  obtain ⟨n, ta, tm, hre, hix, hxi⟩ := h.2
  have hl := lim_k hk
  obtain ⟨kt, hkt⟩ := hxi.2.2.2
  obtain ⟨v, hs⟩ := sm_share (x1 := mm_i M 1 (i + 1)) (x2 := mm_i M 1 (i + 2)) hix (ivG_sml hxi.2.2.1 (by omega))
  have H := st_sm (K := fun M2 => go_W (mt_Ln nm) fr_A 1803 (l4_ i) [] M2 Q) h hre hs (xo_id hix hxi) kk
  exact lc_share h.1.1 hN hi hre.1.1.1.1 h.1.2.1 H
theorem lk_path {M : mm_T} {N i k : Nat} {nm : String} {Q : Option pv_T → mm_T → Prop} (h : lh_ M N k) (hk : k < 512) (hN : N ≤ 3072) (hi : i + 6 ≤ N) (kk : ∀ M2, lh_ M2 N (k + 1) → go_W (mt_Ln nm) fr_A 1803 (l4_ i) [] M2 Q) : go_W (mt_Ln nm) fr_A 1398 (l4_ i) [] M Q := by
  obtain ⟨n, ta, tm, hre, hix, hxi⟩ := h.2
  have hl := lim_k hk
  obtain ⟨kt, hkt⟩ := hxi.2.2.2
  obtain ⟨v, hs⟩ := sm_path (x1 := mm_i M 1 (i + 1)) (x2 := mm_i M 1 (i + 2)) hix
  have H := st_sm (K := fun M2 => go_W (mt_Ln nm) fr_A 1803 (l4_ i) [] M2 Q) h hre hs (xo_id hix hxi) kk
  exact lc_path h.1.1 hN hi hre.1.1.1.1 h.1.2.1 H
theorem lk_ahead {M : mm_T} {N i k : Nat} {nm : String} {Q : Option pv_T → mm_T → Prop} (h : lh_ M N k) (hk : k < 512) (hN : N ≤ 3072) (hi : i + 6 ≤ N) (kk : ∀ M2, lh_ M2 N (k + 1) → go_W (mt_Ln nm) fr_A 1803 (l4_ i) [] M2 Q) : go_W (mt_Ln nm) fr_A 1431 (l4_ i) [] M Q := by
  obtain ⟨n, ta, tm, hre, hix, hxi⟩ := h.2
  have hl := lim_k hk
  obtain ⟨kt, hkt⟩ := hxi.2.2.2
  obtain ⟨v, hs⟩ := sq_ahead (x1 := mm_i M 1 (i + 1)) hix
  have H := st_sq (K := fun M2 => go_W (mt_Ln nm) fr_A 1803 (l4_ i) [] M2 Q) h hre hix hxi hs kk
  exact lc_ahead h.1.1 hN hi hre.1.1.1.1 h.1.2.1 H
theorem lk_turnOf {M : mm_T} {N i k : Nat} {nm : String} {Q : Option pv_T → mm_T → Prop} (h : lh_ M N k) (hk : k < 512) (hN : N ≤ 3072) (hi : i + 6 ≤ N) (kk : ∀ M2, lh_ M2 N (k + 1) → go_W (mt_Ln nm) fr_A 1803 (l4_ i) [] M2 Q) : go_W (mt_Ln nm) fr_A 1454 (l4_ i) [] M Q := by
  obtain ⟨n, ta, tm, hre, hix, hxi⟩ := h.2
  have hl := lim_k hk
  obtain ⟨kt, hkt⟩ := hxi.2.2.2
  obtain ⟨v, hs⟩ := sq_turnOf (x1 := mm_i M 1 (i + 1)) hix
  have H := st_sq (K := fun M2 => go_W (mt_Ln nm) fr_A 1803 (l4_ i) [] M2 Q) h hre hix hxi hs kk
  exact lc_turnOf h.1.1 hN hi hre.1.1.1.1 h.1.2.1 H
theorem lk_bestLane {M : mm_T} {N i k : Nat} {nm : String} {Q : Option pv_T → mm_T → Prop} (h : lh_ M N k) (hk : k < 512) (hN : N ≤ 3072) (hi : i + 6 ≤ N) (kk : ∀ M2, lh_ M2 N (k + 1) → go_W (mt_Ln nm) fr_A 1803 (l4_ i) [] M2 Q) : go_W (mt_Ln nm) fr_A 1477 (l4_ i) [] M Q := by
  obtain ⟨n, ta, tm, hre, hix, hxi⟩ := h.2
  have hl := lim_k hk
  obtain ⟨kt, hkt⟩ := hxi.2.2.2
  obtain ⟨v, hs⟩ := sq_bestLane (x1 := mm_i M 1 (i + 1)) (x2 := mm_i M 1 (i + 2)) hix (by omega)
  have H := st_sq (K := fun M2 => go_W (mt_Ln nm) fr_A 1803 (l4_ i) [] M2 Q) h hre hix hxi hs kk
  exact lc_bestLane h.1.1 hN hi hre.1.1.1.1 h.1.2.1 H
theorem lk_chain {M : mm_T} {N i k : Nat} {nm : String} {Q : Option pv_T → mm_T → Prop} (h : lh_ M N k) (hk : k < 512) (hN : N ≤ 3072) (hi : i + 6 ≤ N) (kk : ∀ M2, lh_ M2 N (k + 1) → go_W (mt_Ln nm) fr_A 1803 (l4_ i) [] M2 Q) : go_W (mt_Ln nm) fr_A 1510 (l4_ i) [] M Q := by
  obtain ⟨n, ta, tm, hre, hix, hxi⟩ := h.2
  have hl := lim_k hk
  obtain ⟨kt, hkt⟩ := hxi.2.2.2
  obtain ⟨v, hs⟩ := sm_chain (x1 := mm_i M 1 (i + 1)) (x2 := mm_i M 1 (i + 2)) hix
  have H := st_sm (K := fun M2 => go_W (mt_Ln nm) fr_A 1803 (l4_ i) [] M2 Q) h hre hs (xo_id hix hxi) kk
  exact lc_chain h.1.1 hN hi hre.1.1.1.1 h.1.2.1 H
theorem lk_lapse {M : mm_T} {N i k : Nat} {nm : String} {Q : Option pv_T → mm_T → Prop} (h : lh_ M N k) (hk : k < 512) (hN : N ≤ 3072) (hi : i + 6 ≤ N) (kk : ∀ M2, lh_ M2 N (k + 1) → go_W (mt_Ln nm) fr_A 1803 (l4_ i) [] M2 Q) : go_W (mt_Ln nm) fr_A 1543 (l4_ i) [] M Q := by
  obtain ⟨n, ta, tm, hre, hix, hxi⟩ := h.2
  have hl := lim_k hk
  obtain ⟨kt, hkt⟩ := hxi.2.2.2
  obtain ⟨v, hs⟩ := sq_lapse (x1 := mm_i M 1 (i + 1)) (x2 := mm_i M 1 (i + 2)) hix hl hxi
  have H := st_sq (K := fun M2 => go_W (mt_Ln nm) fr_A 1803 (l4_ i) [] M2 Q) h hre hix hxi hs kk
  exact lc_lapse h.1.1 hN hi hre.1.1.1.1 h.1.2.1 H
theorem lk_safe {M : mm_T} {N i k : Nat} {nm : String} {Q : Option pv_T → mm_T → Prop} (h : lh_ M N k) (hk : k < 512) (hN : N ≤ 3072) (hi : i + 6 ≤ N) (kk : ∀ M2, lh_ M2 N (k + 1) → go_W (mt_Ln nm) fr_A 1803 (l4_ i) [] M2 Q) : go_W (mt_Ln nm) fr_A 1576 (l4_ i) [] M Q := by
  obtain ⟨n, ta, tm, hre, hix, hxi⟩ := h.2
  have hl := lim_k hk
  obtain ⟨kt, hkt⟩ := hxi.2.2.2
  obtain ⟨v, hs⟩ := sm_safe (x1 := mm_i M 1 (i + 1)) hix
  have H := st_sm (K := fun M2 => go_W (mt_Ln nm) fr_A 1803 (l4_ i) [] M2 Q) h hre hs (xo_id hix hxi) kk
  exact lc_safe h.1.1 hN hi hre.1.1.1.1 h.1.2.1 H
theorem lk_finish {M : mm_T} {N i k : Nat} {nm : String} {Q : Option pv_T → mm_T → Prop} (h : lh_ M N k) (hk : k < 512) (hN : N ≤ 3072) (hi : i + 6 ≤ N) (kk : ∀ M2, lh_ M2 N (k + 1) → go_W (mt_Ln nm) fr_A 1803 (l4_ i) [] M2 Q) : go_W (mt_Ln nm) fr_A 1599 (l4_ i) [] M Q := by
  obtain ⟨n, ta, tm, hre, hix, hxi⟩ := h.2
  have hl := lim_k hk
  obtain ⟨kt, hkt⟩ := hxi.2.2.2
  obtain ⟨v, hs⟩ := sq_finish (x1 := mm_i M 1 (i + 1)) (x2 := mm_i M 1 (i + 2)) hix hl
  have H := st_sq (K := fun M2 => go_W (mt_Ln nm) fr_A 1803 (l4_ i) [] M2 Q) h hre hix hxi hs kk
  exact lc_finish h.1.1 hN hi hre.1.1.1.1 h.1.2.1 H
theorem lk_empties {M : mm_T} {N i k : Nat} {nm : String} {Q : Option pv_T → mm_T → Prop} (h : lh_ M N k) (hk : k < 512) (hN : N ≤ 3072) (hi : i + 6 ≤ N) (kk : ∀ M2, lh_ M2 N (k + 1) → go_W (mt_Ln nm) fr_A 1803 (l4_ i) [] M2 Q) : go_W (mt_Ln nm) fr_A 1632 (l4_ i) [] M Q := by
  obtain ⟨n, ta, tm, hre, hix, hxi⟩ := h.2
  have hl := lim_k hk
  obtain ⟨kt, hkt⟩ := hxi.2.2.2
  obtain ⟨v, hs⟩ := sq_empties (x1 := mm_i M 1 (i + 1)) (x2 := mm_i M 1 (i + 2)) hix hl
  have H := st_sq (K := fun M2 => go_W (mt_Ln nm) fr_A 1803 (l4_ i) [] M2 Q) h hre hix hxi hs kk
  exact lc_empties h.1.1 hN hi hre.1.1.1.1 h.1.2.1 H
theorem lk_enough {M : mm_T} {N i k : Nat} {nm : String} {Q : Option pv_T → mm_T → Prop} (h : lh_ M N k) (hk : k < 512) (hN : N ≤ 3072) (hi : i + 6 ≤ N) (kk : ∀ M2, lh_ M2 N (k + 1) → go_W (mt_Ln nm) fr_A 1803 (l4_ i) [] M2 Q) : go_W (mt_Ln nm) fr_A 1665 (l4_ i) [] M Q := by
  obtain ⟨n, ta, tm, hre, hix, hxi⟩ := h.2
  have hl := lim_k hk
  obtain ⟨kt, hkt⟩ := hxi.2.2.2
  obtain ⟨v, hs⟩ := sq_enough (x1 := mm_i M 1 (i + 1)) hix hl
  have H := st_sq (K := fun M2 => go_W (mt_Ln nm) fr_A 1803 (l4_ i) [] M2 Q) h hre hix hxi hs kk
  exact lc_enough h.1.1 hN hi hre.1.1.1.1 h.1.2.1 H
theorem lk_hangs {M : mm_T} {N i k : Nat} {nm : String} {Q : Option pv_T → mm_T → Prop} (h : lh_ M N k) (hk : k < 512) (hN : N ≤ 3072) (hi : i + 6 ≤ N) (kk : ∀ M2, lh_ M2 N (k + 1) → go_W (mt_Ln nm) fr_A 1803 (l4_ i) [] M2 Q) : go_W (mt_Ln nm) fr_A 1688 (l4_ i) [] M Q := by
  obtain ⟨n, ta, tm, hre, hix, hxi⟩ := h.2
  have hl := lim_k hk
  obtain ⟨kt, hkt⟩ := hxi.2.2.2
  have H := st_sm (K := fun M2 => go_W (mt_Ln nm) fr_A 1803 (l4_ i) [] M2 Q) h hre (sm_hangs (x1 := mm_i M 1 (i + 1)) hix) (xo_hng hix hxi) kk
  exact lc_hangs h.1.1 hN hi hre.1.1.1.1 h.1.2.1 H
theorem lk_spread {M : mm_T} {N i k : Nat} {nm : String} {Q : Option pv_T → mm_T → Prop} (h : lh_ M N k) (hk : k < 512) (hN : N ≤ 3072) (hi : i + 6 ≤ N) (kk : ∀ M2, lh_ M2 N (k + 1) → go_W (mt_Ln nm) fr_A 1803 (l4_ i) [] M2 Q) : go_W (mt_Ln nm) fr_A 1711 (l4_ i) [] M Q := by
  obtain ⟨n, ta, tm, hre, hix, hxi⟩ := h.2
  have hl := lim_k hk
  obtain ⟨kt, hkt⟩ := hxi.2.2.2
  obtain ⟨v, hs⟩ := sm_spread (x1 := mm_i M 1 (i + 1)) hix
  have H := st_sm (K := fun M2 => go_W (mt_Ln nm) fr_A 1803 (l4_ i) [] M2 Q) h hre hs (xo_id hix hxi) kk
  exact lc_spread h.1.1 hN hi hre.1.1.1.1 h.1.2.1 H
theorem lk_blamed {M : mm_T} {N i k : Nat} {nm : String} {Q : Option pv_T → mm_T → Prop} (h : lh_ M N k) (hk : k < 512) (hN : N ≤ 3072) (hi : i + 6 ≤ N) (kk : ∀ M2, lh_ M2 N (k + 1) → go_W (mt_Ln nm) fr_A 1803 (l4_ i) [] M2 Q) : go_W (mt_Ln nm) fr_A 1734 (l4_ i) [] M Q := by
  obtain ⟨n, ta, tm, hre, hix, hxi⟩ := h.2
  have hl := lim_k hk
  obtain ⟨kt, hkt⟩ := hxi.2.2.2
  obtain ⟨v, hs⟩ := sm_blamed (x1 := mm_i M 1 (i + 1)) hix
  have H := st_sm (K := fun M2 => go_W (mt_Ln nm) fr_A 1803 (l4_ i) [] M2 Q) h hre hs (xo_id hix hxi) kk
  exact lc_blamed h.1.1 hN hi hre.1.1.1.1 h.1.2.1 H
theorem lk_worst {M : mm_T} {N i k : Nat} {nm : String} {Q : Option pv_T → mm_T → Prop} (h : lh_ M N k) (hk : k < 512) (hN : N ≤ 3072) (hi : i + 6 ≤ N) (kk : ∀ M2, lh_ M2 N (k + 1) → go_W (mt_Ln nm) fr_A 1803 (l4_ i) [] M2 Q) : go_W (mt_Ln nm) fr_A 1757 (l4_ i) [] M Q := by
  obtain ⟨n, ta, tm, hre, hix, hxi⟩ := h.2
  have hl := lim_k hk
  obtain ⟨kt, hkt⟩ := hxi.2.2.2
  obtain ⟨v, hs⟩ := sm_worst hix hxi.2.1
  have H := st_sm (K := fun M2 => go_W (mt_Ln nm) fr_A 1803 (l4_ i) [] M2 Q) h hre hs (xo_id hix hxi) kk
  exact lc_worst h.1.1 hN hi hre.1.1.1.1 h.1.2.1 H
theorem lk_log {M : mm_T} {N i k : Nat} {nm : String} {Q : Option pv_T → mm_T → Prop} (h : lh_ M N k) (hk : k < 512) (hN : N ≤ 3072) (hi : i + 6 ≤ N) (kk : ∀ M2, lh_ M2 N (k + 1) → go_W (mt_Ln nm) fr_A 1803 (l4_ i) [] M2 Q) : go_W (mt_Ln nm) fr_A 1770 (l4_ i) [] M Q := by
  obtain ⟨n, ta, tm, hre, hix, hxi⟩ := h.2
  have hl := lim_k hk
  obtain ⟨kt, hkt⟩ := hxi.2.2.2
  obtain ⟨v, hs⟩ := sm_log (x1 := mm_i M 1 (i + 1)) (x2 := mm_i M 1 (i + 2)) hix hl
  have H := st_sm (K := fun M2 => go_W (mt_Ln nm) fr_A 1803 (l4_ i) [] M2 Q) h hre hs (xo_id hix hxi) kk
  exact lc_log h.1.1 hN hi hre.1.1.1.1 h.1.2.1 H
