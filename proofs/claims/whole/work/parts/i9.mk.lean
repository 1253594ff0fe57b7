/-! the class is made: contracts of its constructors -/
section MkC
variable {M M0 M' M'' : mm_T} {a b c : Nat}
theorem nn_w {t n : Nat} : mm_n (mm_w M t n) = mm_n M + 1 := rfl
theorem nn_pr {k x : Nat} : mm_n (mm_pr M a k x) = mm_n M := rfl
theorem nn_pi {k : Nat} {x : Int32} : mm_n (mm_pi M a k x) = mm_n M := rfl
theorem nn_ws {f : Nat → Int32} : mm_n (mm_ws M a f) = mm_n M := rfl
theorem kk_w {t n b : Nat} : mm_k (mm_w M t n) b = if b = mm_n M then (t, n) else mm_k M b := by
  show (if b < M.1 + 1 then (if b = M.1 then (t, n) else M.2.1 b) else (0, 0)) = if b = M.1 then (t, n) else if b < M.1 then M.2.1 b else (0, 0)
  by_cases h : b = M.1
  · rw [if_pos h, if_pos h, if_pos (by omega)]
  · rw [if_neg h, if_neg h]
    by_cases q : b < M.1
    · rw [if_pos q, if_pos (by omega)]
    · rw [if_neg q, if_neg (by omega)]
theorem kk_pr {k x b : Nat} : mm_k (mm_pr M a k x) b = mm_k M b := rfl
theorem kk_pi {k b : Nat} {x : Int32} : mm_k (mm_pi M a k x) b = mm_k M b := rfl
theorem kk_ws {f : Nat → Int32} {b : Nat} : mm_k (mm_ws M a f) b = mm_k M b := rfl
theorem ii_w {t n b j : Nat} : mm_i (mm_w M t n) b j = if b = mm_n M then 0 else mm_i M b j := rfl
theorem rr_w {t n b j : Nat} : mm_r (mm_w M t n) b j = if b = mm_n M then 0 else mm_r M b j := rfl
theorem ii_pr {k x b j : Nat} : mm_i (mm_pr M a k x) b j = mm_i M b j := rfl
theorem rr_pi {k b j : Nat} {x : Int32} : mm_r (mm_pi M a k x) b j = mm_r M b j := rfl
theorem ii_ws {f : Nat → Int32} {b j : Nat} : mm_i (mm_ws M a f) b j = if b = a then f j else mm_i M b j := rfl
theorem rr_ws {f : Nat → Int32} {b j : Nat} : mm_r (mm_ws M a f) b j = mm_r M b j := rfl
/-- slots in all -/
def tt_ (M : mm_T) : Nat := mm_t M (mm_n M)
theorem tt_w {t n : Nat} (h : 5 ≤ mm_n M) : tt_ (mm_w M t n) = tt_ M + n := mm_t_w h
theorem tt_pr {k x : Nat} : tt_ (mm_pr M a k x) = tt_ M := mm_t_eq (fun _ _ => rfl)
theorem tt_pi {k : Nat} {x : Int32} : tt_ (mm_pi M a k x) = tt_ M := mm_t_eq (fun _ _ => rfl)
theorem tt_ws {f : Nat → Int32} : tt_ (mm_ws M a f) = tt_ M := mm_t_eq (fun _ _ => rfl)
/-- grown: what was there is as it was, but for the cell a -/
def gr_ (M M' : mm_T) (a : Nat) : Prop := mm_n M ≤ mm_n M' ∧ ∀ b, b < mm_n M → mm_k M' b = mm_k M b ∧ (b ≠ a → (∀ j, mm_i M' b j = mm_i M b j) ∧ (∀ j, mm_l M' b j = mm_l M b j) ∧ ∀ j, mm_r M' b j = mm_r M b j)
theorem gr_rf : gr_ M M a := ⟨Nat.le_refl _, fun b _ => ⟨rfl, fun _ => ⟨fun _ => rfl, fun _ => rfl, fun _ => rfl⟩⟩⟩
theorem gr_cl (h : gr_ M M' a) (h' : gr_ M' M'' c) (hc : c = a ∨ mm_n M ≤ c) : gr_ M M'' a := by
  refine ⟨Nat.le_trans h.1 h'.1, fun b hb => ?_⟩
  obtain ⟨h1, h2⟩ := h.2 b hb
  obtain ⟨h3, h4⟩ := h'.2 b (Nat.lt_of_lt_of_le hb h.1)
  refine ⟨h3.trans h1, fun q => ?_⟩
  obtain ⟨x1, x2, x3⟩ := h2 q
  obtain ⟨y1, y2, y3⟩ := h4 (by omega)
  exact ⟨fun j => (y1 j).trans (x1 j), fun j => (y2 j).trans (x2 j), fun j => (y3 j).trans (x3 j)⟩
theorem gr_tr (h : gr_ M M' a) (h' : gr_ M' M'' a) : gr_ M M'' a := gr_cl h h' (Or.inl rfl)
theorem gr_w0 {t n : Nat} : gr_ M (mm_w M t n) a := ⟨Nat.le_succ _, fun b hb => ⟨kk_w.trans (if_neg (by omega)), fun _ => ⟨fun _ => if_neg (Nat.ne_of_lt hb), fun _ => if_neg (Nat.ne_of_lt hb), fun _ => if_neg (Nat.ne_of_lt hb)⟩⟩⟩
theorem gr_pr0 {k x : Nat} : gr_ M (mm_pr M a k x) a := ⟨Nat.le_refl _, fun b _ => ⟨rfl, fun q => ⟨fun _ => rfl, fun _ => rfl, fun _ => if_neg (fun z => q z.1)⟩⟩⟩
theorem gr_pi0 {k : Nat} {x : Int32} : gr_ M (mm_pi M a k x) a := ⟨Nat.le_refl _, fun b _ => ⟨rfl, fun q => ⟨fun _ => if_neg (fun z => q z.1), fun _ => rfl, fun _ => rfl⟩⟩⟩
theorem gr_ws0 {f : Nat → Int32} : gr_ M (mm_ws M a f) a := ⟨Nat.le_refl _, fun b _ => ⟨rfl, fun q => ⟨fun _ => if_neg q, fun _ => rfl, fun _ => rfl⟩⟩⟩
theorem gr_w {t n : Nat} (h : gr_ M M' a) : gr_ M (mm_w M' t n) a := gr_tr h gr_w0
theorem gr_pr {k x : Nat} (h : gr_ M M' a) (hc : c = a ∨ mm_n M ≤ c) : gr_ M (mm_pr M' c k x) a := gr_cl h gr_pr0 hc
theorem gr_pi {k : Nat} {x : Int32} (h : gr_ M M' a) (hc : c = a ∨ mm_n M ≤ c) : gr_ M (mm_pi M' c k x) a := gr_cl h gr_pi0 hc
theorem gr_ws {f : Nat → Int32} (h : gr_ M M' a) (hc : c = a ∨ mm_n M ≤ c) : gr_ M (mm_ws M' c f) a := gr_cl h gr_ws0 hc
theorem gr_k {t n : Nat} (h : gr_ M M' a) (hk : mm_k M b = (t, n)) (h0 : t ≠ 0 ∨ n ≠ 0) : mm_k M' b = (t, n) := by
  rw [(h.2 b (mm_k_lt (by rw [hk]; intro q; simp at q; omega))).1]
  exact hk
theorem gr_ak {y n : Nat} (h : gr_ M M' a) (hk : ak_ M b y n) : ak_ M' b y n := by
  obtain ⟨tg, h1, h2⟩ := hk
  exact ⟨tg, gr_k h h1 (Or.inl (by omega)), h2⟩
theorem gr_r (h : gr_ M M' a) (hb : b < mm_n M) (q : b ≠ a) (j : Nat) : mm_r M' b j = mm_r M b j := ((h.2 b hb).2 q).2.2 j
theorem gr_i (h : gr_ M M' a) (hb : b < mm_n M) (q : b ≠ a) (j : Nat) : mm_i M' b j = mm_i M b j := ((h.2 b hb).2 q).1 j
def lnv (j : Nat) : Int32 := if j = 1 then 1 else if j = 2 then 12 else if j = 3 then 6 else if j = 12 then -1 else if j = 13 then -1 else 0
def ln_ (M : mm_T) (b l : Nat) : Prop := mm_k M (b + 6 + l) = (3, 14) ∧ mm_r M (b + 1) l = b + 6 + l ∧ mm_i M (b + 6 + l) 0 = nI l ∧ ∀ j, 1 ≤ j → j < 14 → mm_i M (b + 6 + l) j = lnv j
def lnq_ (M0 M : mm_T) (b c : Nat) : Prop := gr_ M0 M (b + 1) ∧ mm_n M = b + 6 + c ∧ tt_ M = tt_ M0 + 14 * c ∧ ∀ l, l < c → ln_ M b l
theorem lnv_mk {N : mm_T} {a : Nat} {x : Int32} (hz : ∀ j, mm_i N a j = 0) (j : Nat) (h1 : 1 ≤ j) : mm_i (mm_pi (mm_pi (mm_pi (mm_pi (mm_pi (mm_pi (mm_pi N a 1 1) a 2 12) a 3 6) a 4 0) a 12 (-1)) a 13 (-1)) a 0 x) a j = lnv j := by
  rw [mi_pij (by omega), mi_pi, mi_pi, mi_pi, mi_pi, mi_pi, mi_pi, hz j]
  unfold lnv
  by_cases e1 : j = 1
  · subst e1; simp
  by_cases e2 : j = 2
  · subst e2; simp
  by_cases e3 : j = 3
  · subst e3; simp
  by_cases e4 : j = 4
  · subst e4; simp
  by_cases e12 : j = 12
  · subst e12; simp
  by_cases e13 : j = 13
  · subst e13; simp
  rw [if_neg (fun z => e13 z.2), if_neg (fun z => e12 z.2), if_neg (fun z => e4 z.2), if_neg (fun z => e3 z.2), if_neg (fun z => e2 z.2), if_neg (fun z => e1 z.2), if_neg e1, if_neg e2, if_neg e3, if_neg e12, if_neg e13]
theorem cw_lanes {P : mm_T → Prop} (hk : mm_k M0 b = (0, 4)) (h0 : mm_r M0 b 0 = b + 1) (ha : ak_ M0 (b + 1) 2 5) (h5 : 5 ≤ b) (hb : b ≤ 100) (hn0 : mm_n M0 = b + 6) (ht : tt_ M0 ≤ 100000) (K : ∀ M', lnq_ M0 M' b 5 → P M') : ∀ (j c : Nat) (M : mm_T), c + j = 5 → lnq_ M0 M b c → cw_v mt_X0_init 48 [some (pv_r b), some (pv_i (nI c))] [] M P := by
  intro j
  induction j with
  | zero =>
    intro c M e q
    obtain rfl : c = 5 := by omega
    exact wc_X0_init_48 (gr_k q.1 hk (by decide)) ⟨fun _ => K M q, fun z => absurd (by decide) z⟩
  | succ j ih =>
    intro c M e q
    obtain ⟨g, hn, htt, hl⟩ := id q
    have hlt : ¬ (5 : Int32) ≤ nI c := by
      have : c = 0 ∨ c = 1 ∨ c = 2 ∨ c = 3 ∨ c = 4 := by omega
      rcases this with rfl | rfl | rfl | rfl | rfl <;> decide
    refine wc_X0_init_48 (gr_k g hk (by decide)) ⟨fun z => absurd z hlt, fun _ => ⟨⟨by rw [hn]; unfold nb_; omega, by have : tt_ M = mm_t M (mm_n M) := rfl; unfold sb_; omega⟩, fun M1 e1 => ?_⟩⟩
    refine wc_X3_init_0 (by rw [e1]; exact mm_k_w) (fun A1 g1 A2 g2 A3 g3 A4 g4 A5 g5 A6 g6 A7 g7 => ?_)
    have r0 : mm_r M b 0 = b + 1 := by rw [gr_r g (by omega) (by omega), h0]
    have g17 : gr_ M0 A7 (b + 1) := by
      rw [g7, g6, g5, g4, g3, g2, g1, e1]
      have z : mm_n M = b + 1 ∨ mm_n M0 ≤ mm_n M := Or.inr (by omega)
      exact gr_pi (gr_pi (gr_pi (gr_pi (gr_pi (gr_pi (gr_pi (gr_w g) z) z) z) z) z) z) z
    refine ⟨5, by rw [r0]; exact gr_ak g17 ha, c, ⟨rfl, by omega⟩, fun M11 e11 => ih (c + 1) M11 (by omega) ?_⟩
    rw [r0] at e11
    have z1 : ∀ j, mm_i M1 (mm_n M) j = 0 := fun j => by rw [e1]; exact mi_wn
    have old : ∀ x j, x ≠ mm_n M → mm_i A7 x j = mm_i M x j := fun x j h => by
      rw [g7, mi_pia h, g6, mi_pia h, g5, mi_pia h, g4, mi_pia h, g3, mi_pia h, g2, mi_pia h, g1, mi_pia h, e1, mi_w h]
    have kA : ∀ x, mm_k A7 x = if x = mm_n M then (3, 14) else mm_k M x := fun x => by
      rw [g7, g6, g5, g4, g3, g2, g1, e1]
      exact kk_w
    have rA : ∀ x j, mm_r A7 x j = if x = mm_n M then 0 else mm_r M x j := fun x j => by
      rw [g7, g6, g5, g4, g3, g2, g1, e1]
      rfl
    refine ⟨by rw [e11]; exact gr_pr g17 (Or.inl rfl), ?_, ?_, fun l hl' => ?_⟩
    · rw [e11, nn_pr, g7, g6, g5, g4, g3, g2, g1, e1]
      show mm_n M + 1 = _
      omega
    · rw [e11, tt_pr, g7, g6, g5, g4, g3, g2, g1, e1]
      rw [tt_pi, tt_pi, tt_pi, tt_pi, tt_pi, tt_pi, tt_pi, tt_w (by omega), htt]
      omega
    · by_cases hc : l = c
      · subst hc
        have en : b + 6 + l = mm_n M := hn.symm
        refine ⟨?_, by rw [e11, mr_prs, hn], ?_, fun j q1 q2 => ?_⟩
        · rw [e11, kk_pr, kA, if_pos en]
        · rw [e11, ii_pr, g7, en, mi_pis]
        · rw [e11, ii_pr, en, g7, g6, g5, g4, g3, g2, g1]
          exact lnv_mk z1 j q1
      · obtain ⟨o1, o2, o3, o4⟩ := hl l (by omega)
        refine ⟨?_, ?_, ?_, fun j q1 q2 => ?_⟩
        · rw [e11, kk_pr, kA, if_neg (by omega), o1]
        · rw [e11, mr_prj hc, rA, if_neg (by omega), o2]
        · rw [e11, ii_pr, old _ _ (by omega), o3]
        · rw [e11, ii_pr, old _ _ (by omega), o4 j q1 q2]
def fbd_ (M : mm_T) (b : Nat) (f : Nat → Int32) : Prop := bS M b ∧ (∀ l, l < 5 → ∀ j, 1 ≤ j → j < 14 → mm_i M (b + 6 + l) j = lnv j) ∧ (∀ s, mm_i M (b + 4) s = 0) ∧ (∀ k, mm_i M (b + 5) k = f k) ∧ mm_i M (b + 2) 1 = 0
theorem bS_gr (h : bS M b) (g : gr_ M M' a) (ha : a < b ∨ b + 11 ≤ a) (hn : b + 11 ≤ mm_n M) : bS M' b := by
  obtain ⟨h1, h2, h3, h4, h5, h6, h7, h8, h9, h10, h11, h12⟩ := h
  have r : ∀ c j, c < 11 → mm_r M' (b + c) j = mm_r M (b + c) j := fun c j q => gr_r g (by omega) (by omega) j
  refine ⟨gr_k g h1 (by decide), (r 0 0 (by decide)).trans h2, gr_ak g h3, (r 0 1 (by decide)).trans h4, gr_k g h5 (by decide), (r 2 0 (by decide)).trans h6, gr_ak g h7, (r 0 2 (by decide)).trans h8, gr_ak g h9, (r 0 3 (by decide)).trans h10, gr_ak g h11, fun l q => ?_⟩
  obtain ⟨x1, x2, x3⟩ := h12 l q
  exact ⟨gr_k g x1 (by decide), (r 1 l (by decide)).trans x2, (gr_i g (by omega) (by omega) 0).trans x3⟩
theorem fbd_gr {f : Nat → Int32} (h : fbd_ M b f) (g : gr_ M M' a) (ha : a < b ∨ b + 11 ≤ a) (hn : b + 11 ≤ mm_n M) : fbd_ M' b f := by
  obtain ⟨h1, h2, h3, h4, h5⟩ := h
  exact ⟨bS_gr h1 g ha hn, fun l q j q1 q2 => (gr_i g (by omega) (by omega) j).trans (h2 l q j q1 q2), fun s => (gr_i g (by omega) (by omega) s).trans (h3 s), fun k => (gr_i g (by omega) (by omega) k).trans (h4 k), (gr_i g (by omega) (by omega) 1).trans h5⟩
theorem cs_row {n : Nat} {P : mm_T → Prop} (hk : mm_k M a = (4, 2)) (hn : n ≤ 1000) (h1 : mm_n M ≤ 1000) (h2 : tt_ M ≤ 100000) (K : P (mm_pr (mm_w M 84 n) a 0 (mm_n M))) : cs_v mt_X4_init [pv_r a, pv_i (nI n)] M P :=
  wc_X4_init_0 hk ⟨n, ⟨rfl, by omega⟩, ⟨by unfold nb_; omega, by have : tt_ M = mm_t M (mm_n M) := rfl; unfold sb_; omega⟩, fun M2 e2 M5 e5 => by rw [e5, e2]; exact K⟩
/-- a board is made -/
theorem cs_board {P : mm_T → Prop} (hk : mm_k M b = (0, 4)) (hn : mm_n M = b + 1) (h5 : 5 ≤ b) (hb : b ≤ 100) (ht : tt_ M ≤ 50000) (h2 : mm_k M 2 = (15, 6)) (K : ∀ M', gr_ M M' b → mm_n M' = b + 11 → tt_ M' = tt_ M + 138 → fbd_ M' b (mm_i M 2) → P M') : cs_v mt_X0_init [pv_r b] M P := by
  have rm : ∀ {N : mm_T} (n : Nat), mm_n N ≤ 1000 → tt_ N ≤ 100000 → n ≤ 1000 → mm_n N + 1 ≤ nb_ ∧ mm_t N (mm_n N) + n ≤ sb_ := fun {N} n q1 q2 q3 => ⟨by unfold nb_; omega, by have : tt_ N = mm_t N (mm_n N) := rfl; unfold sb_; omega⟩
  refine wc_X0_init_0 hk ⟨rm 5 (by omega) (by omega) (by decide), fun M1 e1 M4 e4 => ?_⟩
  have n4 : mm_n M4 = b + 2 := by rw [e4, e1, nn_pr, nn_w]; omega
  have t4 : tt_ M4 = tt_ M + 5 := by rw [e4, e1, tt_pr, tt_w (by omega)]
  have g4 : gr_ M M4 b := by rw [e4, e1]; exact gr_pr (gr_w gr_rf) (Or.inl rfl)
  refine ⟨rm 2 (by omega) (by omega) (by decide), fun M7 e7 => ?_⟩
  have n7 : mm_n M7 = b + 3 := by rw [e7, nn_w]; omega
  have t7 : tt_ M7 = tt_ M + 7 := by rw [e7, tt_w (by omega)]; omega
  have k7 : mm_k M7 (mm_n M4) = (4, 2) := by rw [e7]; exact mm_k_w
  show cs_v mt_X4_init [pv_r (mm_n M4), pv_i (nI 48)] M7 _
  refine cs_row k7 (by decide) (by omega) (by omega) (fun M15 e15 => ?_)
  have n15 : mm_n M15 = b + 4 := by rw [e15, nn_pr, nn_pr, nn_w]; omega
  have t15 : tt_ M15 = tt_ M + 55 := by rw [e15, tt_pr, tt_pr, tt_w (by omega)]; omega
  have g15 : gr_ M M15 b := by rw [e15, e7]; exact gr_pr (gr_pr (gr_w (gr_w g4)) (Or.inr (by omega))) (Or.inl rfl)
  refine ⟨rm 7 (by omega) (by omega) (by decide), fun M19 e19 M24 e24 => ?_⟩
  have n24 : mm_n M24 = b + 5 := by rw [e24, e19, nn_pr, nn_w]; omega
  have t24 : tt_ M24 = tt_ M + 62 := by rw [e24, e19, tt_pr, tt_w (by omega)]; omega
  have g24 : gr_ M M24 b := by rw [e24, e19]; exact gr_pr (gr_w g15) (Or.inl rfl)
  refine ⟨gr_k g24 h2 (by decide), rm 6 (by omega) (by omega) (by decide), fun M30 e30 M36 e36 => ?_⟩
  have n36 : mm_n M36 = b + 6 := by rw [e36, e30, nn_pr, nn_ws, nn_w]; omega
  have t36 : tt_ M36 = tt_ M + 68 := by rw [e36, e30, tt_pr, tt_ws, tt_w (by omega)]; omega
  have g36 : gr_ M M36 b := by rw [e36, e30]; exact gr_pr (gr_ws (gr_w g24) (Or.inr (by omega))) (Or.inl rfl)
  have i2 : ∀ j, mm_i M24 2 j = mm_i M 2 j := fun j => gr_i g24 (by omega) (by omega) j
  have E : M36 = mm_pr (mm_ws (mm_w (mm_pr (mm_w (mm_pr (mm_pr (mm_w (mm_w (mm_pr (mm_w M 60 5) b 0 (b + 1)) 4 2) 84 48) (b + 2) 0 (b + 3)) b 1 (b + 2)) 20 7) b 2 (b + 4)) 20 6) (b + 5) (mm_i M24 2)) b 3 (b + 5) := by
    rw [e36, e30, n24, e24, n15, e19, e15, n7, n4, e7, e4, hn, e1]
  have kb : mm_k M36 b = (0, 4) := gr_k g36 hk (by decide)
  have r0 : mm_r M36 b 0 = b + 1 := by rw [E]; simp [mr_pr, rr_w, rr_ws, nn_w, nn_pr, nn_ws, hn, Nat.add_assoc]
  have r1 : mm_r M36 b 1 = b + 2 := by rw [E]; simp [mr_pr, rr_w, rr_ws, nn_w, nn_pr, nn_ws, hn, Nat.add_assoc]
  have r2 : mm_r M36 b 2 = b + 4 := by rw [E]; simp [mr_pr, rr_w, rr_ws, nn_w, nn_pr, nn_ws, hn, Nat.add_assoc]
  have r3 : mm_r M36 b 3 = b + 5 := by rw [E]; simp [mr_pr, rr_w, rr_ws, nn_w, nn_pr, nn_ws, hn, Nat.add_assoc]
  have r4 : mm_r M36 (b + 2) 0 = b + 3 := by rw [E]; simp [mr_pr, rr_w, rr_ws, nn_w, nn_pr, nn_ws, hn, Nat.add_assoc]
  have k1 : mm_k M36 (b + 1) = (60, 5) := by rw [E]; simp [kk_pr, kk_w, kk_ws, nn_w, nn_pr, nn_ws, hn, Nat.add_assoc]
  have k2 : mm_k M36 (b + 2) = (4, 2) := by rw [E]; simp [kk_pr, kk_w, kk_ws, nn_w, nn_pr, nn_ws, hn, Nat.add_assoc]
  have k3 : mm_k M36 (b + 3) = (84, 48) := by rw [E]; simp [kk_pr, kk_w, kk_ws, nn_w, nn_pr, nn_ws, hn, Nat.add_assoc]
  have k4 : mm_k M36 (b + 4) = (20, 7) := by rw [E]; simp [kk_pr, kk_w, kk_ws, nn_w, nn_pr, nn_ws, hn, Nat.add_assoc]
  have k5 : mm_k M36 (b + 5) = (20, 6) := by rw [E]; simp [kk_pr, kk_w, kk_ws, nn_w, nn_pr, nn_ws, hn, Nat.add_assoc]
  have i4 : ∀ j, mm_i M36 (b + 4) j = 0 := fun j => by rw [E]; simp [ii_pr, ii_w, ii_ws, nn_w, nn_pr, nn_ws, hn, Nat.add_assoc]
  have i5 : ∀ j, mm_i M36 (b + 5) j = mm_i M 2 j := fun j => by rw [← i2 j, E]; simp [ii_pr, ii_w, ii_ws, nn_w, nn_pr, nn_ws, hn, Nat.add_assoc]
  have ir : mm_i M36 (b + 2) 1 = 0 := by rw [E]; simp [ii_pr, ii_w, ii_ws, nn_w, nn_pr, nn_ws, hn, Nat.add_assoc]
  have a1 : ak_ M36 (b + 1) 2 5 := ⟨60, k1, by decide, by decide, by decide, rfl⟩
  have a3 : ak_ M36 (b + 3) 3 48 := ⟨84, k3, by decide, by decide, by decide, rfl⟩
  have a4 : ak_ M36 (b + 4) 0 7 := ⟨20, k4, by decide, by decide, by decide, rfl⟩
  have a5 : ak_ M36 (b + 5) 0 6 := ⟨20, k5, by decide, by decide, by decide, rfl⟩
  show cw_v mt_X0_init 48 [some (pv_r b), some (pv_i (nI 0))] [] M36 P
  refine cw_lanes kb r0 a1 h5 hb n36 (by omega) (fun M' q => ?_) 5 0 M36 rfl ⟨gr_rf, by rw [n36], by omega, fun l hl => absurd hl (by omega)⟩
  obtain ⟨g, hn', htt, hl⟩ := q
  refine K M' (gr_cl g36 g (Or.inr (by omega))) (by omega) (by omega) ?_
  have r : ∀ c j, c < 6 → c ≠ 1 → mm_r M' (b + c) j = mm_r M36 (b + c) j := fun c j q q' => gr_r g (by omega) (by omega) j
  have i : ∀ c j, c < 6 → c ≠ 1 → mm_i M' (b + c) j = mm_i M36 (b + c) j := fun c j q q' => gr_i g (by omega) (by omega) j
  refine ⟨⟨gr_k g kb (by decide), (r 0 0 (by decide) (by decide)).trans r0, gr_ak g a1, (r 0 1 (by decide) (by decide)).trans r1, gr_k g k2 (by decide), (r 2 0 (by decide) (by decide)).trans r4, gr_ak g a3, (r 0 2 (by decide) (by decide)).trans r2, gr_ak g a4, (r 0 3 (by decide) (by decide)).trans r3, gr_ak g a5, fun l q => ?_⟩, fun l q => (hl l q).2.2.2, fun s => (i 4 s (by decide) (by decide)).trans (i4 s), fun k => (i 5 k (by decide) (by decide)).trans (i5 k), (i 2 1 (by decide) (by decide)).trans ir⟩
  exact ⟨(hl l q).1, (hl l q).2.1, (hl l q).2.2.1⟩
end MkC
