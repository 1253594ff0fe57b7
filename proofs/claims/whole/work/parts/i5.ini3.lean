/-! the reference is made: contract of its constructor -/
section Ini3
variable {M : mm_T} {m : Nat} {t : mt_T} {fr : Nat → Bool} {pc : Nat} {ls : List (Option pv_T)} {st : List pv_T}
theorem go_weak {Q Q' : Option pv_T → mm_T → Prop} (h : ∀ r N, Q r N → Q' r N) (k : go_W t fr pc ls st M Q) : go_W t fr pc ls st M Q' := by
  intro cx l p e s m args below meth c H locs cells slots n0 s0 L F I N hl
  refine go_mono (fun u hu => ?_) (k cx l p e s m args below meth c H locs cells slots n0 s0 L F I N hl)
  obtain ⟨o, h1, h2, ⟨r, M', h3, h4, h5⟩, h7⟩ := hu
  exact ⟨o, h1, h2, ⟨r, M', h3, h r M' h4, h5⟩, h7⟩
theorem mk_0 (hk : mm_k M m = (11, 22)) (hn : mm_n M = m + 1) : mk_ M M m 0 0 := ⟨hn, by rw [hn]; rfl, fun a _ => ⟨rfl, fun _ => rfl, fun _ => rfl, fun _ => rfl⟩, hk, fun i q => by omega⟩
theorem go_init11 (hk : mm_k M m = (11, 22)) (hn : mm_n M = m + 1) (h5 : 5 ≤ m) (hm : m ≤ 1000) (ht : mm_t M (m + 1) + 40000 ≤ sb_) (hz : ∀ j, mm_i M m j = 0) {P : mm_T → Prop} (K : ∀ B I, mm_n B = m + 13 → rf_ok B m → (∀ a, a < m → mm_k B a = mm_k M a ∧ (∀ j, I a j = mm_i M a j) ∧ (∀ j, mm_l B a j = mm_l M a j) ∧ ∀ j, mm_r B a j = mm_r M a j) → mm_l B m 14 = 0 → mm_t B (mm_n B) = mm_t M (m + 1) + 32796 → ix_ I m 0 0 0 0 0 → xi_ I m 0 0 → (∀ j, I (m + 3) j = 0) → I m 7 = 0 → (∀ j, I (m + 1) j = inl_ 5 6 j) → (∀ j, I (m + 6) j = 0) → I m 6 = 0 → P (mm_si B I)) : go_S mt_X11_init fr_R [pv_r m] M (qv_ P) := by
  have k0 := mk_0 hk hn
  have rm : ∀ {N : mm_T} {k s n : Nat}, mk_ M N m k s → k ≤ 12 → s + n ≤ 40000 → mm_n N + 1 ≤ nb_ ∧ mm_t N (mm_n N) + n ≤ sb_ := fun h q1 q2 => mk_rm h hm q1 ht q2
  refine wi_X11_init_0 hk ⟨rm k0 (by decide) (by decide), fun M1 e1 M4 e4 => ?_⟩
  have k1 : mk_ M M4 m 1 6200 := by rw [e4, e1]; exact mk_w k0 h5 rfl rfl (by decide)
  refine ⟨rm k1 (by decide) (by decide), fun M6 e6 M9 e9 => ?_⟩
  have k2 : mk_ M M9 m 2 12400 := by rw [e9, e6]; exact mk_w k1 h5 rfl rfl (by decide)
  refine ⟨rm k2 (by decide) (by decide), fun M11 e11 M14 e14 => ?_⟩
  have k3 : mk_ M M14 m 3 22400 := by rw [e14, e11]; exact mk_w k2 h5 rfl rfl (by decide)
  refine ⟨rm k3 (by decide) (by decide), fun M16 e16 M19 e19 => ?_⟩
  have k4 : mk_ M M19 m 4 22800 := by rw [e19, e16]; exact mk_w k3 h5 rfl rfl (by decide)
  refine ⟨rm k4 (by decide) (by decide), fun M21 e21 M24 e24 => ?_⟩
  have k5 : mk_ M M24 m 5 30800 := by rw [e24, e21]; exact mk_w k4 h5 rfl rfl (by decide)
  refine ⟨rm k5 (by decide) (by decide), fun M26 e26 M29 e29 M31 e31 M33 e33 M35 e35 M37 e37 M39 e39 M41 e41 => ?_⟩
  have k6' : mk_ M M29 m 6 31184 := by rw [e29, e26]; exact mk_w k5 h5 rfl rfl (by decide)
  have k6 : mk_ M M41 m 6 31184 := by rw [e41, e39, e37, e35, e33, e31]; exact mk_i (mk_i (mk_i (mk_i (mk_i (mk_i k6')))))
  refine ⟨rm k6 (by decide) (by decide), fun M43 e43 M46 e46 => ?_⟩
  have k7 : mk_ M M46 m 7 31584 := by rw [e46, e43]; exact mk_w k6 h5 rfl rfl (by decide)
  refine ⟨rm k7 (by decide) (by decide), fun M48 e48 M51 e51 M53 e53 => ?_⟩
  have k8' : mk_ M M51 m 8 31984 := by rw [e51, e48]; exact mk_w k7 h5 rfl rfl (by decide)
  have k8 : mk_ M M53 m 8 31984 := by rw [e53]; exact mk_l k8'
  refine ⟨rm k8 (by decide) (by decide), fun M55 e55 M58 e58 => ?_⟩
  have k9 : mk_ M M58 m 9 31990 := by rw [e58, e55]; exact mk_w k8 h5 rfl rfl (by decide)
  refine ⟨rm k9 (by decide) (by decide), fun M60 e60 M63 e63 M65 e65 M67 e67 M69 e69 => ?_⟩
  have k10' : mk_ M M63 m 10 31996 := by rw [e63, e60]; exact mk_w k9 h5 rfl rfl (by decide)
  have k10 : mk_ M M69 m 10 31996 := by rw [e69, e67, e65]; exact mk_i (mk_i (mk_i k10'))
  refine ⟨rm k10 (by decide) (by decide), fun M71 e71 M74 e74 => ?_⟩
  have k11 : mk_ M M74 m 11 32396 := by rw [e74, e71]; exact mk_w k10 h5 rfl rfl (by decide)
  refine ⟨rm k11 (by decide) (by decide), fun M76 e76 M79 e79 => ?_⟩
  have k12 : mk_ M M79 m 12 32796 := by rw [e79, e76]; exact mk_w k11 h5 rfl rfl (by decide)
  have im : ∀ (N : mm_T) (tg n f b j : Nat), mm_n N ≠ m → mm_i (mm_pr (mm_w N tg n) m f b) m j = mm_i N m j := fun N tg n f b j q => if_neg (fun z => q z.symm)
  have lm : ∀ (N : mm_T) (tg n f b j : Nat), mm_n N ≠ m → mm_l (mm_pr (mm_w N tg n) m f b) m j = mm_l N m j := fun N tg n f b j q => if_neg (fun z => q z.symm)
  have nn : ∀ {N : mm_T} {k s : Nat}, mk_ M N m k s → mm_n N ≠ m := fun h => by have := h.1; omega
  have v29 : ∀ j, mm_i M29 m j = 0 := fun j => by
    rw [e29, e26, im _ _ _ _ _ _ (nn k5), e24, e21, im _ _ _ _ _ _ (nn k4), e19, e16, im _ _ _ _ _ _ (nn k3), e14, e11, im _ _ _ _ _ _ (nn k2), e9, e6, im _ _ _ _ _ _ (nn k1), e4, e1, im _ _ _ _ _ _ (nn k0)]
    exact hz j
  have v41 : ∀ j, mm_i M41 m j = 0 := fun j => by
    have z : ∀ (N : mm_T) (i : Nat), (∀ j, mm_i N m j = 0) → ∀ j, mm_i (mm_pi N m i 0) m j = 0 := fun N i q j => by
      rw [mi_pi]
      split
      · rfl
      · exact q j
    rw [e41, e39, e37, e35, e33, e31]
    exact z _ _ (z _ _ (z _ _ (z _ _ (z _ _ (z _ _ v29))))) j
  have v63 : ∀ j, mm_i M63 m j = 0 := fun j => by
    rw [e63, e60, im _ _ _ _ _ _ (nn k9), e58, e55, im _ _ _ _ _ _ (nn k8), e53]
    show mm_i M51 m j = 0
    rw [e51, e48, im _ _ _ _ _ _ (nn k7), e46, e43, im _ _ _ _ _ _ (nn k6)]
    exact v41 j
  have v79 : ∀ j, j ≠ 17 → mm_i M79 m j = 0 := fun j q => by
    rw [e79, e76, im _ _ _ _ _ _ (nn k11), e74, e71, im _ _ _ _ _ _ (nn k10), e69, mi_pi]
    split
    · rfl
    · rw [e67, mi_pi]
      split
      · rfl
      · rw [e65, mi_pij q]
        exact v63 j
  have l79 : mm_l M79 m 14 = 0 := by
    rw [e79, e76, lm _ _ _ _ _ _ (nn k11), e74, e71, lm _ _ _ _ _ _ (nn k10), e69, e67, e65]
    show mm_l M63 m 14 = 0
    rw [e63, e60, lm _ _ _ _ _ _ (nn k9), e58, e55, lm _ _ _ _ _ _ (nn k8), e53]
    exact if_pos ⟨rfl, rfl⟩
  have zz : ∀ i j, i < 12 → mm_i M79 (m + 1 + i) j = 0 := fun i j q => (k12.2.2.2.2 i q).2.2 j
  have ix := ix_ini (I := mm_i M79) (m := m) (fun j => zz 3 j (by decide)) (v79 6 (by decide)) (v79 8 (by decide)) (fun j => ⟨zz 6 j (by decide), zz 7 j (by decide)⟩)
  have st := rc_ini (B := M79) (I := mm_i M79) (m := m) (mk_ok k12) (fun j => zz 0 j (by decide)) (P := fun I => P (mm_si M79 I)) (K M79 _ (by rw [k12.1]) (mk_ok k12) (fun a q => ⟨(k12.2.2.1 a q).1, fun j => (if_neg (by omega)).trans ((k12.2.2.1 a q).2.1 j), (k12.2.2.1 a q).2.2⟩) l79 k12.2.1 ix.1 ix.2 (fun j => (if_neg (by omega)).trans (zz 2 j (by decide))) ((if_neg (by omega)).trans (v79 7 (by decide))) (fun j => if_pos rfl) (fun j => (if_neg (by omega)).trans (zz 5 j (by decide))) ((if_neg (by omega)).trans (v79 6 (by decide))))
  refine go_weak (fun r N q => ?_) st
  obtain ⟨q1, I', q2, q3⟩ := q
  exact ⟨q1, by rw [q2]; exact q3⟩
end Ini3
