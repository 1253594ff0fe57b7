/-! steps -/
section Stp
variable {B M M' : mm_T} {I J E : Nat → Nat → Int32} {m n k T W P L V : Nat} {ta tm : Nat → Nat} {S : Nat → Nat → Bool}
/-- so many steps: how many were, the draws, the ints -/
def sj_ (m : Nat) : Nat → Nat → Nat → fI → Nat × Nat × fI
  | 0, c, k, I => (c, k, I)
  | j + 1, c, k, I => sj_ m j (if (s1_ I m (nn_ I m) k).1 = 0 then c else c + 1) (s1_ I m (nn_ I m) k).2.1 (s1_ I m (nn_ I m) k).2.2
theorem lj2 {j : Nat} (h : j ≤ 60) : 20000 * j ≤ 1200000 := Nat.mul_le_mul_left 20000 h
theorem bb_j {p a j b : Nat} (h : p + a * (j + 1) < b) : p + a < b := Nat.lt_of_le_of_lt (Nat.add_le_add_left (Nat.le_mul_of_pos_right a (Nat.succ_pos j)) p) h
theorem ix_sj : ∀ (j : Nat) {I : fI} {n k c T W P L V : Nat}, ix_ I m n T W P L → xi_ I m n V → k < 2147483648 → T + j < 100000 → W + j < 100000000 → P + 50400 * j < 2147483648 → L + 20000 * j < 1997900000 → (sj_ m j c k I).2.1 < 2147483648 ∧ (sj_ m j c k I).1 ≤ c + j ∧ ∃ n', ix_ (sj_ m j c k I).2.2 m n' (T + j) (W + j) (P + 50400 * j) (L + 20000 * j) ∧ xi_ (sj_ m j c k I).2.2 m n' (V + j)
  | 0, I, n, k, c, T, W, P, L, V, h, hx, hk, _, _, _, _ => ⟨hk, Nat.le_refl _, n, h, hx⟩
  | j + 1, I, n, k, c, T, W, P, L, V, h, hx, hk, b1, b2, b3, b4 => by
    obtain ⟨a1, ⟨n', a2, a3⟩, -⟩ := so_s1 h hx hk (by omega) (by omega) (bb_j b3) (bb_j b4)
    have e := nn_e h
    obtain ⟨c1, c2, n2, c3, c4⟩ := ix_sj j (c := if (s1_ I m n k).1 = 0 then c else c + 1) a2 a3 a1 (by omega) (by omega) (by omega) (by omega)
    unfold sj_
    rw [e]
    refine ⟨c1, Nat.le_trans c2 ?_, n2, ?_, ?_⟩
    · split <;> omega
    · rw [show T + (j + 1) = T + 1 + j by omega, show W + (j + 1) = W + 1 + j by omega, show P + 50400 * (j + 1) = P + 50400 + 50400 * j by omega, show L + 20000 * (j + 1) = L + 20000 + 20000 * j by omega]
      exact c3
    · rw [show V + (j + 1) = V + 1 + j by omega]
      exact c4
theorem ce_sj {x1 : Int32} {x : Nat} (hx60 : x ≤ 60) {Q : Int32 → mm_T → Prop} : ∀ (j i : Nat) {M : mm_T} {I : fI} {n k c T W P L V : Nat} {ta tm : Nat → Nat}, i + j = x → re_ M I m n ta tm → mm_l M 98 0 = lN k → ix_ I m n T W P L → xi_ I m n V → k < 2147483648 → T + j < 100000 → W + j < 100000000 → P + 50400 * j < 2147483648 → L + 20000 * j < 1997900000 → (∀ M' n' ta' tn, re_ M' (sj_ m j c k I).2.2 m n' ta' tn → Q (nI (sj_ m j c k I).1) M') → dw_i mt_X10_steps 36 [some (pv_r 5), some (pv_i x1), some (pv_i (nI x)), some (pv_i (nI c)), some (pv_i (nI i))] [] M Q
  | 0, i, M, I, n, k, c, T, W, P, L, V, ta, tm, hi, hr, hz, h, hx, hk, _, _, _, _, K => by
    have : i = x := by omega
    subst this
    exact wd_X10_steps_36 (re_m5 hr) ⟨fun _ => K _ _ _ _ hr, fun q => absurd (Int32.le_refl _) q⟩
  | j + 1, i, M, I, n, k, c, T, W, P, L, V, ta, tm, hi, hr, hz, h, hx, hk, b1, b2, b3, b4, K => by
    obtain ⟨a1, ⟨n', a2, a3⟩, a4, -⟩ := so_s1 h hx hk (by omega) (by omega) (bb_j b3) (bb_j b4)
    unfold sj_ at K
    rw [nn_e h] at K
    refine wd_X10_steps_36 (re_m5 hr) ⟨fun q => absurd q (nI_ge (by omega) (by omega)), fun _ => a4 M ta tm _ hr hz (fun M1 n1 ta1 tn1 h1 z1 => ?_)⟩
    have en : n1 = n' := by
      have q1 := re_1 h1
      have q2 := ix_1 a2
      have q3 := re_4 h1
      have q4 := ix_4 a2
      exact (nI_eq (by omega) (by omega)).mp (q1.symm.trans q2)
    subst en
    rw [nI_1]
    refine ⟨fun q => ?_, fun q => ?_⟩
    · rw [if_pos q] at K
      exact ce_sj hx60 j (i + 1) (by omega) h1 z1 a2 a3 a1 (by omega) (by omega) (by omega) (by omega) K
    · rw [if_neg q] at K
      rw [nI_1]
      exact ce_sj hx60 j (i + 1) (by omega) h1 z1 a2 a3 a1 (by omega) (by omega) (by omega) (by omega) K
theorem rc_sj (hS : uf_ S m) (RK : rf_ok B m) {x1 : Int32} {x : Nat} (hx60 : x ≤ 60) {Q : Int32 → Int64 → fI → Prop} : ∀ (j i : Nat) {I : fI} {n k c T W P L V : Nat}, i + j = x → ix_ I m n T W P L → xi_ I m n V → k < 2147483648 → T + j < 100000 → W + j < 100000000 → P + 50400 * j < 2147483648 → L + 20000 * j < 1997900000 → Q (nI (sj_ m j c k I).1) (lN (sj_ m j c k I).2.1) (pt_ S E (sj_ m j c k I).2.2) → zw_i mt_X11_steps 32 [some (pv_r m), some (pv_i x1), some (pv_i (nI x)), some (pv_i (nI c)), some (pv_i (nI i))] [] B m (lN k) (pt_ S E I) Q
  | 0, i, I, n, k, c, T, W, P, L, V, hi, h, hx, hk, _, _, _, _, K => by
    have : i = x := by omega
    subst this
    exact wz_X11_steps_32 RK ⟨fun _ => K, fun q => absurd (Int32.le_refl _) q⟩
  | j + 1, i, I, n, k, c, T, W, P, L, V, hi, h, hx, hk, b1, b2, b3, b4, K => by
    obtain ⟨a1, ⟨n', a2, a3⟩, -, a4⟩ := so_s1 h hx hk (by omega) (by omega) (bb_j b3) (bb_j b4)
    unfold sj_ at K
    rw [nn_e h] at K
    refine wz_X11_steps_32 RK ⟨fun q => absurd q (nI_ge (by omega) (by omega)), fun _ => a4 S E B _ hS RK ?_⟩
    rw [nI_1]
    refine ⟨fun q => ?_, fun q => ?_⟩
    · rw [if_pos q] at K
      rw [nI_a0]
      exact rc_sj hS RK hx60 j (i + 1) (by omega) a2 a3 a1 (by omega) (by omega) (by omega) (by omega) K
    · rw [if_neg q] at K
      rw [nI_1]
      exact rc_sj hS RK hx60 j (i + 1) (by omega) a2 a3 a1 (by omega) (by omega) (by omega) (by omega) K
def ap_stp (I : fI) (m : Nat) (x1 x2 : Int32) : Int32 × fI := if 0 ≤ x1 ∧ 1 ≤ x2 ∧ x2 ≤ 60 then (nI (sj_ m x2.toNatClampNeg 0 x1.toNatClampNeg I).1, (sj_ m x2.toNatClampNeg 0 x1.toNatClampNeg I).2.2) else (-2, sp_ref I m)
/-- the reference's call where the long field may change -/
def rz_i (t : mt_T) (av : List pv_T) (B : mm_T) (m : Nat) (I : fI) (Q : Int32 → fI → Prop) : Prop := ∀ z, zs_i t av B m z I (fun v _ I' => Q v I')
theorem sm_steps (h : ix_ I m n T W P L) (hl : lim_ T W P L) (hx : xi_ I m n V) {x1 x2 : Int32} : sm_ I m n T W P L (ap_stp I m x1 x2) (fun M Q => ds_i mt_X10_steps [pv_r 5, pv_i x1, pv_i x2] M Q) (fun B J Q => rz_i mt_X11_steps [pv_r m, pv_i x1, pv_i x2] B m J Q) ∧ xo_ m (V + 60) (ap_stp I m x1 x2).2 := by
  obtain ⟨l1, l2, l3, l4⟩ := hl
  have h4 := ix_4 h
  by_cases c : 0 ≤ x1 ∧ 1 ≤ x2 ∧ x2 ≤ 60
  · obtain ⟨k, hk, rfl⟩ := nI_of (x := x1) (Int32.not_lt.mpr c.1)
    obtain ⟨x, hx60, rfl⟩ := i32_in (N := 60) (by decide) ⟨Int32.le_trans (by decide) c.2.1, c.2.2⟩
    have hk' : k < 2147483648 := hk
    have b3 : 50400 * x ≤ 3024000 := Nat.mul_le_mul_left 50400 hx60
    have b4 := lj2 hx60
    rw [show ap_stp I m (nI k) (nI x) = (nI (sj_ m x 0 k I).1, (sj_ m x 0 k I).2.2) by unfold ap_stp; rw [if_pos c, nI_clamp hk, nI_clamp (by omega)]]
    obtain ⟨c1, c2, n', c3, c4⟩ := ix_sj x (c := 0) h hx hk' (by omega) (by omega) (by omega) (by omega)
    refine ⟨⟨⟨n', ix_up c3 (by omega) (by omega) (by omega) (by omega)⟩, fun M ta tm Q hr K => ?_, fun S E B Q hS RK K => ?_⟩, xo_n (ix_4 c3) (ix_1 c3) c4 (by omega)⟩
    · refine wd_X10_steps_0 (re_m5 hr) ⟨fun q => absurd q (nI_pos hk), fun _ => ⟨fun q => absurd c.2.1 (Int32.not_le.mpr q), fun _ => ⟨fun _ => ?_, fun q => absurd c.2.2 q⟩⟩⟩
      rw [(re_98 hr).1]
      refine ⟨(re_98 hr).2, fun M8 e8 => ?_⟩
      rw [nI_l hk] at e8
      rw [e8]
      exact ce_sj hx60 x 0 (c := 0) (by omega) (re_pl hr) ml_pl h hx hk' (by omega) (by omega) (by omega) (by omega) K
    · intro z
      refine wz_X11_steps_0 RK ⟨fun q => absurd q (nI_pos hk), fun _ => ⟨fun _ => ?_, fun q => absurd c.2 q⟩⟩
      rw [nI_l hk]
      exact rc_sj hS RK hx60 x 0 (c := 0) (by omega) h hx hk' (by omega) (by omega) (by omega) (by omega) K
  · rw [show ap_stp I m x1 x2 = (-2, sp_ref I m) from if_neg c]
    refine ⟨⟨ix_rx h, fun M ta tm Q hr K => ?_, fun S E B Q hS RK K => ?_⟩, xo_ref h hx (by omega)⟩
    · have fin : cs_i mt_X10_counted [pv_r 5, pv_i (-2)] M (fun v2 M1 => mm_S fr_C M M1 → Q v2 M1) := cr_x (Q := fun v2 M1 => mm_S fr_C M M1 → Q v2 M1) hr (by decide) (fun M' n' ta' tn h' _ => K M' n' ta' tn h')
      exact wd_X10_steps_0 (re_m5 hr) ⟨fun _ => fin, fun q1 => ⟨fun _ => fin, fun q2 => ⟨fun q3 => absurd ⟨Int32.not_lt.mp q1, Int32.not_lt.mp q2, q3⟩ c, fun _ => fin⟩⟩⟩
    · intro z
      exact wz_X11_steps_0 RK ⟨fun _ => rr_x (Q := fun v I' => Q v I') hS (ix_8 h) K, fun q1 => ⟨fun q2 => absurd ⟨Int32.not_lt.mp q1, q2⟩ c, fun _ => rr_x (Q := fun v I' => Q v I') hS (ix_8 h) K⟩⟩
end Stp
