/-! chain -/
section Pub22
variable {B M M' : mm_T} {I J E : Nat → Nat → Int32} {m n T W P L : Nat} {ta tm : Nat → Nat} {S : Nat → Nat → Bool}
def ch_ (I : fI) (m : Nat) : Nat → Int32 → Int32 → Int32 → Int32 × Int32
  | 0, s, c, _ => (s, c)
  | k + 1, s, c, y => if y = -1 then (s, c) else if ra_T I m y.toNatClampNeg 6 = 4 then (s, c) else ch_ I m k (s + ra_T I m y.toNatClampNeg 2) (c + 1) (ra_T I m y.toNatClampNeg 4)
theorem nt_ch (hS : uf_ S m) : ∀ (k : Nat) (s c y : Int32), ch_ (pt_ S E I) m k s c y = ch_ I m k s c y
  | 0, _, _, _ => rfl
  | k + 1, s, c, y => by
    unfold ch_
    rw [nt_T (uf_us hS), nt_T (uf_us hS), nt_T (uf_us hS), nt_ch hS k]
theorem rc_ch (RK : rf_ok B m) (hbl : bl_ I m n) (h4 : n ≤ 400) {x1 x2 : Int32} {Q : Int32 → fI → Prop} : ∀ (k : Nat) {s c y : Int32}, (y = -1 ∨ ∃ p, p < k ∧ p < n ∧ y = nI p) → 1 ≤ k → Q (if x2 = 0 then (ch_ I m k s c y).1 else (ch_ I m k s c y).2) I → rw_i mt_X11_chain 37 [some (pv_r m), some (pv_i x1), some (pv_i x2), some (pv_i s), some (pv_i c), some (pv_i y)] [] B I Q
  | 0, _, _, _, _, hk, _ => by omega
  | k + 1, s, c, y, hy, _, K => by
    unfold ch_ at K
    have fin : ∀ s c : Int32, Q (if x2 = 0 then s else c) I → (((¬ x2 = 0) → Q c I) ∧ ((x2 = 0) → Q s I)) := fun s c K => ⟨fun q => by rw [if_neg q] at K; exact K, fun q => by rw [if_pos q] at K; exact K⟩
    refine wq_X11_chain_37 RK ⟨fun q => ?_, fun q => ?_⟩
    · rw [if_pos q] at K
      exact fin _ _ K
    · rw [if_neg q] at K
      rcases hy with z | ⟨p, p1, p2, rfl⟩
      · exact absurd z q
      · rw [nI_clamp (by omega)] at K
        refine ⟨p, ⟨rfl, by omega⟩, fun q2 => ?_, fun q2 => ?_⟩
        · rw [if_pos (show ra_T I m p 6 = 4 from q2)] at K
          exact fin _ _ K
        · rw [if_neg (show ¬ ra_T I m p 6 = 4 from q2)] at K
          rcases hbl p p2 with z | ⟨r, r1, r2⟩
          · cases k with
            | zero =>
              refine wq_X11_chain_37 RK ⟨fun _ => fin _ _ K, fun y => absurd z y⟩
            | succ k' => exact rc_ch RK hbl h4 (k' + 1) (Or.inl z) (by omega) K
          · exact rc_ch RK hbl h4 k (Or.inr ⟨r, by omega, by omega, r2⟩) (by omega) K
theorem ce_ch (h : re_ M I m n ta tm) (hbl : bl_ I m n) {a3 : Nat} {x1 x2 : Int32} {Q : Int32 → mm_T → Prop} : ∀ (k : Nat) {s c y : Int32}, (y = -1 ∨ ∃ p, p < k ∧ p < n ∧ y = nI p) → 1 ≤ k → Q (if x2 = 0 then (ch_ I m k s c y).1 else (ch_ I m k s c y).2) M → cw_i mt_X10_chain 36 [some (pv_r 5), some (pv_i x1), some (pv_i x2), some (pv_r a3), some (pv_i s), some (pv_i c), some (pv_r (rft ta y))] [] M Q
  | 0, _, _, _, _, hk, _ => by omega
  | k + 1, s, c, y, hy, _, K => by
    have h4 := re_4 h
    unfold ch_ at K
    have fin : ∀ s c : Int32, Q (if x2 = 0 then s else c) M → (((¬ x2 = 0) → Q c M) ∧ ((x2 = 0) → Q s M)) := fun s c K => ⟨fun q => by rw [if_neg q] at K; exact K, fun q => by rw [if_pos q] at K; exact K⟩
    rcases hy with z | ⟨p, p1, p2, rfl⟩
    · rw [if_pos z] at K
      have e0 : rft ta y = 0 := if_pos z
      rw [e0]
      exact wc_X10_chain_36 (re_m5 h) ⟨fun _ => fin _ _ K, fun q => absurd rfl q⟩
    · have nm : ¬ nI p = (-1 : Int32) := nI_nm (by omega)
      have e0 : rft ta (nI p) = ta p := by unfold rft; rw [if_neg nm, nI_clamp (by omega)]
      rw [if_neg nm, nI_clamp (by omega)] at K
      have g := re_ge h p2
      obtain ⟨⟨-, -, -, a4, -⟩, ⟨-, b2, -, -, b5, -⟩, -⟩ := h.1.2.2.1.1 p p2
      rw [e0]
      refine wc_X10_chain_36 (re_m5 h) ⟨fun q => absurd q (by omega), fun _ => ⟨g.2, ?_⟩⟩
      rw [b5, b2, a4]
      refine ⟨fun q2 => ?_, fun q2 => ?_⟩
      · rw [if_pos q2] at K
        exact fin _ _ K
      · rw [if_neg q2] at K
        rcases hbl p p2 with z | ⟨r, r1, r2⟩
        · cases k with
          | zero =>
            have e1 : rft ta (ra_T I m p 4) = 0 := if_pos z
            rw [e1]
            exact wc_X10_chain_36 (re_m5 h) ⟨fun _ => fin _ _ K, fun y => absurd rfl y⟩
          | succ k' => exact ce_ch h hbl (k' + 1) (Or.inl z) (by omega) K
        · exact ce_ch h hbl k (Or.inr ⟨r, by omega, by omega, r2⟩) (by omega) K
theorem sm_chain (h : ix_ I m n T W P L) {x1 x2 : Int32} : ∃ v, sm_ I m n T W P L (v, I) (fun M Q => cs_i mt_X10_chain [pv_r 5, pv_i x1, pv_i x2] M Q) (fun B J Q => rs_i mt_X11_chain [pv_r m, pv_i x1, pv_i x2] B J Q) := by
  have h4 := ix_4 h
  have hb : ∀ t, t < n → ra_T I m t 4 = -1 ∨ ∃ p, p < 401 ∧ p < n ∧ ra_T I m t 4 = nI p := fun t ht => (ix_bl h t ht).imp id (fun ⟨q, q1, q2⟩ => ⟨q, by omega, by omega, q2⟩)
  refine qu_ (v := if (0 ≤ x1 ∧ x1 ≤ nI n - 1) ∧ (0 ≤ x2 ∧ x2 ≤ 1) then (if x2 = 0 then (ch_ I m 401 (ra_T I m x1.toNatClampNeg 2) 1 (ra_T I m x1.toNatClampNeg 4)).1 else (ch_ I m 401 (ra_T I m x1.toNatClampNeg 2) 1 (ra_T I m x1.toNatClampNeg 4)).2) else -1) h (fun M ta tm Q hr K => ?_) (fun S E B Q hS RK hJ K => ?_)
  · refine wc_X10_chain_0 (re_m5 hr) (ce_taskAt hr (fun t ht e => ⟨fun q => absurd q (by have := (re_ge hr ht).1; omega), fun _ => ⟨fun q => by rw [if_neg (fun y => absurd q (Int32.not_lt.mpr y.2.1))] at K; exact K, fun q => ⟨fun q2 => ⟨(re_ge hr ht).2, ?_⟩, fun q2 => by rw [if_neg (fun y => q2 y.2.2)] at K; exact K⟩⟩⟩) (fun q => ⟨fun _ => by rw [if_neg (fun y => q y.1)] at K; exact K, fun y => absurd rfl y⟩))
    rw [if_pos ⟨(i32_tk h4).mpr ⟨t, ht, e⟩, Int32.not_lt.mp q, q2⟩, e, nI_clamp (by omega)] at K
    obtain ⟨⟨-, -, -, a4, -⟩, ⟨-, b2, -⟩, -⟩ := hr.1.2.2.1.1 t ht
    rw [b2, a4]
    exact ce_ch hr (ix_bl h) 401 (hb t ht) (by omega) K
  · refine wq_X11_chain_0 RK ?_
    rw [ix_1 hJ]
    refine ⟨fun c1 => ⟨fun c2 => ?_, fun c2 => by rw [if_neg (fun y => c2 y.2)] at K; exact K⟩, fun c1 => by rw [if_neg (fun y => c1 y.1)] at K; exact K⟩
    rw [if_pos ⟨c1, c2⟩] at K
    obtain ⟨t, ht, rfl⟩ := (i32_tk h4).mp c1
    rw [nI_clamp (by omega)] at K
    refine ⟨t, ⟨rfl, by omega⟩, ?_⟩
    rw [show pt_ S E I (m + 1) (200 + 14 * t + 2) = ra_T I m t 2 from uf_at hS (by omega) (by omega), show pt_ S E I (m + 1) (200 + 14 * t + 4) = ra_T I m t 4 from uf_at hS (by omega) (by omega)]
    refine rc_ch RK (ix_bl hJ) h4 401 (hb t ht) (by omega) ?_
    rw [nt_ch hS]
    exact K
end Pub22
