/-! what is asked only -/
section Pub11
variable {B M M' : mm_T} {I J E : Nat → Nat → Int32} {m n T W P L : Nat} {ta tm : Nat → Nat} {S : Nat → Nat → Bool}
theorem qu_ {α : Type} {v : α} {c : mm_T → (α → mm_T → Prop) → Prop} {r : mm_T → fI → (α → fI → Prop) → Prop} (h : ix_ I m n T W P L) (hc : ∀ M ta tm Q, re_ M I m n ta tm → Q v M → c M Q) (hr : ∀ S E B Q, uf_ S m → rf_ok B m → ix_ (pt_ S E I) m n T W P L → Q v (pt_ S E I) → r B (pt_ S E I) Q) : ∃ v, sm_ I m n T W P L (v, I) c r := ⟨v, ⟨n, ix_up h (by omega) (by omega) (by omega) (by omega)⟩, fun M ta tm Q g K => hc M ta tm Q g (K _ _ _ _ g), fun S E B Q hS RK K => hr S E B Q hS RK (ix_pt h hS) K⟩
theorem ce_tell6 (h : re_ M I m n ta tm) (hi : ix_ I m n T W P L) {t : Nat} (ht : t < n) {x : Int32} {Q : Int32 → mm_T → Prop} (K1 : ∀ f, f ≤ 12 → x = nI f → Q (ra_T I m t f) M) (K2 : ¬ (0 ≤ x ∧ x ≤ 12) → Q (-1) M) : cs_i mt_X6_tell [pv_r (ta t), pv_i x] M Q := by
  have h4 := ix_4 hi
  obtain ⟨⟨a1, a2, a3, a4, a5, a6⟩, ⟨b1, b2, b3, b4, b5, b6, b7, b8⟩, ⟨c1, c2, c3⟩, d1, d2⟩ := h.1.2.2.1.1 t ht
  have lm := lm_of (ix_tv hi) ht
  have kl := br_ln h.1.2.1 lm.1
  have w9 := hi.1.2.2.1.1 t ht
  have w8 := hi.1.2.2.1.2.1 t ht
  refine wc_X6_tell_0 a1 ?_
  rw [b1, b2, b3, b4, b5, b6, b7, a5]
  refine ⟨fun e => ⟨kl.1, ?_⟩, fun e => K1 1 (by decide) e, fun e => K1 2 (by decide) e, fun e => K1 3 (by decide) e, fun e => ?_, fun e => K1 5 (by decide) e, fun e => K1 6 (by decide) e, fun e => K1 7 (by decide) e, fun e => ⟨fun q => ?_, fun q => ?_⟩, fun e => ?_, fun e => ⟨fun q => ?_, fun q => ?_⟩, fun e => ⟨fun q => ?_, fun q => ?_⟩, fun e => K1 12 (by decide) e, fun q => K2 (fun z => ?_)⟩
  · rw [show mm_i M (12 + lmI I m t) 0 = nI (lmI I m t) from kl.2.2, ← lm.2]
    exact K1 0 (by decide) e
  · have K := K1 4 (by decide) e
    rcases ce_behind h (ix_bl hi) ht with ⟨z1, z2⟩ | ⟨p, z1, z2, -, z3⟩
    · rw [z2]
      rw [z1] at K
      exact ⟨fun y => absurd rfl y, fun _ => K⟩
    · rw [z3]
      have g := re_ge h (show p < n by omega)
      rw [z2] at K
      refine ⟨fun _ => ⟨g.2, ?_⟩, fun y => absurd y (by omega)⟩
      rw [(h.1.2.2.1.1 p (by omega)).1.2.2.1]
      exact K
  · have K := K1 8 (by decide) e
    rcases w8 with ⟨z, -⟩ | ⟨-, z⟩
    · exact absurd z q
    · rw [z] at K; exact K
  · have K := K1 8 (by decide) e
    rcases w8 with ⟨-, d, hd, z⟩ | ⟨z, -⟩
    · rw [c1 (by rw [z]; exact nI_nm (by omega))]; exact K
    · exact absurd q z
  · have K := K1 9 (by decide) e
    rw [a6]
    unfold rfw
    rcases w9 with ⟨-, w, k, en, hw, z, -⟩ | ⟨-, z, -⟩
    · rw [z, if_neg (nI_nm (by omega)), nI_clamp (by omega)]
      rw [z] at K
      refine ⟨fun _ => ⟨(h.1.1.2.2.1.2.1 w hw).2.1, ?_⟩, fun y => absurd y (by omega)⟩
      rw [(h.1.1.2.2.1.2.1 w hw).2.2]
      exact K
    · rw [z, if_pos rfl]
      rw [z] at K
      exact ⟨fun y => absurd rfl y, fun _ => K⟩
  · have K := K1 10 (by decide) e
    rcases w9 with ⟨z, -⟩ | ⟨-, -, z, -⟩
    · exact absurd z q
    · rw [z] at K; exact K
  · have K := K1 10 (by decide) e
    rcases w9 with ⟨-, w, k, en, hw, -, -, hk, z, -⟩ | ⟨z, -⟩
    · rw [c2 (by rw [z]; exact nI_nm (by omega))]; exact K
    · exact absurd q z
  · have K := K1 11 (by decide) e
    rcases w9 with ⟨z, -⟩ | ⟨-, -, -, z⟩
    · exact absurd z q
    · rw [z] at K; exact K
  · have K := K1 11 (by decide) e
    rcases w9 with ⟨-, w, k, en, hw, -, -, -, -, he, z⟩ | ⟨z, -⟩
    · rw [c3 (by rw [z]; exact nI_nm (by omega))]; exact K
    · exact absurd q z
  · obtain ⟨j, hj, rfl⟩ := i32_in (N := 12) (by decide) z
    obtain ⟨q0, q1, q2, q3, q4, q5, q6, q7, q8, q9, q10, q11, q12⟩ := q
    have : j = 0 ∨ j = 1 ∨ j = 2 ∨ j = 3 ∨ j = 4 ∨ j = 5 ∨ j = 6 ∨ j = 7 ∨ j = 8 ∨ j = 9 ∨ j = 10 ∨ j = 11 ∨ j = 12 := by omega
    rcases this with rfl | rfl | rfl | rfl | rfl | rfl | rfl | rfl | rfl | rfl | rfl | rfl | rfl
    · exact q0 rfl
    · exact q1 rfl
    · exact q2 rfl
    · exact q3 rfl
    · exact q4 rfl
    · exact q5 rfl
    · exact q6 rfl
    · exact q7 rfl
    · exact q8 rfl
    · exact q9 rfl
    · exact q10 rfl
    · exact q11 rfl
    · exact q12 rfl
theorem sm_task (h : ix_ I m n T W P L) {x1 x2 : Int32} : ∃ v, sm_ I m n T W P L (v, I) (fun M Q => cs_i mt_X10_task [pv_r 5, pv_i x1, pv_i x2] M Q) (fun B J Q => rs_i mt_X11_task [pv_r m, pv_i x1, pv_i x2] B J Q) := by
  have h4 := ix_4 h
  refine qu_ (v := if (0 ≤ x1 ∧ x1 ≤ nI n - 1) ∧ (0 ≤ x2 ∧ x2 ≤ 12) then ra_T I m x1.toNatClampNeg x2.toNatClampNeg else -1) h (fun M ta tm Q hr K => ?_) (fun S E B Q hS RK hJ K => ?_)
  · refine wc_X10_task_0 (re_m5 hr) (ce_taskAt hr (fun t ht e => ⟨fun _ => ⟨(re_ge hr ht).2, ce_tell6 hr h ht (fun f hf e2 => ?_) (fun q => ?_)⟩, fun q => absurd q (by have := (re_ge hr ht).1; omega)⟩) (fun q => ⟨fun y => absurd rfl y, fun _ => ?_⟩))
    · rw [if_pos ⟨(i32_tk h4).mpr ⟨t, ht, e⟩, by rw [e2]; exact ⟨Int32.not_lt.mp (nI_pos (by omega)), show nI f ≤ nI 12 from nI_le hf (by decide)⟩⟩, e, e2, nI_clamp (by omega), nI_clamp (by omega)] at K
      exact K
    · rw [if_neg (fun y => q y.2)] at K
      exact K
    · rw [if_neg (fun y => q y.1)] at K
      exact K
  · refine wq_X11_task_0 RK ?_
    rw [ix_1 hJ]
    refine ⟨fun c1 => ⟨fun c2 => ?_, fun c2 => ?_⟩, fun c1 => ?_⟩
    · rw [if_pos ⟨c1, c2⟩] at K
      obtain ⟨t, ht, rfl⟩ := (i32_tk h4).mp c1
      obtain ⟨f, hf, rfl⟩ := i32_in (N := 12) (by decide) c2
      rw [nI_clamp (by omega), nI_clamp (by omega)] at K
      refine ⟨t, ⟨rfl, by omega⟩, f, ⟨rfl, by omega⟩, ?_⟩
      rw [uf_at hS (by omega) (by omega)]
      exact K
    · rw [if_neg (fun y => c2 y.2)] at K
      exact K
    · rw [if_neg (fun y => c1 y.1)] at K
      exact K
theorem sm_strikes (h : ix_ I m n T W P L) {x1 : Int32} : ∃ v, sm_ I m n T W P L (v, I) (fun M Q => cs_i mt_X10_strikes [pv_r 5, pv_i x1] M Q) (fun B J Q => rs_i mt_X11_strikes [pv_r m, pv_i x1] B J Q) := by
  refine qu_ (v := if 0 ≤ x1 ∧ x1 ≤ 9999 then I (m + 3) x1.toNatClampNeg else -1) h (fun M ta tm Q hr K => ?_) (fun S E B Q hS RK hJ K => ?_)
  · refine wc_X10_strikes_0 (re_m5 hr) (cc_isKey ?_)
    by_cases c : 0 ≤ x1 ∧ x1 ≤ 9999
    · rw [if_pos c] at K ⊢
      obtain ⟨k, hk, rfl⟩ := i32_in (N := 9999) (by decide) c
      rw [nI_clamp (by omega)] at K
      rw [hr.1.1.1.2.2.2.2.2.2.2.2.1]
      exact ⟨fun q => absurd q (by decide), fun _ => ⟨hr.1.1.2.2.2.1.1, ce_count hr (by omega) K⟩⟩
    · rw [if_neg c] at K ⊢
      exact ⟨fun _ => K, fun q => absurd rfl q⟩
  · refine wq_X11_strikes_0 RK ⟨fun c => ?_, fun c => ?_⟩
    · rw [if_pos c] at K
      obtain ⟨k, hk, rfl⟩ := i32_in (N := 9999) (by decide) c
      rw [nI_clamp (by omega)] at K
      refine ⟨k, ⟨rfl, by omega⟩, ?_⟩
      rw [uf_at hS (by omega) (by omega)]
      exact K
    · rw [if_neg c] at K
      exact K
theorem sm_rank (h : ix_ I m n T W P L) {x1 : Int32} : ∃ v, sm_ I m n T W P L (v, I) (fun M Q => cs_i mt_X10_rank [pv_r 5, pv_i x1] M Q) (fun B J Q => rs_i mt_X11_rank [pv_r m, pv_i x1] B J Q) := by
  have h4 := ix_4 h
  refine qu_ (v := if 0 ≤ x1 ∧ x1 ≤ nI n - 1 then ra_rank I m x1.toNatClampNeg else -1000000) h (fun M ta tm Q hr K => ?_) (fun S E B Q hS RK hJ K => ?_)
  · by_cases c : 0 ≤ x1 ∧ x1 ≤ nI n - 1
    · rw [if_pos c] at K
      obtain ⟨t, ht, rfl⟩ := (i32_tk h4).mp c
      rw [nI_clamp (by omega)] at K
      exact ce_rank hr ht K
    · rw [if_neg c] at K
      exact wc_X10_rank_0 (re_m5 hr) (ce_taskAt hr (fun t ht e => absurd ((i32_tk h4).mpr ⟨t, ht, e⟩) c) (fun _ => ⟨fun y => absurd rfl y, fun _ => K⟩))
  · refine wq_X11_rank_0 RK ?_
    rw [ix_1 hJ]
    refine ⟨fun c => ?_, fun c => ?_⟩
    · rw [if_pos c] at K
      obtain ⟨t, ht, rfl⟩ := (i32_tk h4).mp c
      rw [nI_clamp (by omega)] at K
      refine ⟨t, ⟨rfl, by omega⟩, ?_⟩
      rw [nt_rank (uf_us hS)]
      exact K
    · rw [if_neg c] at K
      exact K
end Pub11
