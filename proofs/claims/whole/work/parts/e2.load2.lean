/-! load, over the relation -/
section Load2
variable {M M' : mm_T} {I J : Nat → Nat → Int32} {m n : Nat} {ta tm tc : Nat → Nat}
def zI_ (a j : Nat) : Prop := 17 ≤ a ∧ a < 79 ∧ (a < 24 ∨ 29 ≤ a ∨ 0 < j)
def zR_ (a _j : Nat) : Prop := a = 21 ∨ (31 ≤ a ∧ a < 79)
theorem re_z (h : re_ M I m n ta tm) (f : fx_ zI_ zR_ M M') : re_ M' I m n ta tm := re_Z h f (fun _ _ _ => rfl)
theorem fx_ws {SI SR : Nat → Nat → Prop} {a : Nat} {f : Nat → Int32} (h : ∀ j, SI a j) : fx_ SI SR M (mm_ws M a f) :=
  ⟨rfl, fun _ => rfl, fun b j q => if_neg (fun e => q (by rw [e]; exact h j)), fun _ _ _ => rfl, fun _ _ => rfl⟩
/-- what a copy holds of a task -/
def tX_ (M M' : mm_T) (I : fI) (m : Nat) (ta : Nat → Nat) (c t : Nat) : Prop := (mm_i M' c 0 = nI t ∧ mm_i M' c 3 = ra_T I m t 1 ∧ mm_i M' c 4 = ra_T I m t 2 ∧ mm_i M' c 6 = ra_T I m t 5 ∧ mm_i M' c 7 = ra_T I m t 6) ∧ mm_i M' c 9 = mm_i M (ta t) 9 ∧ mm_i M' c 12 = mm_i M (ta t) 12 ∧ mm_r M' c 1 = mm_r M (ta t) 1 ∧ mm_r M' c 2 = 24 + lmI I m t
theorem tX_o {M1 M2 : mm_T} {c t : Nat} (h : tX_ M M1 I m ta c t) (hi : ∀ j, mm_i M2 c j = mm_i M1 c j) (hr : ∀ j, mm_r M2 c j = mm_r M1 c j) : tX_ M M2 I m ta c t := by
  obtain ⟨⟨a1, a2, a3, a4, a5⟩, a6, a7, a8, a9⟩ := h
  exact ⟨⟨(hi _).trans a1, (hi _).trans a2, (hi _).trans a3, (hi _).trans a4, (hi _).trans a5⟩, (hi _).trans a6, (hi _).trans a7, (hr _).trans a8, (hr _).trans a9⟩
def lN_ (M M' : mm_T) : Prop := (∀ l f, l < 5 → 1 ≤ f → f ≤ 8 → mm_i M' (24 + l) f = mm_i M (12 + l) f) ∧ (∀ k, k < 6 → mm_i M' 23 k = mm_i M 11 k) ∧ ∀ s, s < 7 → mm_i M' 22 s = mm_i M 10 s
theorem re_17 (h : re_ M I m n ta tm) : mm_k M 17 = (8, 8) ∧ mm_r M 17 0 = 18 ∧ mm_r M 17 1 = 29 ∧ mm_r M 17 2 = 30 ∧ ak_ M 29 3 48 ∧ ak_ M 30 0 5 ∧ (∀ i, i < 48 → mm_k M (31 + i) = (6, 17) ∧ mm_r M 29 i = 31 + i) ∧ bS M 18 := h.1.1.2.1
theorem ld_row (h : re_ M I m n ta tm) {Q : mm_T → Prop} (K : ∀ M', fx_ zI_ zR_ M M' → lN_ M M' → ro_ M' 20 21 48 ((List.range (sl_ (sgI I m) n).length).map (fun i => 31 + i)) → (∀ i t, (sl_ (sgI I m) n)[i]? = some t → tX_ M M' I m ta (31 + i) t) → Q M') : ∀ (j i : Nat) {Mi : mm_T}, i + j = (sl_ (sgI I m) n).length → fx_ zI_ zR_ M Mi → lN_ M Mi → ro_ Mi 20 21 48 ((List.range i).map (fun i => 31 + i)) → (∀ i' t, i' < i → (sl_ (sgI I m) n)[i']? = some t → tX_ M Mi I m ta (31 + i') t) → cw_v mt_X8_load 85 [some (pv_r 17), some (pv_r 6), some (pv_i (nI i)), none] [] Mi Q
  | 0, i, Mi, hi, f, l, r, x => by
    have h1 := re_z h f
    have e : i = (sl_ (sgI I m) n).length := by omega
    subst e
    obtain ⟨b1, b2⟩ := re_bk h1
    obtain ⟨s1, s2, s3, s4, s5, s6, s7, s8, s9, -⟩ := br_S h1.1.2.1
    have rr := h1.1.2.1.1.2.2.2.2.1
    refine wc_X8_load_85 (re_17 h1).1 ⟨b2, ?_⟩
    rw [s4]
    refine ⟨s5, ?_⟩
    rw [rr.2.2.2.2.2.1, List.length_map]
    exact ⟨fun _ => K Mi f l r (fun i t q => x i t (gl_lt q) q), fun q => absurd (Int32.le_refl _) q⟩
  | j + 1, i, Mi, hi, f, l, r, x => by
    have h1 := re_z h f
    obtain ⟨b1, b2⟩ := re_bk h1
    obtain ⟨s1, s2, s3, s4, s5, s6, s7, s8, s9, -⟩ := br_S h1.1.2.1
    obtain ⟨k1, k2, k3, k4, k5, k6, k7, k8⟩ := re_17 h1
    have rr := h1.1.2.1.1.2.2.2.2.1
    have h48 : (sl_ (sgI I m) n).length ≤ 48 := by
      have := rr.2.2.2.2.1
      rwa [List.length_map] at this
    have hlt : i < (sl_ (sgI I m) n).length := by omega
    obtain ⟨t, et⟩ : ∃ t, (sl_ (sgI I m) n)[i]? = some t := ⟨_, List.getElem?_eq_getElem hlt⟩
    have ht := sl_mem (List.mem_of_getElem? et)
    have g := re_ge h1 ht.1
    obtain ⟨l1, l2⟩ := lm_of h1.1.2.1.2.1 ht.1
    obtain ⟨⟨c1, c2, c3, c4, c5, c6⟩, ⟨d1, d2, d3, d4, d5, d6, d7, d8⟩, -⟩ := h1.1.2.2.1.1 t ht.1
    have rt : mm_r Mi 9 i = ta t := rr.2.2.2.2.2.2.1 i (ta t) (by rw [List.getElem?_map, et]; rfl)
    refine wc_X8_load_85 k1 ⟨b2, ?_⟩
    rw [s4]
    refine ⟨s5, ?_⟩
    rw [rr.2.2.2.2.2.1, List.length_map, s6]
    refine ⟨fun q => absurd q (nI_ge hlt (by omega)), fun _ => ⟨48, s7, i, ⟨rfl, by omega⟩, 48, by rw [k3]; exact k5, by omega, ?_⟩⟩
    rw [k3, (k7 i (by omega)).2, k2]
    rw [show (6 + 3 : Nat) = 9 from rfl, rt, c5]
    have kl := br_ln h1.1.2.1 l1
    refine ⟨g.2, kl.1, k8.1, ?_⟩
    rw [show mm_i Mi (12 + lmI I m t) 0 = nI (lmI I m t) from kl.2.2]
    refine cb_laneAt k8 (fun l' hl' e => ?_) (fun q => absurd (in_4' l1) q)
    have el : lmI I m t = l' := (nI_eq (by omega) (by omega)).mp e
    subst el
    refine ⟨(k7 i (by omega)).1, cc_tcopy (k7 i (by omega)).1 g.2 (by omega) (fun M24 F => ?_)⟩
    obtain ⟨⟨F0, F3, F4, F6, F7, F9, F12⟩, ⟨F1, F2⟩, Ff⟩ := F
    have f24 : fx_ zI_ zR_ M M24 := fx_tr f (fx_up Ff (fun a j q => by unfold zI_; omega) (fun a j q => by unfold zR_; omega))
    have h24 := re_z h f24
    obtain ⟨q1, q2, q3, q4, q5, q6, q7, q8⟩ := re_17 h24
    rw [q2, q3, (q7 i (by omega)).2]
    refine ⟨q8.1, 48, q5, by omega, ?_⟩
    rw [q8.2.2.2.1]
    have r24 : ro_ M24 20 21 48 ((List.range i).map (fun i => 31 + i)) := ro_o r Ff.2.1 (Ff.2.2.2.1 _ _ (by omega)) (Ff.2.2.1 _ _ (by omega)) (fun i' => Ff.2.2.2.1 _ _ (by omega))
    refine ⟨q8.2.2.2.2.1, cc_append r24 (by rw [List.length_map, List.length_range]; omega) (q7 i (by omega)).1 (fun M39 r39 f39 => ?_)⟩
    have e39 : (List.range i).map (fun i => 31 + i) ++ [31 + i] = (List.range (i + 1)).map (fun i => 31 + i) := by rw [List.range_succ, List.map_append]; rfl
    rw [e39] at r39
    refine ld_row h K j (i + 1) (by omega) (fx_tr f24 (fx_up f39 (fun a j q => by unfold zI_; omega) (fun a j q => by unfold zR_; omega))) ⟨fun l' f' y1 y2 y3 => ?_, fun k y => ?_, fun s y => ?_⟩ r39 (fun i' t' y1 y2 => ?_)
    · rw [f39.2.2.1 _ _ (by omega), Ff.2.2.1 _ _ (by omega)]
      exact l.1 l' f' y1 y2 y3
    · rw [f39.2.2.1 _ _ (by omega), Ff.2.2.1 _ _ (by omega)]
      exact l.2.1 k y
    · rw [f39.2.2.1 _ _ (by omega), Ff.2.2.1 _ _ (by omega)]
      exact l.2.2 s y
    · by_cases z : i' = i
      · subst z
        rw [et] at y2
        cases y2
        have o9 : mm_i Mi (ta t) 9 = mm_i M (ta t) 9 := f.2.2.1 _ _ (by unfold zI_; omega)
        have o12 : mm_i Mi (ta t) 12 = mm_i M (ta t) 12 := f.2.2.1 _ _ (by unfold zI_; omega)
        have o1 : mm_r Mi (ta t) 1 = mm_r M (ta t) 1 := f.2.2.2.1 _ _ (by unfold zR_; omega)
        refine tX_o (M1 := M24) ⟨⟨F0.trans c3, F3.trans d1, F4.trans d2, F6.trans d4, F7.trans d5⟩, F9.trans o9, F12.trans o12, F1.trans o1, F2⟩ (fun j' => f39.2.2.1 _ _ (by omega)) (fun j' => f39.2.2.2.1 _ _ (by omega))
      · refine tX_o (x i' t' (by omega) y2) (fun j' => ?_) (fun j' => ?_)
        · have := gl_lt y2
          rw [f39.2.2.1 _ _ (by omega), Ff.2.2.1 _ _ (by omega)]
        · have := gl_lt y2
          rw [f39.2.2.2.1 _ _ (by omega), Ff.2.2.2.1 _ _ (by omega)]
theorem ld_lane (h : re_ M I m n ta tm) {Q : mm_T → Prop} (K : ∀ M', fx_ zI_ zR_ M M' → lN_ M M' → ro_ M' 20 21 48 ((List.range (sl_ (sgI I m) n).length).map (fun i => 31 + i)) → (∀ i t, (sl_ (sgI I m) n)[i]? = some t → tX_ M M' I m ta (31 + i) t) → Q M') : ∀ (j l : Nat) {Mi : mm_T}, l + j = 5 → fx_ (fun a j => 24 ≤ a ∧ a < 29 ∧ 0 < j) (fun _ _ => False) M Mi → (∀ l' f, l' < l → 1 ≤ f → f ≤ 8 → mm_i Mi (24 + l') f = mm_i M (12 + l') f) → cw_v mt_X8_load 2 [some (pv_r 17), some (pv_r 6), some (pv_i (nI l)), none] [] Mi Q
  | 0, l, Mi, hl, f, x => by
    have fz : fx_ zI_ zR_ M Mi := fx_up f (fun a j q => by unfold zI_; omega) (fun _ _ q => q.elim)
    have h1 := re_z h fz
    have e : l = 5 := by omega
    subst e
    obtain ⟨b1, b2⟩ := re_bk h1
    obtain ⟨s1, s2, s3, s4, s5, s6, s7, s8, s9, s10, s11, -⟩ := br_S h1.1.2.1
    obtain ⟨k1, k2, k3, k4, k5, k6, k7, k8⟩ := re_17 h1
    obtain ⟨t1, t2, t3, t4, t5, t6, t7, t8, t9, t10, t11, -⟩ := id k8
    refine wc_X8_load_2 k1 ⟨fun _ => ?_, fun q => absurd (by decide) q⟩
    rw [k2, t10, s10]
    refine ⟨b2, t1, 6, t11, 6, s11, by omega, by omega, fun M9 e9 => ?_⟩
    have f9 : fx_ zI_ zR_ Mi M9 := by rw [e9]; exact fx_ws (fun j => by unfold zI_; omega)
    have v9 : ∀ k, k < 6 → mm_i M9 23 k = mm_i Mi 11 k := fun k q => by
      rw [e9]
      show (if 23 = 18 + 5 then va_cpy (mm_i Mi (6 + 5)) (mm_i Mi (18 + 5)) 0 0 6 k else mm_i Mi 23 k) = _
      rw [if_pos rfl, pk_cpy_in (by omega) (by omega)]
      congr 1
      omega
    have o9 : ∀ a j, a ≠ 23 → mm_i M9 a j = mm_i Mi a j := fun a j q => by
      rw [e9]
      exact if_neg q
    have h9 := re_z h1 f9
    obtain ⟨b1', b2'⟩ := re_bk h9
    obtain ⟨s1', s2', s3', s4', s5', s6', s7', s8', s9', s10', s11', -⟩ := br_S h9.1.2.1
    obtain ⟨k1', k2', k3', k4', k5', k6', k7', k8'⟩ := re_17 h9
    obtain ⟨t1', t2', t3', t4', t5', t6', t7', t8', t9', t10', t11', -⟩ := id k8'
    rw [k2', t8', s8']
    refine ⟨t1', 7, s9', 7, t9', by omega, by omega, fun M22 e22 => ?_⟩
    have f22 : fx_ zI_ zR_ M9 M22 := by rw [e22]; exact fx_ws (fun j => by unfold zI_; omega)
    have v22 : ∀ k, k < 7 → mm_i M22 22 k = mm_i M9 10 k := fun k q => by
      rw [e22]
      show (if 22 = 18 + 4 then va_cpy (mm_i M9 (6 + 4)) (mm_i M9 (18 + 4)) 0 0 7 k else mm_i M9 22 k) = _
      rw [if_pos rfl, pk_cpy_in (by omega) (by omega)]
      congr 1
      omega
    have o22 : ∀ a j, a ≠ 22 → mm_i M22 a j = mm_i M9 a j := fun a j q => by
      rw [e22]
      exact if_neg q
    have h22 := re_z h9 f22
    obtain ⟨k1'', k2'', k3'', k4'', k5'', k6'', k7'', k8''⟩ := re_17 h22
    obtain ⟨t1'', t2'', t3'', t4'', t5'', t6'', t7'', t8'', t9'', t10'', t11'', -⟩ := id k8''
    rw [k2'', t4'']
    refine ⟨t1'', t5'', wc_X4_clear_0 t5'' (fun M33 e33 => ?_)⟩
    have f33 : fx_ zI_ zR_ M22 M33 := by rw [e33]; exact fx_pi (by unfold zI_; omega)
    have F : fx_ zI_ zR_ M M33 := fx_tr fz (fx_tr f9 (fx_tr f22 f33))
    have o33 : ∀ a j, a ≠ 20 → mm_i M33 a j = mm_i M22 a j := fun a j q => by rw [e33, mi_pia q]
    refine ld_row h K _ 0 (Nat.zero_add _) F ⟨fun l' f' y1 y2 y3 => ?_, fun k y => ?_, fun s y => ?_⟩ ⟨by rw [e33]; exact t5'', by rw [e33]; exact t6'', by rw [e33]; exact t7'', by decide, by simp, by rw [e33, mi_pis]; rfl, fun i x q => by simp at q, by decide⟩ (fun i' t y => absurd y (by omega))
    · rw [o33 _ _ (by omega), o22 _ _ (by omega), o9 _ _ (by omega)]
      exact x l' f' y1 y2 y3
    · rw [o33 _ _ (by omega), o22 _ _ (by omega), v9 k y]
      exact f.2.2.1 _ _ (by omega)
    · rw [o33 _ _ (by omega), v22 s y, o9 _ _ (by omega)]
      exact f.2.2.1 _ _ (by omega)
  | j + 1, l, Mi, hl, f, x => by
    have fz : fx_ zI_ zR_ M Mi := fx_up f (fun a j q => by unfold zI_; omega) (fun _ _ q => q.elim)
    have h1 := re_z h fz
    obtain ⟨b1, b2⟩ := re_bk h1
    obtain ⟨s1, s2, s3, s4, s5, s6, s7, s8, s9, s10, s11, s12⟩ := br_S h1.1.2.1
    obtain ⟨k1, k2, k3, k4, k5, k6, k7, k8⟩ := re_17 h1
    obtain ⟨t1, t2, t3, t4, t5, t6, t7, t8, t9, t10, t11, t12⟩ := id k8
    refine wc_X8_load_2 k1 ⟨fun q => absurd q (nI_5 (by omega)), fun _ => ?_⟩
    rw [k2, t2, s2]
    refine ⟨t1, 5, t3, l, ⟨rfl, by omega⟩, b2, 5, s3, by omega, ?_⟩
    rw [(t12 l (by omega)).2.1, (s12 l (by omega)).2.1]
    refine ⟨(t12 l (by omega)).1, cc_lcopy (t12 l (by omega)).1 (s12 l (by omega)).1 (by omega) (fun M2 F => ?_)⟩
    refine ld_lane h K j (l + 1) (by omega) (fx_tr f (fx_up F.2 (fun a j q => by omega) (fun _ _ q => q))) (fun l' f' y1 y2 y3 => ?_)
    by_cases z : l' = l
    · subst z
      rw [show 24 + l' = 18 + 6 + l' by omega, F.1 f' y2 y3]
      exact f.2.2.1 _ _ (by omega)
    · rw [F.2.2.2.1 _ _ (by omega)]
      exact x l' f' (by omega) y2 y3
/-- the trial's board stands for the same ints -/
theorem ce_load (h : re_ M I m n ta tm) {Q : mm_T → Prop} (K : ∀ M', fx_ zI_ zR_ M M' → br_ M' 18 (tc_n I m) I m n → (∀ t, t < n → sd_ (sgI I m t) = true → 31 ≤ tc_n I m t ∧ tc_n I m t < 79 ∧ tX_ M M' I m ta (tc_n I m t) t) → Q M') : cs_v mt_X8_load [pv_r 17, pv_r 6] M Q := by
  have h4 := re_4 h
  refine wc_X8_load_0 (re_17 h).1 (ld_lane h (fun M' f l r x => ?_) 5 0 rfl fx_rf (fun l' f q => by omega))
  have h1 := re_z h f
  obtain ⟨a1, a2, a3, a4, a5, a6⟩ := id h.1.2.1
  obtain ⟨hS, hn, hL, hC, hR, hTs⟩ := id a1
  have h48 : (sl_ (sgI I m) n).length ≤ 48 := by
    have := hR.2.2.2.2.1
    rwa [List.length_map] at this
  have at_ : ∀ t, t < n → sd_ (sgI I m t) = true → (sl_ (sgI I m) n)[tc_n I m t - 31]? = some t := fun t q1 q2 => by
    have := sl_at n q1 q2
    unfold tc_n
    rw [Nat.add_sub_cancel_left]
    exact this
  have tX : ∀ t, t < n → sd_ (sgI I m t) = true → 31 ≤ tc_n I m t ∧ tc_n I m t < 79 ∧ tX_ M M' I m ta (tc_n I m t) t := fun t q1 q2 => by
    have q3 := at_ t q1 q2
    have q4 := gl_lt q3
    have q5 : 31 ≤ tc_n I m t := by unfold tc_n; omega
    have := x _ t q3
    rw [show 31 + (tc_n I m t - 31) = tc_n I m t by omega] at this
    exact ⟨q5, by omega, this⟩
  have k7 := (re_17 h1).2.2.2.2.2.2.1
  refine K M' f ⟨⟨(re_17 h1).2.2.2.2.2.2.2, hn, fun l' q => ?_, fun s q => ?_, by rw [tc_sl]; exact r, fun t q1 q2 => ?_⟩, a2, fun l' q => ?_, fun k q => ?_, fun t q1 q2 => ?_, fun t t' q1 q2 q3 q4 q5 => ?_⟩ tX
  · rw [show 18 + 6 + l' = 24 + l' by omega, l.1 l' 6 q (by omega) (by omega), l.1 l' 7 q (by omega) (by omega), l.1 l' 8 q (by omega) (by omega)]
    exact hL l' q
  · rw [show 18 + 4 = 22 from rfl, l.2.2 s q]
    exact hC s q
  · obtain ⟨y1, y2, ⟨z0, z3, z4, z6, z7⟩, z9, z12, z1, z2⟩ := tX t q1 q2
    have := (k7 (tc_n I m t - 31) (by omega)).1
    rw [show 31 + (tc_n I m t - 31) = tc_n I m t by omega] at this
    exact ⟨this, z0, z7, by rw [z2], (lm_of a2 q1).1⟩
  · rw [show 18 + 6 + l' = 24 + l' by omega, l.1 l' 1 q (by omega) (by omega), l.1 l' 2 q (by omega) (by omega), l.1 l' 3 q (by omega) (by omega), l.1 l' 5 q (by omega) (by omega)]
    exact a3 l' q
  · rw [show 18 + 5 = 23 from rfl, l.2.1 k q]
    exact a4 k q
  · obtain ⟨y1, y2, ⟨z0, z3, z4, z6, z7⟩, -⟩ := tX t q1 q2
    exact ⟨z3, z4, z6⟩
  · have y1 := at_ t q1 q3
    have y2 := at_ t' q2 q4
    rw [q5, y2] at y1
    exact (Option.some.inj y1).symm
end Load2
