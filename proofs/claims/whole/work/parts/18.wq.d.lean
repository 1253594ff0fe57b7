/-! the walks of the reference, by program (wip/whole/walk2.py) -/
set_option maxRecDepth 20000 in
theorem wq_X11_raise_0 {B : mm_T} {I : Nat → Nat → Int32} {m : Nat} (RK : rf_ok B m) {x1 x2 : Int32} {P : Int64 → (Nat → Nat → Int32) → Prop} (H : ((((0 ≤ x1 ∧ x1 ≤ I (m + 1) 1 - 1)) → ((((0 ≤ x2 ∧ x2 ≤ 9)) → ∃ n1, (x1 = nI n1 ∧ n1 < 400) ∧ (((((I (m + 1) (200 + 14 * n1 + 6) ≤ 2)) → (((¬ I (m + 1) (200 + 14 * n1 + 1) = x2) → ∀ I2, I2 = i2_u I (m + 1) (200 + 14 * n1 + 1) x2 → P ((ra_rank I2 m n1).toInt64) I2) ∧ ((I (m + 1) (200 + 14 * n1 + 1) = x2) → (I m 8 = 0) ∧ (∀ I3, I3 = i2_u I m 7 (I m 7 + 1) → P ((-3 : Int32).toInt64) I3)))) ∧ ((¬ (I (m + 1) (200 + 14 * n1 + 6) ≤ 2)) → (I m 8 = 0) ∧ (∀ I4, I4 = i2_u I m 7 (I m 7 + 1) → P ((-3 : Int32).toInt64) I4))))) ∧ ((¬ (0 ≤ x2 ∧ x2 ≤ 9)) → (I m 8 = 0) ∧ (∀ I5, I5 = i2_u I m 7 (I m 7 + 1) → P ((-2 : Int32).toInt64) I5)))) ∧ ((¬ (0 ≤ x1 ∧ x1 ≤ I (m + 1) 1 - 1)) → (I m 8 = 0) ∧ (∀ I6, I6 = i2_u I m 7 (I m 7 + 1) → P ((-2 : Int32).toInt64) I6)))) : rw_l mt_X11_raise 0 [some (pv_r m), some (pv_i x1), some (pv_i x2)] [] B I P := by
  refine go_aload_n dX11_raise_0 rfl ?_
  refine go_iload_n dX11_raise_1 rfl ?_
  by_cases hc : (0 ≤ x1 ∧ x1 ≤ I (m + 1) 1 - 1)
  · replace H := H.1 hc
    refine go_V (av := [pv_i x1]) (st := []) (ci := 11) ok_X11_isTask ⟨by decide, by decide⟩ ml_X11_161 rfl (by decide) (fun v hv => by simp only [List.mem_cons, List.not_mem_nil, or_false] at hv; rcases hv with rfl <;> first | exact pv_1i | exact pv_1r) (Nat.le_of_ble_eq_true rfl) (fun _ h => h) (by decide) rfl RK.1 dX11_raise_2 (rx_isTask_t RK hc) (fun r M' hq _ => ?_)
    obtain ⟨_, rfl, _, rfl, rfl, rfl⟩ := hq
    show go_W mt_X11_raise fr_R 5 [some (pv_r m), some (pv_i x1), some (pv_i x2)] [pv_i (1 : Int32)] (mm_si B I) (ql_ (fun x M' => ∃ I', M' = mm_si B I' ∧ P x I'))
    refine go_if_eq (tgt := 15) dX11_raise_5 (by decide) (fun hc => absurd hc (by decide)) (fun _ => ?_)
    refine go_iload_n dX11_raise_8 rfl ?_
    by_cases hc : (0 ≤ x2 ∧ x2 ≤ 9)
    · replace H := H.1 hc
      refine go_St (av := [pv_i x2]) (st := []) ok_X11_isPriority ⟨by decide, by decide⟩ ml_X11_155 rfl (by decide) (fun v hv => by simp only [List.mem_cons, List.not_mem_nil, or_false] at hv; rcases hv with rfl <;> first | exact pv_1i | exact pv_1r) (Nat.le_of_ble_eq_true rfl) (fun _ h => h) dX11_raise_9 (rx_isPriority_t RK hc) (fun r M' hq _ => ?_)
      obtain ⟨_, rfl, _, rfl, rfl, rfl⟩ := hq
      show go_W mt_X11_raise fr_R 12 [some (pv_r m), some (pv_i x1), some (pv_i x2)] [pv_i (1 : Int32)] (mm_si B I) (ql_ (fun x M' => ∃ I', M' = mm_si B I' ∧ P x I'))
      refine go_if_ne (tgt := 23) dX11_raise_12 (by decide) (fun _ => ?_) (fun hc => absurd hc (by decide))
      refine go_aload_n dX11_raise_23 rfl ?_
      refine go_iload_n dX11_raise_24 rfl ?_
      obtain ⟨n1, ⟨hn1, hn1b⟩, H⟩ := H
      by_cases hc : (I (m + 1) (200 + 14 * n1 + 6) ≤ 2)
      · replace H := H.1 hc
        refine go_V (av := [pv_i x1]) (st := []) (ci := 11) ok_X11_isAtRest ⟨by decide, by decide⟩ ml_X11_230 rfl (by decide) (fun v hv => by simp only [List.mem_cons, List.not_mem_nil, or_false] at hv; rcases hv with rfl <;> first | exact pv_1i | exact pv_1r) (Nat.le_of_ble_eq_true rfl) (fun _ h => h) (by decide) rfl RK.1 dX11_raise_25 (rx_isAtRest_t RK hn1 hn1b hc) (fun r M' hq _ => ?_)
        obtain ⟨_, rfl, _, rfl, rfl, rfl⟩ := hq
        show go_W mt_X11_raise fr_R 28 [some (pv_r m), some (pv_i x1), some (pv_i x2)] [pv_i (1 : Int32)] (mm_si B I) (ql_ (fun x M' => ∃ I', M' = mm_si B I' ∧ P x I'))
        refine go_if_eq (tgt := 41) dX11_raise_28 (by decide) (fun hc => absurd hc (by decide)) (fun _ => ?_)
        refine go_aload_n dX11_raise_31 rfl ?_
        refine go_iload_n dX11_raise_32 rfl ?_
        refine go_iconst (v := (1 : Int32)) rfl dX11_raise_33 ?_
        refine go_V (av := [pv_i x1, pv_i (1 : Int32)]) (st := []) (ci := 11) ok_X11_of ⟨by decide, by decide⟩ ml_X11_94 rfl (by decide) (fun v hv => by simp only [List.mem_cons, List.not_mem_nil, or_false] at hv; rcases hv with rfl | rfl <;> first | exact pv_1i | exact pv_1r) (Nat.le_of_ble_eq_true rfl) (fun _ h => h) (by decide) rfl RK.1 dX11_raise_34 (rx_of RK hn1 rfl (by omega) (by decide)) (fun r M' hq _ => ?_)
        obtain ⟨_, rfl, _, rfl, rfl, rfl⟩ := hq
        show go_W mt_X11_raise fr_R 37 [some (pv_r m), some (pv_i x1), some (pv_i x2)] [pv_i (I (m + 1) (200 + 14 * n1 + 1))] (mm_si B I) (ql_ (fun x M' => ∃ I', M' = mm_si B I' ∧ P x I'))
        refine go_iload_n dX11_raise_37 rfl ?_
        refine go_icmp_ne (tgt := 49) dX11_raise_38 (by decide) (fun hc => ?_) (fun hc => ?_)
        · replace H := H.1 hc
          refine go_aload_n dX11_raise_49 rfl ?_
          refine go_iload_n dX11_raise_50 rfl ?_
          refine go_iconst (v := (1 : Int32)) rfl dX11_raise_51 ?_
          refine go_iload_n dX11_raise_52 rfl ?_
          refine go_V (av := [pv_i x1, pv_i (1 : Int32), pv_i x2]) (st := []) (ci := 11) ok_X11_is ⟨by decide, by decide⟩ ml_X11_121 rfl (by decide) (fun v hv => by simp only [List.mem_cons, List.not_mem_nil, or_false] at hv; rcases hv with rfl | rfl | rfl <;> first | exact pv_1i | exact pv_1r) (Nat.le_of_ble_eq_true rfl) (fun _ h => h) (by decide) rfl RK.1 dX11_raise_53 (rx_is RK hn1 rfl (by omega) (by decide)) (fun r M' hq _ => ?_)
          obtain ⟨rfl, _, rfl, rfl⟩ := hq
          show go_W mt_X11_raise fr_R 56 [some (pv_r m), some (pv_i x1), some (pv_i x2)] [] (mm_si B (i2_u I (m + 1) (200 + 14 * n1 + 1) x2)) (ql_ (fun x M' => ∃ I', M' = mm_si B I' ∧ P x I'))
          obtain ⟨I2, hI2⟩ : ∃ I', I' = i2_u I (m + 1) (200 + 14 * n1 + 1) x2 := ⟨_, rfl⟩
          rw [← hI2]
          replace H := H I2 hI2
          refine go_aload_n dX11_raise_56 rfl ?_
          refine go_iload_n dX11_raise_57 rfl ?_
          refine go_V (av := [pv_i x1]) (st := []) (ci := 11) ok_X11_rankOf ⟨by decide, by decide⟩ ml_X11_102 rfl (by decide) (fun v hv => by simp only [List.mem_cons, List.not_mem_nil, or_false] at hv; rcases hv with rfl <;> first | exact pv_1i | exact pv_1r) (Nat.le_of_ble_eq_true rfl) (fun _ h => h) (by decide) rfl RK.1 dX11_raise_58 (rx_rankOf RK hn1 (by omega)) (fun r M' hq _ => ?_)
          obtain ⟨_, rfl, _, rfl, rfl, rfl⟩ := hq
          show go_W mt_X11_raise fr_R 61 [some (pv_r m), some (pv_i x1), some (pv_i x2)] [pv_i (ra_rank I2 m n1)] (mm_si B I2) (ql_ (fun x M' => ∃ I', M' = mm_si B I' ∧ P x I'))
          refine go_i2l dX11_raise_61 ?_
          exact go_lret rfl dX11_raise_62 ⟨_, rfl, _, rfl, H⟩
        · replace H := H.2 hc
          refine go_aload_n dX11_raise_41 rfl ?_
          refine go_bipush (v := (-3 : Int32)) rfl dX11_raise_42 ?_
          obtain ⟨h8, H⟩ := H
          refine go_V (av := [pv_i (-3 : Int32)]) (st := []) (ci := 11) ok_X11_refuses ⟨by decide, by decide⟩ ml_X11_199 rfl (by decide) (fun v hv => by simp only [List.mem_cons, List.not_mem_nil, or_false] at hv; rcases hv with rfl <;> first | exact pv_1i | exact pv_1r) (Nat.le_of_ble_eq_true rfl) (fun _ h => h) (by decide) rfl RK.1 dX11_raise_44 (rx_refuses RK h8) (fun r M' hq _ => ?_)
          obtain ⟨_, rfl, _, rfl, rfl, rfl⟩ := hq
          show go_W mt_X11_raise fr_R 47 [some (pv_r m), some (pv_i x1), some (pv_i x2)] [pv_i (-3 : Int32)] (mm_si B (i2_u I m 7 (I m 7 + 1))) (ql_ (fun x M' => ∃ I', M' = mm_si B I' ∧ P x I'))
          obtain ⟨I3, hI3⟩ : ∃ I', I' = i2_u I m 7 (I m 7 + 1) := ⟨_, rfl⟩
          rw [← hI3]
          replace H := H I3 hI3
          refine go_i2l dX11_raise_47 ?_
          exact go_lret rfl dX11_raise_48 ⟨_, rfl, _, rfl, H⟩
      · replace H := H.2 hc
        refine go_V (av := [pv_i x1]) (st := []) (ci := 11) ok_X11_isAtRest ⟨by decide, by decide⟩ ml_X11_230 rfl (by decide) (fun v hv => by simp only [List.mem_cons, List.not_mem_nil, or_false] at hv; rcases hv with rfl <;> first | exact pv_1i | exact pv_1r) (Nat.le_of_ble_eq_true rfl) (fun _ h => h) (by decide) rfl RK.1 dX11_raise_25 (rx_isAtRest_f RK hn1 hn1b hc) (fun r M' hq _ => ?_)
        obtain ⟨_, rfl, _, rfl, rfl, rfl⟩ := hq
        show go_W mt_X11_raise fr_R 28 [some (pv_r m), some (pv_i x1), some (pv_i x2)] [pv_i (0 : Int32)] (mm_si B I) (ql_ (fun x M' => ∃ I', M' = mm_si B I' ∧ P x I'))
        refine go_if_eq (tgt := 41) dX11_raise_28 (by decide) (fun _ => ?_) (fun hc => absurd hc (by decide))
        refine go_aload_n dX11_raise_41 rfl ?_
        refine go_bipush (v := (-3 : Int32)) rfl dX11_raise_42 ?_
        obtain ⟨h8, H⟩ := H
        refine go_V (av := [pv_i (-3 : Int32)]) (st := []) (ci := 11) ok_X11_refuses ⟨by decide, by decide⟩ ml_X11_199 rfl (by decide) (fun v hv => by simp only [List.mem_cons, List.not_mem_nil, or_false] at hv; rcases hv with rfl <;> first | exact pv_1i | exact pv_1r) (Nat.le_of_ble_eq_true rfl) (fun _ h => h) (by decide) rfl RK.1 dX11_raise_44 (rx_refuses RK h8) (fun r M' hq _ => ?_)
        obtain ⟨_, rfl, _, rfl, rfl, rfl⟩ := hq
        show go_W mt_X11_raise fr_R 47 [some (pv_r m), some (pv_i x1), some (pv_i x2)] [pv_i (-3 : Int32)] (mm_si B (i2_u I m 7 (I m 7 + 1))) (ql_ (fun x M' => ∃ I', M' = mm_si B I' ∧ P x I'))
        obtain ⟨I4, hI4⟩ : ∃ I', I' = i2_u I m 7 (I m 7 + 1) := ⟨_, rfl⟩
        rw [← hI4]
        replace H := H I4 hI4
        refine go_i2l dX11_raise_47 ?_
        exact go_lret rfl dX11_raise_48 ⟨_, rfl, _, rfl, H⟩
    · replace H := H.2 hc
      refine go_St (av := [pv_i x2]) (st := []) ok_X11_isPriority ⟨by decide, by decide⟩ ml_X11_155 rfl (by decide) (fun v hv => by simp only [List.mem_cons, List.not_mem_nil, or_false] at hv; rcases hv with rfl <;> first | exact pv_1i | exact pv_1r) (Nat.le_of_ble_eq_true rfl) (fun _ h => h) dX11_raise_9 (rx_isPriority_f RK hc) (fun r M' hq _ => ?_)
      obtain ⟨_, rfl, _, rfl, rfl, rfl⟩ := hq
      show go_W mt_X11_raise fr_R 12 [some (pv_r m), some (pv_i x1), some (pv_i x2)] [pv_i (0 : Int32)] (mm_si B I) (ql_ (fun x M' => ∃ I', M' = mm_si B I' ∧ P x I'))
      refine go_if_ne (tgt := 23) dX11_raise_12 (by decide) (fun hc => absurd hc (by decide)) (fun _ => ?_)
      refine go_aload_n dX11_raise_15 rfl ?_
      refine go_bipush (v := (-2 : Int32)) rfl dX11_raise_16 ?_
      obtain ⟨h8, H⟩ := H
      refine go_V (av := [pv_i (-2 : Int32)]) (st := []) (ci := 11) ok_X11_refuses ⟨by decide, by decide⟩ ml_X11_199 rfl (by decide) (fun v hv => by simp only [List.mem_cons, List.not_mem_nil, or_false] at hv; rcases hv with rfl <;> first | exact pv_1i | exact pv_1r) (Nat.le_of_ble_eq_true rfl) (fun _ h => h) (by decide) rfl RK.1 dX11_raise_18 (rx_refuses RK h8) (fun r M' hq _ => ?_)
      obtain ⟨_, rfl, _, rfl, rfl, rfl⟩ := hq
      show go_W mt_X11_raise fr_R 21 [some (pv_r m), some (pv_i x1), some (pv_i x2)] [pv_i (-2 : Int32)] (mm_si B (i2_u I m 7 (I m 7 + 1))) (ql_ (fun x M' => ∃ I', M' = mm_si B I' ∧ P x I'))
      obtain ⟨I5, hI5⟩ : ∃ I', I' = i2_u I m 7 (I m 7 + 1) := ⟨_, rfl⟩
      rw [← hI5]
      replace H := H I5 hI5
      refine go_i2l dX11_raise_21 ?_
      exact go_lret rfl dX11_raise_22 ⟨_, rfl, _, rfl, H⟩
  · replace H := H.2 hc
    refine go_V (av := [pv_i x1]) (st := []) (ci := 11) ok_X11_isTask ⟨by decide, by decide⟩ ml_X11_161 rfl (by decide) (fun v hv => by simp only [List.mem_cons, List.not_mem_nil, or_false] at hv; rcases hv with rfl <;> first | exact pv_1i | exact pv_1r) (Nat.le_of_ble_eq_true rfl) (fun _ h => h) (by decide) rfl RK.1 dX11_raise_2 (rx_isTask_f RK hc) (fun r M' hq _ => ?_)
    obtain ⟨_, rfl, _, rfl, rfl, rfl⟩ := hq
    show go_W mt_X11_raise fr_R 5 [some (pv_r m), some (pv_i x1), some (pv_i x2)] [pv_i (0 : Int32)] (mm_si B I) (ql_ (fun x M' => ∃ I', M' = mm_si B I' ∧ P x I'))
    refine go_if_eq (tgt := 15) dX11_raise_5 (by decide) (fun _ => ?_) (fun hc => absurd hc (by decide))
    refine go_aload_n dX11_raise_15 rfl ?_
    refine go_bipush (v := (-2 : Int32)) rfl dX11_raise_16 ?_
    obtain ⟨h8, H⟩ := H
    refine go_V (av := [pv_i (-2 : Int32)]) (st := []) (ci := 11) ok_X11_refuses ⟨by decide, by decide⟩ ml_X11_199 rfl (by decide) (fun v hv => by simp only [List.mem_cons, List.not_mem_nil, or_false] at hv; rcases hv with rfl <;> first | exact pv_1i | exact pv_1r) (Nat.le_of_ble_eq_true rfl) (fun _ h => h) (by decide) rfl RK.1 dX11_raise_18 (rx_refuses RK h8) (fun r M' hq _ => ?_)
    obtain ⟨_, rfl, _, rfl, rfl, rfl⟩ := hq
    show go_W mt_X11_raise fr_R 21 [some (pv_r m), some (pv_i x1), some (pv_i x2)] [pv_i (-2 : Int32)] (mm_si B (i2_u I m 7 (I m 7 + 1))) (ql_ (fun x M' => ∃ I', M' = mm_si B I' ∧ P x I'))
    obtain ⟨I6, hI6⟩ : ∃ I', I' = i2_u I m 7 (I m 7 + 1) := ⟨_, rfl⟩
    rw [← hI6]
    replace H := H I6 hI6
    refine go_i2l dX11_raise_21 ?_
    exact go_lret rfl dX11_raise_22 ⟨_, rfl, _, rfl, H⟩
set_option maxRecDepth 20000 in
theorem wq_X11_leavesAside_0 {B : mm_T} {I : Nat → Nat → Int32} {m : Nat} (RK : rf_ok B m) {x1 : Int32} {P : (Nat → Nat → Int32) → Prop} (H : rw_v mt_X11_leavesAside 4 [some (pv_r m), some (pv_i x1), some (pv_i (0 : Int32)), some (pv_i (0 : Int32)), none] [] B I P) : rw_v mt_X11_leavesAside 0 [some (pv_r m), some (pv_i x1), none, none, none] [] B I P := by
  refine go_iconst (v := (0 : Int32)) rfl dX11_leavesAside_0 ?_
  refine go_istore_n (by decide) dX11_leavesAside_1 ?_
  show go_W mt_X11_leavesAside fr_R 2 [some (pv_r m), some (pv_i x1), some (pv_i (0 : Int32)), none, none] [] (mm_si B I) (qv_ (fun M' => ∃ I', M' = mm_si B I' ∧ P I'))
  refine go_iconst (v := (0 : Int32)) rfl dX11_leavesAside_2 ?_
  refine go_istore_n (by decide) dX11_leavesAside_3 ?_
  show go_W mt_X11_leavesAside fr_R 4 [some (pv_r m), some (pv_i x1), some (pv_i (0 : Int32)), some (pv_i (0 : Int32)), none] [] (mm_si B I) (qv_ (fun M' => ∃ I', M' = mm_si B I' ∧ P I'))
  exact H
set_option maxRecDepth 20000 in
theorem wq_X11_leavesAside_4 {B : mm_T} {I : Nat → Nat → Int32} {m : Nat} (RK : rf_ok B m) {x1 x2 x3 : Int32} {P : (Nat → Nat → Int32) → Prop} (H : (((I (m + 1) 3 ≤ x3) → ∀ I1, I1 = i2_u I (m + 1) 3 x2 → P I1) ∧ ((¬ I (m + 1) 3 ≤ x3) → ∃ n2, (((5800 : Int32) + x3) = nI n2 ∧ n2 < 6200) ∧ ((((¬ I (m + 1) n2 = x1) → ∃ n3, (((5800 : Int32) + x2) = nI n3 ∧ n3 < 6200) ∧ (∀ I4, I4 = i2_u I (m + 1) n3 (I (m + 1) n2) → rw_v mt_X11_leavesAside 4 [some (pv_r m), some (pv_i x1), some (pv_i (x2 + (1 : Int32))), some (pv_i (x3 + (1 : Int32))), none] [] B I4 P)) ∧ ((I (m + 1) n2 = x1) → rw_v mt_X11_leavesAside 4 [some (pv_r m), some (pv_i x1), some (pv_i x2), some (pv_i (x3 + (1 : Int32))), none] [] B I P)))))) : rw_v mt_X11_leavesAside 4 [some (pv_r m), some (pv_i x1), some (pv_i x2), some (pv_i x3), none] [] B I P := by
  refine go_iload_n dX11_leavesAside_4 rfl ?_
  refine go_aload_n dX11_leavesAside_5 rfl ?_
  refine go_getRe (k := 0) ⟨by decide, rfl, by decide, Or.inr ⟨_, rfl⟩⟩ RK.1 (rf_r1 RK) fl_X11_7 dX11_leavesAside_6 ?_
  refine go_iconst (v := (3 : Int32)) rfl dX11_leavesAside_9 ?_
  refine go_ialdN (j := 3) ⟨by decide, by decide, by decide⟩ (rf_k1 RK) rfl (by decide) dX11_leavesAside_10 ?_
  refine go_icmp_ge (tgt := 56) dX11_leavesAside_11 (by decide) (fun hc => ?_) (fun hc => ?_)
  · replace H := H.1 hc
    refine go_aload_n dX11_leavesAside_56 rfl ?_
    refine go_getRe (k := 0) ⟨by decide, rfl, by decide, Or.inr ⟨_, rfl⟩⟩ RK.1 (rf_r1 RK) fl_X11_7 dX11_leavesAside_57 ?_
    refine go_iconst (v := (3 : Int32)) rfl dX11_leavesAside_60 ?_
    refine go_iload_n dX11_leavesAside_61 rfl ?_
    refine go_iastN (j := 3) ⟨by decide, by decide, by decide⟩ (rf_k1 RK) rfl rfl (by decide) dX11_leavesAside_62 ?_
    show go_W mt_X11_leavesAside fr_R 63 [some (pv_r m), some (pv_i x1), some (pv_i x2), some (pv_i x3), none] [] (mm_si B (i2_u I (m + 1) 3 x2)) (qv_ (fun M' => ∃ I', M' = mm_si B I' ∧ P I'))
    obtain ⟨I1, hI1⟩ : ∃ I', I' = i2_u I (m + 1) 3 x2 := ⟨_, rfl⟩
    rw [← hI1]
    replace H := H I1 hI1
    exact go_vret rfl dX11_leavesAside_63 ⟨rfl, _, rfl, H⟩
  · replace H := H.2 hc
    refine go_aload_n dX11_leavesAside_14 rfl ?_
    refine go_getRe (k := 0) ⟨by decide, rfl, by decide, Or.inr ⟨_, rfl⟩⟩ RK.1 (rf_r1 RK) fl_X11_7 dX11_leavesAside_15 ?_
    refine go_sipush (v := (5800 : Int32)) rfl dX11_leavesAside_18 ?_
    refine go_iload_n dX11_leavesAside_21 rfl ?_
    refine go_iadd dX11_leavesAside_22 ?_
    obtain ⟨n2, ⟨hn2, hn2b⟩, H⟩ := H
    refine go_ialdN (j := n2) ⟨by decide, by decide, by decide⟩ (rf_k1 RK) hn2 hn2b dX11_leavesAside_23 ?_
    refine go_istore (by decide) dX11_leavesAside_24 ?_
    show go_W mt_X11_leavesAside fr_R 26 [some (pv_r m), some (pv_i x1), some (pv_i x2), some (pv_i x3), some (pv_i (I (m + 1) n2))] [] (mm_si B I) (qv_ (fun M' => ∃ I', M' = mm_si B I' ∧ P I'))
    refine go_iload dX11_leavesAside_26 rfl ?_
    refine go_iload_n dX11_leavesAside_28 rfl ?_
    refine go_icmp_ne (tgt := 35) dX11_leavesAside_29 (by decide) (fun hc => ?_) (fun hc => ?_)
    · replace H := H.1 hc
      refine go_aload_n dX11_leavesAside_35 rfl ?_
      refine go_getRe (k := 0) ⟨by decide, rfl, by decide, Or.inr ⟨_, rfl⟩⟩ RK.1 (rf_r1 RK) fl_X11_7 dX11_leavesAside_36 ?_
      refine go_sipush (v := (5800 : Int32)) rfl dX11_leavesAside_39 ?_
      refine go_iload_n dX11_leavesAside_42 rfl ?_
      refine go_iadd dX11_leavesAside_43 ?_
      refine go_iload dX11_leavesAside_44 rfl ?_
      obtain ⟨n3, ⟨hn3, hn3b⟩, H⟩ := H
      refine go_iastN (j := n3) ⟨by decide, by decide, by decide⟩ (rf_k1 RK) rfl hn3 hn3b dX11_leavesAside_46 ?_
      show go_W mt_X11_leavesAside fr_R 47 [some (pv_r m), some (pv_i x1), some (pv_i x2), some (pv_i x3), some (pv_i (I (m + 1) n2))] [] (mm_si B (i2_u I (m + 1) n3 (I (m + 1) n2))) (qv_ (fun M' => ∃ I', M' = mm_si B I' ∧ P I'))
      obtain ⟨I4, hI4⟩ : ∃ I', I' = i2_u I (m + 1) n3 (I (m + 1) n2) := ⟨_, rfl⟩
      rw [← hI4]
      replace H := H I4 hI4
      refine go_iinc (v := (1 : Int32)) (by decide) rfl rfl dX11_leavesAside_47 ?_
      show go_W mt_X11_leavesAside fr_R 50 [some (pv_r m), some (pv_i x1), some (pv_i (x2 + (1 : Int32))), some (pv_i x3), some (pv_i (I (m + 1) n2))] [] (mm_si B I4) (qv_ (fun M' => ∃ I', M' = mm_si B I' ∧ P I'))
      refine go_iinc (v := (1 : Int32)) (by decide) rfl rfl dX11_leavesAside_50 ?_
      show go_W mt_X11_leavesAside fr_R 53 [some (pv_r m), some (pv_i x1), some (pv_i (x2 + (1 : Int32))), some (pv_i (x3 + (1 : Int32))), some (pv_i (I (m + 1) n2))] [] (mm_si B I4) (qv_ (fun M' => ∃ I', M' = mm_si B I' ∧ P I'))
      refine go_goto (tgt := 4) dX11_leavesAside_53 (by decide) ?_
      exact go_fg (ls' := [some (pv_r m), some (pv_i x1), some (pv_i (x2 + (1 : Int32))), some (pv_i (x3 + (1 : Int32))), none]) ⟨rfl, ⟨rfl, ⟨rfl, ⟨rfl, trivial⟩⟩⟩⟩ H
    · replace H := H.2 hc
      refine go_goto (tgt := 50) dX11_leavesAside_32 (by decide) ?_
      refine go_iinc (v := (1 : Int32)) (by decide) rfl rfl dX11_leavesAside_50 ?_
      show go_W mt_X11_leavesAside fr_R 53 [some (pv_r m), some (pv_i x1), some (pv_i x2), some (pv_i (x3 + (1 : Int32))), some (pv_i (I (m + 1) n2))] [] (mm_si B I) (qv_ (fun M' => ∃ I', M' = mm_si B I' ∧ P I'))
      refine go_goto (tgt := 4) dX11_leavesAside_53 (by decide) ?_
      exact go_fg (ls' := [some (pv_r m), some (pv_i x1), some (pv_i x2), some (pv_i (x3 + (1 : Int32))), none]) ⟨rfl, ⟨rfl, ⟨rfl, ⟨rfl, trivial⟩⟩⟩⟩ H
set_option maxRecDepth 20000 in
theorem wq_X11_whyNotAgain_0 {B : mm_T} {I : Nat → Nat → Int32} {m : Nat} (RK : rf_ok B m) {x1 : Int32} {P : Int32 → (Nat → Nat → Int32) → Prop} (H : ((((0 ≤ x1 ∧ x1 ≤ I (m + 1) 1 - 1)) → ∃ n1, (x1 = nI n1 ∧ n1 < 400) ∧ ((((I (m + 1) (200 + 14 * n1 + 4) = (-1 : Int32)) → (((¬ I (m + 1) (200 + 14 * n1 + 6) = (5 : Int32)) → P (-3 : Int32) I) ∧ ((I (m + 1) (200 + 14 * n1 + 6) = (5 : Int32)) → ∃ n2, (I (m + 1) (200 + 14 * n1 + 0) = nI n2 ∧ n2 < 5) ∧ ((((¬ I (m + 1) ((10 + 10 * n2) + 3) = 0) → P (-3 : Int32) I) ∧ ((I (m + 1) ((10 + 10 * n2) + 3) = 0) → rs_i mt_X11_hasRoom [pv_r m, pv_i (I (m + 1) (200 + 14 * n1 + 0))] B I (fun v4 I3 => (((v4 = 0) → P (-4 : Int32) I3) ∧ ((¬ v4 = 0) → rs_i mt_X11_standing [pv_r m, pv_i (-1 : Int32)] B I3 (fun v6 I5 => (((v6 < I5 (m + 1) 8) → rs_i mt_X11_standsWith [pv_r m, pv_i (I5 (m + 1) (200 + 14 * n1 + 3))] B I5 (fun v8 I7 => (((v8 = (-1 : Int32)) → rs_i mt_X11_isBanned [pv_r m, pv_i (I7 (m + 1) (200 + 14 * n1 + 3))] B I7 (fun v10 I9 => (((v10 = 0) → P (0 : Int32) I9) ∧ ((¬ v10 = 0) → P (-7 : Int32) I9)))) ∧ ((¬ v8 = (-1 : Int32)) → P (-5 : Int32) I7)))) ∧ ((¬ v6 < I5 (m + 1) 8) → P (-4 : Int32) I5)))))))))))) ∧ ((¬ I (m + 1) (200 + 14 * n1 + 4) = (-1 : Int32)) → ∃ n11, (I (m + 1) (200 + 14 * n1 + 4) = nI n11 ∧ n11 < 400) ∧ ((((I (m + 1) (200 + 14 * n11 + 6) < (5 : Int32)) → (((¬ I (m + 1) (200 + 14 * n1 + 6) = (5 : Int32)) → P (-3 : Int32) I) ∧ ((I (m + 1) (200 + 14 * n1 + 6) = (5 : Int32)) → ∃ n12, (I (m + 1) (200 + 14 * n1 + 0) = nI n12 ∧ n12 < 5) ∧ ((((¬ I (m + 1) ((10 + 10 * n12) + 3) = 0) → P (-3 : Int32) I) ∧ ((I (m + 1) ((10 + 10 * n12) + 3) = 0) → rs_i mt_X11_hasRoom [pv_r m, pv_i (I (m + 1) (200 + 14 * n1 + 0))] B I (fun v14 I13 => (((v14 = 0) → P (-4 : Int32) I13) ∧ ((¬ v14 = 0) → rs_i mt_X11_standing [pv_r m, pv_i (-1 : Int32)] B I13 (fun v16 I15 => (((v16 < I15 (m + 1) 8) → rs_i mt_X11_standsWith [pv_r m, pv_i (I15 (m + 1) (200 + 14 * n1 + 3))] B I15 (fun v18 I17 => (((v18 = (-1 : Int32)) → rs_i mt_X11_isBanned [pv_r m, pv_i (I17 (m + 1) (200 + 14 * n1 + 3))] B I17 (fun v20 I19 => (((v20 = 0) → P (0 : Int32) I19) ∧ ((¬ v20 = 0) → P (-7 : Int32) I19)))) ∧ ((¬ v18 = (-1 : Int32)) → P (-5 : Int32) I17)))) ∧ ((¬ v16 < I15 (m + 1) 8) → P (-4 : Int32) I15)))))))))))) ∧ ((¬ I (m + 1) (200 + 14 * n11 + 6) < (5 : Int32)) → (((¬ I (m + 1) (200 + 14 * n1 + 6) = (5 : Int32)) → P (-3 : Int32) I) ∧ ((I (m + 1) (200 + 14 * n1 + 6) = (5 : Int32)) → ∃ n21, (I (m + 1) (200 + 14 * n1 + 0) = nI n21 ∧ n21 < 5) ∧ ((((¬ I (m + 1) ((10 + 10 * n21) + 3) = 0) → P (-3 : Int32) I) ∧ ((I (m + 1) ((10 + 10 * n21) + 3) = 0) → P (-3 : Int32) I)))))))))))) ∧ ((¬ (0 ≤ x1 ∧ x1 ≤ I (m + 1) 1 - 1)) → P (-2 : Int32) I))) : rw_i mt_X11_whyNotAgain 0 [some (pv_r m), some (pv_i x1), none, none, none] [] B I P := by
  refine go_aload_n dX11_whyNotAgain_0 rfl ?_
  refine go_iload_n dX11_whyNotAgain_1 rfl ?_
  by_cases hc : (0 ≤ x1 ∧ x1 ≤ I (m + 1) 1 - 1)
  · replace H := H.1 hc
    refine go_V (av := [pv_i x1]) (st := []) (ci := 11) ok_X11_isTask ⟨by decide, by decide⟩ ml_X11_161 rfl (by decide) (fun v hv => by simp only [List.mem_cons, List.not_mem_nil, or_false] at hv; rcases hv with rfl <;> first | exact pv_1i | exact pv_1r) (Nat.le_of_ble_eq_true rfl) (fun _ h => h) (by decide) rfl RK.1 dX11_whyNotAgain_2 (rx_isTask_t RK hc) (fun r M' hq _ => ?_)
    obtain ⟨_, rfl, _, rfl, rfl, rfl⟩ := hq
    show go_W mt_X11_whyNotAgain fr_R 5 [some (pv_r m), some (pv_i x1), none, none, none] [pv_i (1 : Int32)] (mm_si B I) (qi_ (fun x M' => ∃ I', M' = mm_si B I' ∧ P x I'))
    refine go_if_ne (tgt := 11) dX11_whyNotAgain_5 (by decide) (fun _ => ?_) (fun hc => absurd hc (by decide))
    refine go_aload_n dX11_whyNotAgain_11 rfl ?_
    refine go_iload_n dX11_whyNotAgain_12 rfl ?_
    refine go_iconst (v := (0 : Int32)) rfl dX11_whyNotAgain_13 ?_
    obtain ⟨n1, ⟨hn1, hn1b⟩, H⟩ := H
    refine go_V (av := [pv_i x1, pv_i (0 : Int32)]) (st := []) (ci := 11) ok_X11_of ⟨by decide, by decide⟩ ml_X11_94 rfl (by decide) (fun v hv => by simp only [List.mem_cons, List.not_mem_nil, or_false] at hv; rcases hv with rfl | rfl <;> first | exact pv_1i | exact pv_1r) (Nat.le_of_ble_eq_true rfl) (fun _ h => h) (by decide) rfl RK.1 dX11_whyNotAgain_14 (rx_of RK hn1 rfl hn1b (by decide)) (fun r M' hq _ => ?_)
    obtain ⟨_, rfl, _, rfl, rfl, rfl⟩ := hq
    show go_W mt_X11_whyNotAgain fr_R 17 [some (pv_r m), some (pv_i x1), none, none, none] [pv_i (I (m + 1) (200 + 14 * n1 + 0))] (mm_si B I) (qi_ (fun x M' => ∃ I', M' = mm_si B I' ∧ P x I'))
    refine go_istore_n (by decide) dX11_whyNotAgain_17 ?_
    show go_W mt_X11_whyNotAgain fr_R 18 [some (pv_r m), some (pv_i x1), some (pv_i (I (m + 1) (200 + 14 * n1 + 0))), none, none] [] (mm_si B I) (qi_ (fun x M' => ∃ I', M' = mm_si B I' ∧ P x I'))
    refine go_aload_n dX11_whyNotAgain_18 rfl ?_
    refine go_iload_n dX11_whyNotAgain_19 rfl ?_
    refine go_iconst (v := (4 : Int32)) rfl dX11_whyNotAgain_20 ?_
    refine go_V (av := [pv_i x1, pv_i (4 : Int32)]) (st := []) (ci := 11) ok_X11_of ⟨by decide, by decide⟩ ml_X11_94 rfl (by decide) (fun v hv => by simp only [List.mem_cons, List.not_mem_nil, or_false] at hv; rcases hv with rfl | rfl <;> first | exact pv_1i | exact pv_1r) (Nat.le_of_ble_eq_true rfl) (fun _ h => h) (by decide) rfl RK.1 dX11_whyNotAgain_21 (rx_of RK hn1 rfl (by omega) (by decide)) (fun r M' hq _ => ?_)
    obtain ⟨_, rfl, _, rfl, rfl, rfl⟩ := hq
    show go_W mt_X11_whyNotAgain fr_R 24 [some (pv_r m), some (pv_i x1), some (pv_i (I (m + 1) (200 + 14 * n1 + 0))), none, none] [pv_i (I (m + 1) (200 + 14 * n1 + 4))] (mm_si B I) (qi_ (fun x M' => ∃ I', M' = mm_si B I' ∧ P x I'))
    refine go_istore_n (by decide) dX11_whyNotAgain_24 ?_
    show go_W mt_X11_whyNotAgain fr_R 25 [some (pv_r m), some (pv_i x1), some (pv_i (I (m + 1) (200 + 14 * n1 + 0))), some (pv_i (I (m + 1) (200 + 14 * n1 + 4))), none] [] (mm_si B I) (qi_ (fun x M' => ∃ I', M' = mm_si B I' ∧ P x I'))
    refine go_iload_n dX11_whyNotAgain_25 rfl ?_
    refine go_iconst (v := (-1 : Int32)) rfl dX11_whyNotAgain_26 ?_
    refine go_icmp_eq (tgt := 45) dX11_whyNotAgain_27 (by decide) (fun hc => ?_) (fun hc => ?_)
    · replace H := H.1 hc
      refine go_iconst (v := (0 : Int32)) rfl dX11_whyNotAgain_45 ?_
      refine go_istore (by decide) dX11_whyNotAgain_46 ?_
      show go_W mt_X11_whyNotAgain fr_R 48 [some (pv_r m), some (pv_i x1), some (pv_i (I (m + 1) (200 + 14 * n1 + 0))), some (pv_i (I (m + 1) (200 + 14 * n1 + 4))), some (pv_i (0 : Int32))] [] (mm_si B I) (qi_ (fun x M' => ∃ I', M' = mm_si B I' ∧ P x I'))
      refine go_aload_n dX11_whyNotAgain_48 rfl ?_
      refine go_iload_n dX11_whyNotAgain_49 rfl ?_
      refine go_bipush (v := (6 : Int32)) rfl dX11_whyNotAgain_50 ?_
      refine go_V (av := [pv_i x1, pv_i (6 : Int32)]) (st := []) (ci := 11) ok_X11_of ⟨by decide, by decide⟩ ml_X11_94 rfl (by decide) (fun v hv => by simp only [List.mem_cons, List.not_mem_nil, or_false] at hv; rcases hv with rfl | rfl <;> first | exact pv_1i | exact pv_1r) (Nat.le_of_ble_eq_true rfl) (fun _ h => h) (by decide) rfl RK.1 dX11_whyNotAgain_52 (rx_of RK hn1 rfl (by omega) (by decide)) (fun r M' hq _ => ?_)
      obtain ⟨_, rfl, _, rfl, rfl, rfl⟩ := hq
      show go_W mt_X11_whyNotAgain fr_R 55 [some (pv_r m), some (pv_i x1), some (pv_i (I (m + 1) (200 + 14 * n1 + 0))), some (pv_i (I (m + 1) (200 + 14 * n1 + 4))), some (pv_i (0 : Int32))] [pv_i (I (m + 1) (200 + 14 * n1 + 6))] (mm_si B I) (qi_ (fun x M' => ∃ I', M' = mm_si B I' ∧ P x I'))
      refine go_iconst (v := (5 : Int32)) rfl dX11_whyNotAgain_55 ?_
      refine go_icmp_ne (tgt := 78) dX11_whyNotAgain_56 (by decide) (fun hc => ?_) (fun hc => ?_)
      · replace H := H.1 hc
        refine go_bipush (v := (-3 : Int32)) rfl dX11_whyNotAgain_78 ?_
        exact go_iret rfl rfl dX11_whyNotAgain_80 ⟨_, rfl, _, rfl, H⟩
      · replace H := H.2 hc
        refine go_aload_n dX11_whyNotAgain_59 rfl ?_
        refine go_getRe (k := 0) ⟨by decide, rfl, by decide, Or.inr ⟨_, rfl⟩⟩ RK.1 (rf_r1 RK) fl_X11_7 dX11_whyNotAgain_60 ?_
        refine go_iload_n dX11_whyNotAgain_63 rfl ?_
        obtain ⟨n2, ⟨hn2, hn2b⟩, H⟩ := H
        refine go_St (av := [pv_i (I (m + 1) (200 + 14 * n1 + 0))]) (st := [pv_r (m + 1)]) ok_X11_at ⟨by decide, by decide⟩ ml_X11_80 rfl (by decide) (fun v hv => by simp only [List.mem_cons, List.not_mem_nil, or_false] at hv; rcases hv with rfl <;> first | exact pv_1i | exact pv_1r) (Nat.le_of_ble_eq_true rfl) (fun _ h => h) dX11_whyNotAgain_64 (rx_at RK hn2) (fun r M' hq _ => ?_)
        obtain ⟨_, rfl, _, rfl, rfl, rfl⟩ := hq
        show go_W mt_X11_whyNotAgain fr_R 67 [some (pv_r m), some (pv_i x1), some (pv_i (I (m + 1) (200 + 14 * n1 + 0))), some (pv_i (I (m + 1) (200 + 14 * n1 + 4))), some (pv_i (0 : Int32))] [pv_i (nI (10 + 10 * n2)), pv_r (m + 1)] (mm_si B I) (qi_ (fun x M' => ∃ I', M' = mm_si B I' ∧ P x I'))
        refine go_iconst (v := (3 : Int32)) rfl dX11_whyNotAgain_67 ?_
        refine go_iadd dX11_whyNotAgain_68 ?_
        refine go_ialdN (j := ((10 + 10 * n2) + 3)) ⟨by decide, by decide, by decide⟩ (rf_k1 RK) (nI_ae rfl rfl) (by omega) dX11_whyNotAgain_69 ?_
        refine go_if_ne (tgt := 78) dX11_whyNotAgain_70 (by decide) (fun hc => ?_) (fun hc => ?_)
        · replace H := H.1 hc
          refine go_bipush (v := (-3 : Int32)) rfl dX11_whyNotAgain_78 ?_
          exact go_iret rfl rfl dX11_whyNotAgain_80 ⟨_, rfl, _, rfl, H⟩
        · replace H := H.2 hc
          refine go_iload dX11_whyNotAgain_73 rfl ?_
          refine go_if_eq (tgt := 81) dX11_whyNotAgain_75 (by decide) (fun _ => ?_) (fun hc => absurd hc (by decide))
          refine go_aload_n dX11_whyNotAgain_81 rfl ?_
          refine go_iload_n dX11_whyNotAgain_82 rfl ?_
          refine go_V (av := [pv_i (I (m + 1) (200 + 14 * n1 + 0))]) (st := []) (ci := 11) ok_X11_hasRoom ⟨by decide, by decide⟩ ml_X11_164 rfl (by decide) (fun v hv => by simp only [List.mem_cons, List.not_mem_nil, or_false] at hv; rcases hv with rfl <;> first | exact pv_1i | exact pv_1r) (Nat.le_of_ble_eq_true rfl) (fun _ h => h) (by decide) rfl RK.1 dX11_whyNotAgain_83 H (fun r M' hq _ => ?_)
          obtain ⟨v4, rfl, I3, rfl, H⟩ := hq
          show go_W mt_X11_whyNotAgain fr_R 86 [some (pv_r m), some (pv_i x1), some (pv_i (I (m + 1) (200 + 14 * n1 + 0))), some (pv_i (I (m + 1) (200 + 14 * n1 + 4))), some (pv_i (0 : Int32))] [pv_i v4] (mm_si B I3) (qi_ (fun x M' => ∃ I', M' = mm_si B I' ∧ P x I'))
          refine go_if_eq (tgt := 104) dX11_whyNotAgain_86 (by decide) (fun hc => ?_) (fun hc => ?_)
          · replace H := H.1 hc
            refine go_bipush (v := (-4 : Int32)) rfl dX11_whyNotAgain_104 ?_
            exact go_iret rfl rfl dX11_whyNotAgain_106 ⟨_, rfl, _, rfl, H⟩
          · replace H := H.2 hc
            refine go_aload_n dX11_whyNotAgain_89 rfl ?_
            refine go_iconst (v := (-1 : Int32)) rfl dX11_whyNotAgain_90 ?_
            refine go_V (av := [pv_i (-1 : Int32)]) (st := []) (ci := 11) ok_X11_standing ⟨by decide, by decide⟩ ml_X11_115 rfl (by decide) (fun v hv => by simp only [List.mem_cons, List.not_mem_nil, or_false] at hv; rcases hv with rfl <;> first | exact pv_1i | exact pv_1r) (Nat.le_of_ble_eq_true rfl) (fun _ h => h) (by decide) rfl RK.1 dX11_whyNotAgain_91 H (fun r M' hq _ => ?_)
            obtain ⟨v6, rfl, I5, rfl, H⟩ := hq
            show go_W mt_X11_whyNotAgain fr_R 94 [some (pv_r m), some (pv_i x1), some (pv_i (I (m + 1) (200 + 14 * n1 + 0))), some (pv_i (I (m + 1) (200 + 14 * n1 + 4))), some (pv_i (0 : Int32))] [pv_i v6] (mm_si B I5) (qi_ (fun x M' => ∃ I', M' = mm_si B I' ∧ P x I'))
            refine go_aload_n dX11_whyNotAgain_94 rfl ?_
            refine go_getRe (k := 0) ⟨by decide, rfl, by decide, Or.inr ⟨_, rfl⟩⟩ RK.1 (rf_r1 RK) fl_X11_7 dX11_whyNotAgain_95 ?_
            refine go_bipush (v := (8 : Int32)) rfl dX11_whyNotAgain_98 ?_
            refine go_ialdN (j := 8) ⟨by decide, by decide, by decide⟩ (rf_k1 RK) rfl (by decide) dX11_whyNotAgain_100 ?_
            refine go_icmp_lt (tgt := 107) dX11_whyNotAgain_101 (by decide) (fun hc => ?_) (fun hc => ?_)
            · replace H := H.1 hc
              refine go_aload_n dX11_whyNotAgain_107 rfl ?_
              refine go_aload_n dX11_whyNotAgain_108 rfl ?_
              refine go_iload_n dX11_whyNotAgain_109 rfl ?_
              refine go_iconst (v := (3 : Int32)) rfl dX11_whyNotAgain_110 ?_
              refine go_V (av := [pv_i x1, pv_i (3 : Int32)]) (st := [pv_r m]) (ci := 11) ok_X11_of ⟨by decide, by decide⟩ ml_X11_94 rfl (by decide) (fun v hv => by simp only [List.mem_cons, List.not_mem_nil, or_false] at hv; rcases hv with rfl | rfl <;> first | exact pv_1i | exact pv_1r) (Nat.le_of_ble_eq_true rfl) (fun _ h => h) (by decide) rfl RK.1 dX11_whyNotAgain_111 (rx_of RK hn1 rfl (by omega) (by decide)) (fun r M' hq _ => ?_)
              obtain ⟨_, rfl, _, rfl, rfl, rfl⟩ := hq
              show go_W mt_X11_whyNotAgain fr_R 114 [some (pv_r m), some (pv_i x1), some (pv_i (I (m + 1) (200 + 14 * n1 + 0))), some (pv_i (I (m + 1) (200 + 14 * n1 + 4))), some (pv_i (0 : Int32))] [pv_i (I5 (m + 1) (200 + 14 * n1 + 3)), pv_r m] (mm_si B I5) (qi_ (fun x M' => ∃ I', M' = mm_si B I' ∧ P x I'))
              refine go_V (av := [pv_i (I5 (m + 1) (200 + 14 * n1 + 3))]) (st := []) (ci := 11) ok_X11_standsWith ⟨by decide, by decide⟩ ml_X11_167 rfl (by decide) (fun v hv => by simp only [List.mem_cons, List.not_mem_nil, or_false] at hv; rcases hv with rfl <;> first | exact pv_1i | exact pv_1r) (Nat.le_of_ble_eq_true rfl) (fun _ h => h) (by decide) rfl RK.1 dX11_whyNotAgain_114 H (fun r M' hq _ => ?_)
              obtain ⟨v8, rfl, I7, rfl, H⟩ := hq
              show go_W mt_X11_whyNotAgain fr_R 117 [some (pv_r m), some (pv_i x1), some (pv_i (I (m + 1) (200 + 14 * n1 + 0))), some (pv_i (I (m + 1) (200 + 14 * n1 + 4))), some (pv_i (0 : Int32))] [pv_i v8] (mm_si B I7) (qi_ (fun x M' => ∃ I', M' = mm_si B I' ∧ P x I'))
              refine go_iconst (v := (-1 : Int32)) rfl dX11_whyNotAgain_117 ?_
              refine go_icmp_eq (tgt := 124) dX11_whyNotAgain_118 (by decide) (fun hc => ?_) (fun hc => ?_)
              · replace H := H.1 hc
                refine go_aload_n dX11_whyNotAgain_124 rfl ?_
                refine go_aload_n dX11_whyNotAgain_125 rfl ?_
                refine go_iload_n dX11_whyNotAgain_126 rfl ?_
                refine go_iconst (v := (3 : Int32)) rfl dX11_whyNotAgain_127 ?_
                refine go_V (av := [pv_i x1, pv_i (3 : Int32)]) (st := [pv_r m]) (ci := 11) ok_X11_of ⟨by decide, by decide⟩ ml_X11_94 rfl (by decide) (fun v hv => by simp only [List.mem_cons, List.not_mem_nil, or_false] at hv; rcases hv with rfl | rfl <;> first | exact pv_1i | exact pv_1r) (Nat.le_of_ble_eq_true rfl) (fun _ h => h) (by decide) rfl RK.1 dX11_whyNotAgain_128 (rx_of RK hn1 rfl (by omega) (by decide)) (fun r M' hq _ => ?_)
                obtain ⟨_, rfl, _, rfl, rfl, rfl⟩ := hq
                show go_W mt_X11_whyNotAgain fr_R 131 [some (pv_r m), some (pv_i x1), some (pv_i (I (m + 1) (200 + 14 * n1 + 0))), some (pv_i (I (m + 1) (200 + 14 * n1 + 4))), some (pv_i (0 : Int32))] [pv_i (I7 (m + 1) (200 + 14 * n1 + 3)), pv_r m] (mm_si B I7) (qi_ (fun x M' => ∃ I', M' = mm_si B I' ∧ P x I'))
                refine go_V (av := [pv_i (I7 (m + 1) (200 + 14 * n1 + 3))]) (st := []) (ci := 11) ok_X11_isBanned ⟨by decide, by decide⟩ ml_X11_170 rfl (by decide) (fun v hv => by simp only [List.mem_cons, List.not_mem_nil, or_false] at hv; rcases hv with rfl <;> first | exact pv_1i | exact pv_1r) (Nat.le_of_ble_eq_true rfl) (fun _ h => h) (by decide) rfl RK.1 dX11_whyNotAgain_131 H (fun r M' hq _ => ?_)
                obtain ⟨v10, rfl, I9, rfl, H⟩ := hq
                show go_W mt_X11_whyNotAgain fr_R 134 [some (pv_r m), some (pv_i x1), some (pv_i (I (m + 1) (200 + 14 * n1 + 0))), some (pv_i (I (m + 1) (200 + 14 * n1 + 4))), some (pv_i (0 : Int32))] [pv_i v10] (mm_si B I9) (qi_ (fun x M' => ∃ I', M' = mm_si B I' ∧ P x I'))
                refine go_if_eq (tgt := 142) dX11_whyNotAgain_134 (by decide) (fun hc => ?_) (fun hc => ?_)
                · replace H := H.1 hc
                  refine go_iconst (v := (0 : Int32)) rfl dX11_whyNotAgain_142 ?_
                  exact go_iret rfl rfl dX11_whyNotAgain_143 ⟨_, rfl, _, rfl, H⟩
                · replace H := H.2 hc
                  refine go_bipush (v := (-7 : Int32)) rfl dX11_whyNotAgain_137 ?_
                  refine go_goto (tgt := 143) dX11_whyNotAgain_139 (by decide) ?_
                  exact go_iret rfl rfl dX11_whyNotAgain_143 ⟨_, rfl, _, rfl, H⟩
              · replace H := H.2 hc
                refine go_bipush (v := (-5 : Int32)) rfl dX11_whyNotAgain_121 ?_
                exact go_iret rfl rfl dX11_whyNotAgain_123 ⟨_, rfl, _, rfl, H⟩
            · replace H := H.2 hc
              refine go_bipush (v := (-4 : Int32)) rfl dX11_whyNotAgain_104 ?_
              exact go_iret rfl rfl dX11_whyNotAgain_106 ⟨_, rfl, _, rfl, H⟩
    · replace H := H.2 hc
      refine go_aload_n dX11_whyNotAgain_30 rfl ?_
      refine go_iload_n dX11_whyNotAgain_31 rfl ?_
      refine go_bipush (v := (6 : Int32)) rfl dX11_whyNotAgain_32 ?_
      obtain ⟨n11, ⟨hn11, hn11b⟩, H⟩ := H
      refine go_V (av := [pv_i (I (m + 1) (200 + 14 * n1 + 4)), pv_i (6 : Int32)]) (st := []) (ci := 11) ok_X11_of ⟨by decide, by decide⟩ ml_X11_94 rfl (by decide) (fun v hv => by simp only [List.mem_cons, List.not_mem_nil, or_false] at hv; rcases hv with rfl | rfl <;> first | exact pv_1i | exact pv_1r) (Nat.le_of_ble_eq_true rfl) (fun _ h => h) (by decide) rfl RK.1 dX11_whyNotAgain_34 (rx_of RK hn11 rfl hn11b (by decide)) (fun r M' hq _ => ?_)
      obtain ⟨_, rfl, _, rfl, rfl, rfl⟩ := hq
      show go_W mt_X11_whyNotAgain fr_R 37 [some (pv_r m), some (pv_i x1), some (pv_i (I (m + 1) (200 + 14 * n1 + 0))), some (pv_i (I (m + 1) (200 + 14 * n1 + 4))), none] [pv_i (I (m + 1) (200 + 14 * n11 + 6))] (mm_si B I) (qi_ (fun x M' => ∃ I', M' = mm_si B I' ∧ P x I'))
      refine go_iconst (v := (5 : Int32)) rfl dX11_whyNotAgain_37 ?_
      refine go_icmp_lt (tgt := 45) dX11_whyNotAgain_38 (by decide) (fun hc => ?_) (fun hc => ?_)
      · replace H := H.1 hc
        refine go_iconst (v := (0 : Int32)) rfl dX11_whyNotAgain_45 ?_
        refine go_istore (by decide) dX11_whyNotAgain_46 ?_
        show go_W mt_X11_whyNotAgain fr_R 48 [some (pv_r m), some (pv_i x1), some (pv_i (I (m + 1) (200 + 14 * n1 + 0))), some (pv_i (I (m + 1) (200 + 14 * n1 + 4))), some (pv_i (0 : Int32))] [] (mm_si B I) (qi_ (fun x M' => ∃ I', M' = mm_si B I' ∧ P x I'))
        refine go_aload_n dX11_whyNotAgain_48 rfl ?_
        refine go_iload_n dX11_whyNotAgain_49 rfl ?_
        refine go_bipush (v := (6 : Int32)) rfl dX11_whyNotAgain_50 ?_
        refine go_V (av := [pv_i x1, pv_i (6 : Int32)]) (st := []) (ci := 11) ok_X11_of ⟨by decide, by decide⟩ ml_X11_94 rfl (by decide) (fun v hv => by simp only [List.mem_cons, List.not_mem_nil, or_false] at hv; rcases hv with rfl | rfl <;> first | exact pv_1i | exact pv_1r) (Nat.le_of_ble_eq_true rfl) (fun _ h => h) (by decide) rfl RK.1 dX11_whyNotAgain_52 (rx_of RK hn1 rfl (by omega) (by decide)) (fun r M' hq _ => ?_)
        obtain ⟨_, rfl, _, rfl, rfl, rfl⟩ := hq
        show go_W mt_X11_whyNotAgain fr_R 55 [some (pv_r m), some (pv_i x1), some (pv_i (I (m + 1) (200 + 14 * n1 + 0))), some (pv_i (I (m + 1) (200 + 14 * n1 + 4))), some (pv_i (0 : Int32))] [pv_i (I (m + 1) (200 + 14 * n1 + 6))] (mm_si B I) (qi_ (fun x M' => ∃ I', M' = mm_si B I' ∧ P x I'))
        refine go_iconst (v := (5 : Int32)) rfl dX11_whyNotAgain_55 ?_
        refine go_icmp_ne (tgt := 78) dX11_whyNotAgain_56 (by decide) (fun hc => ?_) (fun hc => ?_)
        · replace H := H.1 hc
          refine go_bipush (v := (-3 : Int32)) rfl dX11_whyNotAgain_78 ?_
          exact go_iret rfl rfl dX11_whyNotAgain_80 ⟨_, rfl, _, rfl, H⟩
        · replace H := H.2 hc
          refine go_aload_n dX11_whyNotAgain_59 rfl ?_
          refine go_getRe (k := 0) ⟨by decide, rfl, by decide, Or.inr ⟨_, rfl⟩⟩ RK.1 (rf_r1 RK) fl_X11_7 dX11_whyNotAgain_60 ?_
          refine go_iload_n dX11_whyNotAgain_63 rfl ?_
          obtain ⟨n12, ⟨hn12, hn12b⟩, H⟩ := H
          refine go_St (av := [pv_i (I (m + 1) (200 + 14 * n1 + 0))]) (st := [pv_r (m + 1)]) ok_X11_at ⟨by decide, by decide⟩ ml_X11_80 rfl (by decide) (fun v hv => by simp only [List.mem_cons, List.not_mem_nil, or_false] at hv; rcases hv with rfl <;> first | exact pv_1i | exact pv_1r) (Nat.le_of_ble_eq_true rfl) (fun _ h => h) dX11_whyNotAgain_64 (rx_at RK hn12) (fun r M' hq _ => ?_)
          obtain ⟨_, rfl, _, rfl, rfl, rfl⟩ := hq
          show go_W mt_X11_whyNotAgain fr_R 67 [some (pv_r m), some (pv_i x1), some (pv_i (I (m + 1) (200 + 14 * n1 + 0))), some (pv_i (I (m + 1) (200 + 14 * n1 + 4))), some (pv_i (0 : Int32))] [pv_i (nI (10 + 10 * n12)), pv_r (m + 1)] (mm_si B I) (qi_ (fun x M' => ∃ I', M' = mm_si B I' ∧ P x I'))
          refine go_iconst (v := (3 : Int32)) rfl dX11_whyNotAgain_67 ?_
          refine go_iadd dX11_whyNotAgain_68 ?_
          refine go_ialdN (j := ((10 + 10 * n12) + 3)) ⟨by decide, by decide, by decide⟩ (rf_k1 RK) (nI_ae rfl rfl) (by omega) dX11_whyNotAgain_69 ?_
          refine go_if_ne (tgt := 78) dX11_whyNotAgain_70 (by decide) (fun hc => ?_) (fun hc => ?_)
          · replace H := H.1 hc
            refine go_bipush (v := (-3 : Int32)) rfl dX11_whyNotAgain_78 ?_
            exact go_iret rfl rfl dX11_whyNotAgain_80 ⟨_, rfl, _, rfl, H⟩
          · replace H := H.2 hc
            refine go_iload dX11_whyNotAgain_73 rfl ?_
            refine go_if_eq (tgt := 81) dX11_whyNotAgain_75 (by decide) (fun _ => ?_) (fun hc => absurd hc (by decide))
            refine go_aload_n dX11_whyNotAgain_81 rfl ?_
            refine go_iload_n dX11_whyNotAgain_82 rfl ?_
            refine go_V (av := [pv_i (I (m + 1) (200 + 14 * n1 + 0))]) (st := []) (ci := 11) ok_X11_hasRoom ⟨by decide, by decide⟩ ml_X11_164 rfl (by decide) (fun v hv => by simp only [List.mem_cons, List.not_mem_nil, or_false] at hv; rcases hv with rfl <;> first | exact pv_1i | exact pv_1r) (Nat.le_of_ble_eq_true rfl) (fun _ h => h) (by decide) rfl RK.1 dX11_whyNotAgain_83 H (fun r M' hq _ => ?_)
            obtain ⟨v14, rfl, I13, rfl, H⟩ := hq
            show go_W mt_X11_whyNotAgain fr_R 86 [some (pv_r m), some (pv_i x1), some (pv_i (I (m + 1) (200 + 14 * n1 + 0))), some (pv_i (I (m + 1) (200 + 14 * n1 + 4))), some (pv_i (0 : Int32))] [pv_i v14] (mm_si B I13) (qi_ (fun x M' => ∃ I', M' = mm_si B I' ∧ P x I'))
            refine go_if_eq (tgt := 104) dX11_whyNotAgain_86 (by decide) (fun hc => ?_) (fun hc => ?_)
            · replace H := H.1 hc
              refine go_bipush (v := (-4 : Int32)) rfl dX11_whyNotAgain_104 ?_
              exact go_iret rfl rfl dX11_whyNotAgain_106 ⟨_, rfl, _, rfl, H⟩
            · replace H := H.2 hc
              refine go_aload_n dX11_whyNotAgain_89 rfl ?_
              refine go_iconst (v := (-1 : Int32)) rfl dX11_whyNotAgain_90 ?_
              refine go_V (av := [pv_i (-1 : Int32)]) (st := []) (ci := 11) ok_X11_standing ⟨by decide, by decide⟩ ml_X11_115 rfl (by decide) (fun v hv => by simp only [List.mem_cons, List.not_mem_nil, or_false] at hv; rcases hv with rfl <;> first | exact pv_1i | exact pv_1r) (Nat.le_of_ble_eq_true rfl) (fun _ h => h) (by decide) rfl RK.1 dX11_whyNotAgain_91 H (fun r M' hq _ => ?_)
              obtain ⟨v16, rfl, I15, rfl, H⟩ := hq
              show go_W mt_X11_whyNotAgain fr_R 94 [some (pv_r m), some (pv_i x1), some (pv_i (I (m + 1) (200 + 14 * n1 + 0))), some (pv_i (I (m + 1) (200 + 14 * n1 + 4))), some (pv_i (0 : Int32))] [pv_i v16] (mm_si B I15) (qi_ (fun x M' => ∃ I', M' = mm_si B I' ∧ P x I'))
              refine go_aload_n dX11_whyNotAgain_94 rfl ?_
              refine go_getRe (k := 0) ⟨by decide, rfl, by decide, Or.inr ⟨_, rfl⟩⟩ RK.1 (rf_r1 RK) fl_X11_7 dX11_whyNotAgain_95 ?_
              refine go_bipush (v := (8 : Int32)) rfl dX11_whyNotAgain_98 ?_
              refine go_ialdN (j := 8) ⟨by decide, by decide, by decide⟩ (rf_k1 RK) rfl (by decide) dX11_whyNotAgain_100 ?_
              refine go_icmp_lt (tgt := 107) dX11_whyNotAgain_101 (by decide) (fun hc => ?_) (fun hc => ?_)
              · replace H := H.1 hc
                refine go_aload_n dX11_whyNotAgain_107 rfl ?_
                refine go_aload_n dX11_whyNotAgain_108 rfl ?_
                refine go_iload_n dX11_whyNotAgain_109 rfl ?_
                refine go_iconst (v := (3 : Int32)) rfl dX11_whyNotAgain_110 ?_
                refine go_V (av := [pv_i x1, pv_i (3 : Int32)]) (st := [pv_r m]) (ci := 11) ok_X11_of ⟨by decide, by decide⟩ ml_X11_94 rfl (by decide) (fun v hv => by simp only [List.mem_cons, List.not_mem_nil, or_false] at hv; rcases hv with rfl | rfl <;> first | exact pv_1i | exact pv_1r) (Nat.le_of_ble_eq_true rfl) (fun _ h => h) (by decide) rfl RK.1 dX11_whyNotAgain_111 (rx_of RK hn1 rfl (by omega) (by decide)) (fun r M' hq _ => ?_)
                obtain ⟨_, rfl, _, rfl, rfl, rfl⟩ := hq
                show go_W mt_X11_whyNotAgain fr_R 114 [some (pv_r m), some (pv_i x1), some (pv_i (I (m + 1) (200 + 14 * n1 + 0))), some (pv_i (I (m + 1) (200 + 14 * n1 + 4))), some (pv_i (0 : Int32))] [pv_i (I15 (m + 1) (200 + 14 * n1 + 3)), pv_r m] (mm_si B I15) (qi_ (fun x M' => ∃ I', M' = mm_si B I' ∧ P x I'))
                refine go_V (av := [pv_i (I15 (m + 1) (200 + 14 * n1 + 3))]) (st := []) (ci := 11) ok_X11_standsWith ⟨by decide, by decide⟩ ml_X11_167 rfl (by decide) (fun v hv => by simp only [List.mem_cons, List.not_mem_nil, or_false] at hv; rcases hv with rfl <;> first | exact pv_1i | exact pv_1r) (Nat.le_of_ble_eq_true rfl) (fun _ h => h) (by decide) rfl RK.1 dX11_whyNotAgain_114 H (fun r M' hq _ => ?_)
                obtain ⟨v18, rfl, I17, rfl, H⟩ := hq
                show go_W mt_X11_whyNotAgain fr_R 117 [some (pv_r m), some (pv_i x1), some (pv_i (I (m + 1) (200 + 14 * n1 + 0))), some (pv_i (I (m + 1) (200 + 14 * n1 + 4))), some (pv_i (0 : Int32))] [pv_i v18] (mm_si B I17) (qi_ (fun x M' => ∃ I', M' = mm_si B I' ∧ P x I'))
                refine go_iconst (v := (-1 : Int32)) rfl dX11_whyNotAgain_117 ?_
                refine go_icmp_eq (tgt := 124) dX11_whyNotAgain_118 (by decide) (fun hc => ?_) (fun hc => ?_)
                · replace H := H.1 hc
                  refine go_aload_n dX11_whyNotAgain_124 rfl ?_
                  refine go_aload_n dX11_whyNotAgain_125 rfl ?_
                  refine go_iload_n dX11_whyNotAgain_126 rfl ?_
                  refine go_iconst (v := (3 : Int32)) rfl dX11_whyNotAgain_127 ?_
                  refine go_V (av := [pv_i x1, pv_i (3 : Int32)]) (st := [pv_r m]) (ci := 11) ok_X11_of ⟨by decide, by decide⟩ ml_X11_94 rfl (by decide) (fun v hv => by simp only [List.mem_cons, List.not_mem_nil, or_false] at hv; rcases hv with rfl | rfl <;> first | exact pv_1i | exact pv_1r) (Nat.le_of_ble_eq_true rfl) (fun _ h => h) (by decide) rfl RK.1 dX11_whyNotAgain_128 (rx_of RK hn1 rfl (by omega) (by decide)) (fun r M' hq _ => ?_)
                  obtain ⟨_, rfl, _, rfl, rfl, rfl⟩ := hq
                  show go_W mt_X11_whyNotAgain fr_R 131 [some (pv_r m), some (pv_i x1), some (pv_i (I (m + 1) (200 + 14 * n1 + 0))), some (pv_i (I (m + 1) (200 + 14 * n1 + 4))), some (pv_i (0 : Int32))] [pv_i (I17 (m + 1) (200 + 14 * n1 + 3)), pv_r m] (mm_si B I17) (qi_ (fun x M' => ∃ I', M' = mm_si B I' ∧ P x I'))
                  refine go_V (av := [pv_i (I17 (m + 1) (200 + 14 * n1 + 3))]) (st := []) (ci := 11) ok_X11_isBanned ⟨by decide, by decide⟩ ml_X11_170 rfl (by decide) (fun v hv => by simp only [List.mem_cons, List.not_mem_nil, or_false] at hv; rcases hv with rfl <;> first | exact pv_1i | exact pv_1r) (Nat.le_of_ble_eq_true rfl) (fun _ h => h) (by decide) rfl RK.1 dX11_whyNotAgain_131 H (fun r M' hq _ => ?_)
                  obtain ⟨v20, rfl, I19, rfl, H⟩ := hq
                  show go_W mt_X11_whyNotAgain fr_R 134 [some (pv_r m), some (pv_i x1), some (pv_i (I (m + 1) (200 + 14 * n1 + 0))), some (pv_i (I (m + 1) (200 + 14 * n1 + 4))), some (pv_i (0 : Int32))] [pv_i v20] (mm_si B I19) (qi_ (fun x M' => ∃ I', M' = mm_si B I' ∧ P x I'))
                  refine go_if_eq (tgt := 142) dX11_whyNotAgain_134 (by decide) (fun hc => ?_) (fun hc => ?_)
                  · replace H := H.1 hc
                    refine go_iconst (v := (0 : Int32)) rfl dX11_whyNotAgain_142 ?_
                    exact go_iret rfl rfl dX11_whyNotAgain_143 ⟨_, rfl, _, rfl, H⟩
                  · replace H := H.2 hc
                    refine go_bipush (v := (-7 : Int32)) rfl dX11_whyNotAgain_137 ?_
                    refine go_goto (tgt := 143) dX11_whyNotAgain_139 (by decide) ?_
                    exact go_iret rfl rfl dX11_whyNotAgain_143 ⟨_, rfl, _, rfl, H⟩
                · replace H := H.2 hc
                  refine go_bipush (v := (-5 : Int32)) rfl dX11_whyNotAgain_121 ?_
                  exact go_iret rfl rfl dX11_whyNotAgain_123 ⟨_, rfl, _, rfl, H⟩
              · replace H := H.2 hc
                refine go_bipush (v := (-4 : Int32)) rfl dX11_whyNotAgain_104 ?_
                exact go_iret rfl rfl dX11_whyNotAgain_106 ⟨_, rfl, _, rfl, H⟩
      · replace H := H.2 hc
        refine go_iconst (v := (1 : Int32)) rfl dX11_whyNotAgain_41 ?_
        refine go_goto (tgt := 46) dX11_whyNotAgain_42 (by decide) ?_
        refine go_istore (by decide) dX11_whyNotAgain_46 ?_
        show go_W mt_X11_whyNotAgain fr_R 48 [some (pv_r m), some (pv_i x1), some (pv_i (I (m + 1) (200 + 14 * n1 + 0))), some (pv_i (I (m + 1) (200 + 14 * n1 + 4))), some (pv_i (1 : Int32))] [] (mm_si B I) (qi_ (fun x M' => ∃ I', M' = mm_si B I' ∧ P x I'))
        refine go_aload_n dX11_whyNotAgain_48 rfl ?_
        refine go_iload_n dX11_whyNotAgain_49 rfl ?_
        refine go_bipush (v := (6 : Int32)) rfl dX11_whyNotAgain_50 ?_
        refine go_V (av := [pv_i x1, pv_i (6 : Int32)]) (st := []) (ci := 11) ok_X11_of ⟨by decide, by decide⟩ ml_X11_94 rfl (by decide) (fun v hv => by simp only [List.mem_cons, List.not_mem_nil, or_false] at hv; rcases hv with rfl | rfl <;> first | exact pv_1i | exact pv_1r) (Nat.le_of_ble_eq_true rfl) (fun _ h => h) (by decide) rfl RK.1 dX11_whyNotAgain_52 (rx_of RK hn1 rfl (by omega) (by decide)) (fun r M' hq _ => ?_)
        obtain ⟨_, rfl, _, rfl, rfl, rfl⟩ := hq
        show go_W mt_X11_whyNotAgain fr_R 55 [some (pv_r m), some (pv_i x1), some (pv_i (I (m + 1) (200 + 14 * n1 + 0))), some (pv_i (I (m + 1) (200 + 14 * n1 + 4))), some (pv_i (1 : Int32))] [pv_i (I (m + 1) (200 + 14 * n1 + 6))] (mm_si B I) (qi_ (fun x M' => ∃ I', M' = mm_si B I' ∧ P x I'))
        refine go_iconst (v := (5 : Int32)) rfl dX11_whyNotAgain_55 ?_
        refine go_icmp_ne (tgt := 78) dX11_whyNotAgain_56 (by decide) (fun hc => ?_) (fun hc => ?_)
        · replace H := H.1 hc
          refine go_bipush (v := (-3 : Int32)) rfl dX11_whyNotAgain_78 ?_
          exact go_iret rfl rfl dX11_whyNotAgain_80 ⟨_, rfl, _, rfl, H⟩
        · replace H := H.2 hc
          refine go_aload_n dX11_whyNotAgain_59 rfl ?_
          refine go_getRe (k := 0) ⟨by decide, rfl, by decide, Or.inr ⟨_, rfl⟩⟩ RK.1 (rf_r1 RK) fl_X11_7 dX11_whyNotAgain_60 ?_
          refine go_iload_n dX11_whyNotAgain_63 rfl ?_
          obtain ⟨n21, ⟨hn21, hn21b⟩, H⟩ := H
          refine go_St (av := [pv_i (I (m + 1) (200 + 14 * n1 + 0))]) (st := [pv_r (m + 1)]) ok_X11_at ⟨by decide, by decide⟩ ml_X11_80 rfl (by decide) (fun v hv => by simp only [List.mem_cons, List.not_mem_nil, or_false] at hv; rcases hv with rfl <;> first | exact pv_1i | exact pv_1r) (Nat.le_of_ble_eq_true rfl) (fun _ h => h) dX11_whyNotAgain_64 (rx_at RK hn21) (fun r M' hq _ => ?_)
          obtain ⟨_, rfl, _, rfl, rfl, rfl⟩ := hq
          show go_W mt_X11_whyNotAgain fr_R 67 [some (pv_r m), some (pv_i x1), some (pv_i (I (m + 1) (200 + 14 * n1 + 0))), some (pv_i (I (m + 1) (200 + 14 * n1 + 4))), some (pv_i (1 : Int32))] [pv_i (nI (10 + 10 * n21)), pv_r (m + 1)] (mm_si B I) (qi_ (fun x M' => ∃ I', M' = mm_si B I' ∧ P x I'))
          refine go_iconst (v := (3 : Int32)) rfl dX11_whyNotAgain_67 ?_
          refine go_iadd dX11_whyNotAgain_68 ?_
          refine go_ialdN (j := ((10 + 10 * n21) + 3)) ⟨by decide, by decide, by decide⟩ (rf_k1 RK) (nI_ae rfl rfl) (by omega) dX11_whyNotAgain_69 ?_
          refine go_if_ne (tgt := 78) dX11_whyNotAgain_70 (by decide) (fun hc => ?_) (fun hc => ?_)
          · replace H := H.1 hc
            refine go_bipush (v := (-3 : Int32)) rfl dX11_whyNotAgain_78 ?_
            exact go_iret rfl rfl dX11_whyNotAgain_80 ⟨_, rfl, _, rfl, H⟩
          · replace H := H.2 hc
            refine go_iload dX11_whyNotAgain_73 rfl ?_
            refine go_if_eq (tgt := 81) dX11_whyNotAgain_75 (by decide) (fun hc => absurd hc (by decide)) (fun _ => ?_)
            refine go_bipush (v := (-3 : Int32)) rfl dX11_whyNotAgain_78 ?_
            exact go_iret rfl rfl dX11_whyNotAgain_80 ⟨_, rfl, _, rfl, H⟩
  · replace H := H.2 hc
    refine go_V (av := [pv_i x1]) (st := []) (ci := 11) ok_X11_isTask ⟨by decide, by decide⟩ ml_X11_161 rfl (by decide) (fun v hv => by simp only [List.mem_cons, List.not_mem_nil, or_false] at hv; rcases hv with rfl <;> first | exact pv_1i | exact pv_1r) (Nat.le_of_ble_eq_true rfl) (fun _ h => h) (by decide) rfl RK.1 dX11_whyNotAgain_2 (rx_isTask_f RK hc) (fun r M' hq _ => ?_)
    obtain ⟨_, rfl, _, rfl, rfl, rfl⟩ := hq
    show go_W mt_X11_whyNotAgain fr_R 5 [some (pv_r m), some (pv_i x1), none, none, none] [pv_i (0 : Int32)] (mm_si B I) (qi_ (fun x M' => ∃ I', M' = mm_si B I' ∧ P x I'))
    refine go_if_ne (tgt := 11) dX11_whyNotAgain_5 (by decide) (fun hc => absurd hc (by decide)) (fun _ => ?_)
    refine go_bipush (v := (-2 : Int32)) rfl dX11_whyNotAgain_8 ?_
    exact go_iret rfl rfl dX11_whyNotAgain_10 ⟨_, rfl, _, rfl, H⟩
set_option maxRecDepth 20000 in
theorem wq_X11_again_0 {B : mm_T} {I : Nat → Nat → Int32} {m : Nat} (RK : rf_ok B m) {x1 : Int32} {P : Int32 → (Nat → Nat → Int32) → Prop} (H : rs_i mt_X11_whyNotAgain [pv_r m, pv_i x1] B I (fun v2 I1 => (((v2 = 0) → rs_v mt_X11_leavesAside [pv_r m, pv_i x1] B I1 (fun I3 => ∃ n4, (x1 = nI n4 ∧ n4 < 400) ∧ (∀ I5, I5 = i2_u I3 (m + 1) (200 + 14 * n4 + 7) (0 : Int32) → ∀ I6, I6 = i2_u I5 (m + 1) (200 + 14 * n4 + 6) (1 : Int32) → rs_i mt_X11_isHeldBack [pv_r m, pv_i x1] B I6 (fun v8 I7 => (((¬ v8 = 0) → rs_v mt_X11_writes [pv_r m, pv_i (8 : Int32), pv_i x1, pv_i (-1 : Int32), pv_i (0 : Int32)] B I7 (fun I9 => (((v8 = 0) → P (0 : Int32) I9) ∧ ((¬ v8 = 0) → P (1 : Int32) I9)))) ∧ ((v8 = 0) → rs_v mt_X11_waitsNow [pv_r m, pv_i x1] B I7 (fun I10 => rs_v mt_X11_writes [pv_r m, pv_i (8 : Int32), pv_i x1, pv_i (-1 : Int32), pv_i (0 : Int32)] B I10 (fun I11 => (((v8 = 0) → P (0 : Int32) I11) ∧ ((¬ v8 = 0) → P (1 : Int32) I11)))))))))) ∧ ((¬ v2 = 0) → (I1 m 8 = 0) ∧ (∀ I12, I12 = i2_u I1 m 7 (I1 m 7 + 1) → P v2 I12))))) : rw_i mt_X11_again 0 [some (pv_r m), some (pv_i x1), none, none] [] B I P := by
  refine go_aload_n dX11_again_0 rfl ?_
  refine go_iload_n dX11_again_1 rfl ?_
  refine go_V (av := [pv_i x1]) (st := []) (ci := 11) ok_X11_whyNotAgain ⟨by decide, by decide⟩ ml_X11_236 rfl (by decide) (fun v hv => by simp only [List.mem_cons, List.not_mem_nil, or_false] at hv; rcases hv with rfl <;> first | exact pv_1i | exact pv_1r) (Nat.le_of_ble_eq_true rfl) (fun _ h => h) (by decide) rfl RK.1 dX11_again_2 H (fun r M' hq _ => ?_)
  obtain ⟨v2, rfl, I1, rfl, H⟩ := hq
  show go_W mt_X11_again fr_R 5 [some (pv_r m), some (pv_i x1), none, none] [pv_i v2] (mm_si B I1) (qi_ (fun x M' => ∃ I', M' = mm_si B I' ∧ P x I'))
  refine go_istore_n (by decide) dX11_again_5 ?_
  show go_W mt_X11_again fr_R 6 [some (pv_r m), some (pv_i x1), some (pv_i v2), none] [] (mm_si B I1) (qi_ (fun x M' => ∃ I', M' = mm_si B I' ∧ P x I'))
  refine go_iload_n dX11_again_6 rfl ?_
  refine go_if_eq (tgt := 16) dX11_again_7 (by decide) (fun hc => ?_) (fun hc => ?_)
  · replace H := H.1 hc
    refine go_aload_n dX11_again_16 rfl ?_
    refine go_iload_n dX11_again_17 rfl ?_
    refine go_V (av := [pv_i x1]) (st := []) (ci := 11) ok_X11_leavesAside ⟨by decide, by decide⟩ ml_X11_239 rfl (by decide) (fun v hv => by simp only [List.mem_cons, List.not_mem_nil, or_false] at hv; rcases hv with rfl <;> first | exact pv_1i | exact pv_1r) (Nat.le_of_ble_eq_true rfl) (fun _ h => h) (by decide) rfl RK.1 dX11_again_18 H (fun r M' hq _ => ?_)
    obtain ⟨rfl, I3, rfl, H⟩ := hq
    show go_W mt_X11_again fr_R 21 [some (pv_r m), some (pv_i x1), some (pv_i v2), none] [] (mm_si B I3) (qi_ (fun x M' => ∃ I', M' = mm_si B I' ∧ P x I'))
    refine go_aload_n dX11_again_21 rfl ?_
    refine go_iload_n dX11_again_22 rfl ?_
    refine go_bipush (v := (7 : Int32)) rfl dX11_again_23 ?_
    refine go_iconst (v := (0 : Int32)) rfl dX11_again_25 ?_
    obtain ⟨n4, ⟨hn4, hn4b⟩, H⟩ := H
    refine go_V (av := [pv_i x1, pv_i (7 : Int32), pv_i (0 : Int32)]) (st := []) (ci := 11) ok_X11_is ⟨by decide, by decide⟩ ml_X11_121 rfl (by decide) (fun v hv => by simp only [List.mem_cons, List.not_mem_nil, or_false] at hv; rcases hv with rfl | rfl | rfl <;> first | exact pv_1i | exact pv_1r) (Nat.le_of_ble_eq_true rfl) (fun _ h => h) (by decide) rfl RK.1 dX11_again_26 (rx_is RK hn4 rfl hn4b (by decide)) (fun r M' hq _ => ?_)
    obtain ⟨rfl, _, rfl, rfl⟩ := hq
    show go_W mt_X11_again fr_R 29 [some (pv_r m), some (pv_i x1), some (pv_i v2), none] [] (mm_si B (i2_u I3 (m + 1) (200 + 14 * n4 + 7) (0 : Int32))) (qi_ (fun x M' => ∃ I', M' = mm_si B I' ∧ P x I'))
    obtain ⟨I5, hI5⟩ : ∃ I', I' = i2_u I3 (m + 1) (200 + 14 * n4 + 7) (0 : Int32) := ⟨_, rfl⟩
    rw [← hI5]
    replace H := H I5 hI5
    refine go_aload_n dX11_again_29 rfl ?_
    refine go_iload_n dX11_again_30 rfl ?_
    refine go_bipush (v := (6 : Int32)) rfl dX11_again_31 ?_
    refine go_iconst (v := (1 : Int32)) rfl dX11_again_33 ?_
    refine go_V (av := [pv_i x1, pv_i (6 : Int32), pv_i (1 : Int32)]) (st := []) (ci := 11) ok_X11_is ⟨by decide, by decide⟩ ml_X11_121 rfl (by decide) (fun v hv => by simp only [List.mem_cons, List.not_mem_nil, or_false] at hv; rcases hv with rfl | rfl | rfl <;> first | exact pv_1i | exact pv_1r) (Nat.le_of_ble_eq_true rfl) (fun _ h => h) (by decide) rfl RK.1 dX11_again_34 (rx_is RK hn4 rfl (by omega) (by decide)) (fun r M' hq _ => ?_)
    obtain ⟨rfl, _, rfl, rfl⟩ := hq
    show go_W mt_X11_again fr_R 37 [some (pv_r m), some (pv_i x1), some (pv_i v2), none] [] (mm_si B (i2_u I5 (m + 1) (200 + 14 * n4 + 6) (1 : Int32))) (qi_ (fun x M' => ∃ I', M' = mm_si B I' ∧ P x I'))
    obtain ⟨I6, hI6⟩ : ∃ I', I' = i2_u I5 (m + 1) (200 + 14 * n4 + 6) (1 : Int32) := ⟨_, rfl⟩
    rw [← hI6]
    replace H := H I6 hI6
    refine go_aload_n dX11_again_37 rfl ?_
    refine go_iload_n dX11_again_38 rfl ?_
    refine go_V (av := [pv_i x1]) (st := []) (ci := 11) ok_X11_isHeldBack ⟨by decide, by decide⟩ ml_X11_177 rfl (by decide) (fun v hv => by simp only [List.mem_cons, List.not_mem_nil, or_false] at hv; rcases hv with rfl <;> first | exact pv_1i | exact pv_1r) (Nat.le_of_ble_eq_true rfl) (fun _ h => h) (by decide) rfl RK.1 dX11_again_39 H (fun r M' hq _ => ?_)
    obtain ⟨v8, rfl, I7, rfl, H⟩ := hq
    show go_W mt_X11_again fr_R 42 [some (pv_r m), some (pv_i x1), some (pv_i v2), none] [pv_i v8] (mm_si B I7) (qi_ (fun x M' => ∃ I', M' = mm_si B I' ∧ P x I'))
    refine go_istore_n (by decide) dX11_again_42 ?_
    show go_W mt_X11_again fr_R 43 [some (pv_r m), some (pv_i x1), some (pv_i v2), some (pv_i v8)] [] (mm_si B I7) (qi_ (fun x M' => ∃ I', M' = mm_si B I' ∧ P x I'))
    refine go_iload_n dX11_again_43 rfl ?_
    refine go_if_ne (tgt := 52) dX11_again_44 (by decide) (fun hc => ?_) (fun hc => ?_)
    · replace H := H.1 hc
      refine go_aload_n dX11_again_52 rfl ?_
      refine go_bipush (v := (8 : Int32)) rfl dX11_again_53 ?_
      refine go_iload_n dX11_again_55 rfl ?_
      refine go_iconst (v := (-1 : Int32)) rfl dX11_again_56 ?_
      refine go_iconst (v := (0 : Int32)) rfl dX11_again_57 ?_
      refine go_V (av := [pv_i (8 : Int32), pv_i x1, pv_i (-1 : Int32), pv_i (0 : Int32)]) (st := []) (ci := 11) ok_X11_writes ⟨by decide, by decide⟩ ml_X11_125 rfl (by decide) (fun v hv => by simp only [List.mem_cons, List.not_mem_nil, or_false] at hv; rcases hv with rfl | rfl | rfl | rfl <;> first | exact pv_1i | exact pv_1r) (Nat.le_of_ble_eq_true rfl) (fun _ h => h) (by decide) rfl RK.1 dX11_again_58 H (fun r M' hq _ => ?_)
      obtain ⟨rfl, I9, rfl, H⟩ := hq
      show go_W mt_X11_again fr_R 61 [some (pv_r m), some (pv_i x1), some (pv_i v2), some (pv_i v8)] [] (mm_si B I9) (qi_ (fun x M' => ∃ I', M' = mm_si B I' ∧ P x I'))
      refine go_iload_n dX11_again_61 rfl ?_
      refine go_if_eq (tgt := 69) dX11_again_62 (by decide) (fun hc => ?_) (fun hc => ?_)
      · replace H := H.1 hc
        refine go_iconst (v := (0 : Int32)) rfl dX11_again_69 ?_
        exact go_iret rfl rfl dX11_again_70 ⟨_, rfl, _, rfl, H⟩
      · replace H := H.2 hc
        refine go_iconst (v := (1 : Int32)) rfl dX11_again_65 ?_
        refine go_goto (tgt := 70) dX11_again_66 (by decide) ?_
        exact go_iret rfl rfl dX11_again_70 ⟨_, rfl, _, rfl, H⟩
    · replace H := H.2 hc
      refine go_aload_n dX11_again_47 rfl ?_
      refine go_iload_n dX11_again_48 rfl ?_
      refine go_V (av := [pv_i x1]) (st := []) (ci := 11) ok_X11_waitsNow ⟨by decide, by decide⟩ ml_X11_146 rfl (by decide) (fun v hv => by simp only [List.mem_cons, List.not_mem_nil, or_false] at hv; rcases hv with rfl <;> first | exact pv_1i | exact pv_1r) (Nat.le_of_ble_eq_true rfl) (fun _ h => h) (by decide) rfl RK.1 dX11_again_49 H (fun r M' hq _ => ?_)
      obtain ⟨rfl, I10, rfl, H⟩ := hq
      show go_W mt_X11_again fr_R 52 [some (pv_r m), some (pv_i x1), some (pv_i v2), some (pv_i v8)] [] (mm_si B I10) (qi_ (fun x M' => ∃ I', M' = mm_si B I' ∧ P x I'))
      refine go_aload_n dX11_again_52 rfl ?_
      refine go_bipush (v := (8 : Int32)) rfl dX11_again_53 ?_
      refine go_iload_n dX11_again_55 rfl ?_
      refine go_iconst (v := (-1 : Int32)) rfl dX11_again_56 ?_
      refine go_iconst (v := (0 : Int32)) rfl dX11_again_57 ?_
      refine go_V (av := [pv_i (8 : Int32), pv_i x1, pv_i (-1 : Int32), pv_i (0 : Int32)]) (st := []) (ci := 11) ok_X11_writes ⟨by decide, by decide⟩ ml_X11_125 rfl (by decide) (fun v hv => by simp only [List.mem_cons, List.not_mem_nil, or_false] at hv; rcases hv with rfl | rfl | rfl | rfl <;> first | exact pv_1i | exact pv_1r) (Nat.le_of_ble_eq_true rfl) (fun _ h => h) (by decide) rfl RK.1 dX11_again_58 H (fun r M' hq _ => ?_)
      obtain ⟨rfl, I11, rfl, H⟩ := hq
      show go_W mt_X11_again fr_R 61 [some (pv_r m), some (pv_i x1), some (pv_i v2), some (pv_i v8)] [] (mm_si B I11) (qi_ (fun x M' => ∃ I', M' = mm_si B I' ∧ P x I'))
      refine go_iload_n dX11_again_61 rfl ?_
      refine go_if_eq (tgt := 69) dX11_again_62 (by decide) (fun hc => ?_) (fun hc => ?_)
      · replace H := H.1 hc
        refine go_iconst (v := (0 : Int32)) rfl dX11_again_69 ?_
        exact go_iret rfl rfl dX11_again_70 ⟨_, rfl, _, rfl, H⟩
      · replace H := H.2 hc
        refine go_iconst (v := (1 : Int32)) rfl dX11_again_65 ?_
        refine go_goto (tgt := 70) dX11_again_66 (by decide) ?_
        exact go_iret rfl rfl dX11_again_70 ⟨_, rfl, _, rfl, H⟩
  · replace H := H.2 hc
    refine go_aload_n dX11_again_10 rfl ?_
    refine go_iload_n dX11_again_11 rfl ?_
    obtain ⟨h8, H⟩ := H
    refine go_V (av := [pv_i v2]) (st := []) (ci := 11) ok_X11_refuses ⟨by decide, by decide⟩ ml_X11_199 rfl (by decide) (fun v hv => by simp only [List.mem_cons, List.not_mem_nil, or_false] at hv; rcases hv with rfl <;> first | exact pv_1i | exact pv_1r) (Nat.le_of_ble_eq_true rfl) (fun _ h => h) (by decide) rfl RK.1 dX11_again_12 (rx_refuses RK h8) (fun r M' hq _ => ?_)
    obtain ⟨_, rfl, _, rfl, rfl, rfl⟩ := hq
    show go_W mt_X11_again fr_R 15 [some (pv_r m), some (pv_i x1), some (pv_i v2), none] [pv_i v2] (mm_si B (i2_u I1 m 7 (I1 m 7 + 1))) (qi_ (fun x M' => ∃ I', M' = mm_si B I' ∧ P x I'))
    obtain ⟨I12, hI12⟩ : ∃ I', I' = i2_u I1 m 7 (I1 m 7 + 1) := ⟨_, rfl⟩
    rw [← hI12]
    replace H := H I12 hI12
    exact go_iret rfl rfl dX11_again_15 ⟨_, rfl, _, rfl, H⟩
set_option maxRecDepth 20000 in
theorem wq_X11_discard_0 {B : mm_T} {I : Nat → Nat → Int32} {m : Nat} (RK : rf_ok B m) {x1 : Int32} {P : Int32 → (Nat → Nat → Int32) → Prop} (H : ((((0 ≤ x1 ∧ x1 ≤ I (m + 1) 1 - 1)) → ∃ n1, (x1 = nI n1 ∧ n1 < 400) ∧ ((((I (m + 1) (200 + 14 * n1 + 6) = (5 : Int32)) → rs_v mt_X11_leavesAside [pv_r m, pv_i x1] B I (fun I2 => ∀ I3, I3 = i2_u I2 (m + 1) (200 + 14 * n1 + 6) (6 : Int32) → rs_v mt_X11_writes [pv_r m, pv_i (6 : Int32), pv_i x1, pv_i (-1 : Int32), pv_i (0 : Int32)] B I3 (fun I4 => P (I4 (m + 1) 3) I4))) ∧ ((¬ I (m + 1) (200 + 14 * n1 + 6) = (5 : Int32)) → (I m 8 = 0) ∧ (∀ I5, I5 = i2_u I m 7 (I m 7 + 1) → P (-3 : Int32) I5))))) ∧ ((¬ (0 ≤ x1 ∧ x1 ≤ I (m + 1) 1 - 1)) → (I m 8 = 0) ∧ (∀ I6, I6 = i2_u I m 7 (I m 7 + 1) → P (-2 : Int32) I6)))) : rw_i mt_X11_discard 0 [some (pv_r m), some (pv_i x1)] [] B I P := by
  refine go_aload_n dX11_discard_0 rfl ?_
  refine go_iload_n dX11_discard_1 rfl ?_
  by_cases hc : (0 ≤ x1 ∧ x1 ≤ I (m + 1) 1 - 1)
  · replace H := H.1 hc
    refine go_V (av := [pv_i x1]) (st := []) (ci := 11) ok_X11_isTask ⟨by decide, by decide⟩ ml_X11_161 rfl (by decide) (fun v hv => by simp only [List.mem_cons, List.not_mem_nil, or_false] at hv; rcases hv with rfl <;> first | exact pv_1i | exact pv_1r) (Nat.le_of_ble_eq_true rfl) (fun _ h => h) (by decide) rfl RK.1 dX11_discard_2 (rx_isTask_t RK hc) (fun r M' hq _ => ?_)
    obtain ⟨_, rfl, _, rfl, rfl, rfl⟩ := hq
    show go_W mt_X11_discard fr_R 5 [some (pv_r m), some (pv_i x1)] [pv_i (1 : Int32)] (mm_si B I) (qi_ (fun x M' => ∃ I', M' = mm_si B I' ∧ P x I'))
    refine go_if_ne (tgt := 15) dX11_discard_5 (by decide) (fun _ => ?_) (fun hc => absurd hc (by decide))
    refine go_aload_n dX11_discard_15 rfl ?_
    refine go_iload_n dX11_discard_16 rfl ?_
    refine go_bipush (v := (6 : Int32)) rfl dX11_discard_17 ?_
    obtain ⟨n1, ⟨hn1, hn1b⟩, H⟩ := H
    refine go_V (av := [pv_i x1, pv_i (6 : Int32)]) (st := []) (ci := 11) ok_X11_of ⟨by decide, by decide⟩ ml_X11_94 rfl (by decide) (fun v hv => by simp only [List.mem_cons, List.not_mem_nil, or_false] at hv; rcases hv with rfl | rfl <;> first | exact pv_1i | exact pv_1r) (Nat.le_of_ble_eq_true rfl) (fun _ h => h) (by decide) rfl RK.1 dX11_discard_19 (rx_of RK hn1 rfl hn1b (by decide)) (fun r M' hq _ => ?_)
    obtain ⟨_, rfl, _, rfl, rfl, rfl⟩ := hq
    show go_W mt_X11_discard fr_R 22 [some (pv_r m), some (pv_i x1)] [pv_i (I (m + 1) (200 + 14 * n1 + 6))] (mm_si B I) (qi_ (fun x M' => ∃ I', M' = mm_si B I' ∧ P x I'))
    refine go_iconst (v := (5 : Int32)) rfl dX11_discard_22 ?_
    refine go_icmp_eq (tgt := 33) dX11_discard_23 (by decide) (fun hc => ?_) (fun hc => ?_)
    · replace H := H.1 hc
      refine go_aload_n dX11_discard_33 rfl ?_
      refine go_iload_n dX11_discard_34 rfl ?_
      refine go_V (av := [pv_i x1]) (st := []) (ci := 11) ok_X11_leavesAside ⟨by decide, by decide⟩ ml_X11_239 rfl (by decide) (fun v hv => by simp only [List.mem_cons, List.not_mem_nil, or_false] at hv; rcases hv with rfl <;> first | exact pv_1i | exact pv_1r) (Nat.le_of_ble_eq_true rfl) (fun _ h => h) (by decide) rfl RK.1 dX11_discard_35 H (fun r M' hq _ => ?_)
      obtain ⟨rfl, I2, rfl, H⟩ := hq
      show go_W mt_X11_discard fr_R 38 [some (pv_r m), some (pv_i x1)] [] (mm_si B I2) (qi_ (fun x M' => ∃ I', M' = mm_si B I' ∧ P x I'))
      refine go_aload_n dX11_discard_38 rfl ?_
      refine go_iload_n dX11_discard_39 rfl ?_
      refine go_bipush (v := (6 : Int32)) rfl dX11_discard_40 ?_
      refine go_bipush (v := (6 : Int32)) rfl dX11_discard_42 ?_
      refine go_V (av := [pv_i x1, pv_i (6 : Int32), pv_i (6 : Int32)]) (st := []) (ci := 11) ok_X11_is ⟨by decide, by decide⟩ ml_X11_121 rfl (by decide) (fun v hv => by simp only [List.mem_cons, List.not_mem_nil, or_false] at hv; rcases hv with rfl | rfl | rfl <;> first | exact pv_1i | exact pv_1r) (Nat.le_of_ble_eq_true rfl) (fun _ h => h) (by decide) rfl RK.1 dX11_discard_44 (rx_is RK hn1 rfl (by omega) (by decide)) (fun r M' hq _ => ?_)
      obtain ⟨rfl, _, rfl, rfl⟩ := hq
      show go_W mt_X11_discard fr_R 47 [some (pv_r m), some (pv_i x1)] [] (mm_si B (i2_u I2 (m + 1) (200 + 14 * n1 + 6) (6 : Int32))) (qi_ (fun x M' => ∃ I', M' = mm_si B I' ∧ P x I'))
      obtain ⟨I3, hI3⟩ : ∃ I', I' = i2_u I2 (m + 1) (200 + 14 * n1 + 6) (6 : Int32) := ⟨_, rfl⟩
      rw [← hI3]
      replace H := H I3 hI3
      refine go_aload_n dX11_discard_47 rfl ?_
      refine go_bipush (v := (6 : Int32)) rfl dX11_discard_48 ?_
      refine go_iload_n dX11_discard_50 rfl ?_
      refine go_iconst (v := (-1 : Int32)) rfl dX11_discard_51 ?_
      refine go_iconst (v := (0 : Int32)) rfl dX11_discard_52 ?_
      refine go_V (av := [pv_i (6 : Int32), pv_i x1, pv_i (-1 : Int32), pv_i (0 : Int32)]) (st := []) (ci := 11) ok_X11_writes ⟨by decide, by decide⟩ ml_X11_125 rfl (by decide) (fun v hv => by simp only [List.mem_cons, List.not_mem_nil, or_false] at hv; rcases hv with rfl | rfl | rfl | rfl <;> first | exact pv_1i | exact pv_1r) (Nat.le_of_ble_eq_true rfl) (fun _ h => h) (by decide) rfl RK.1 dX11_discard_53 H (fun r M' hq _ => ?_)
      obtain ⟨rfl, I4, rfl, H⟩ := hq
      show go_W mt_X11_discard fr_R 56 [some (pv_r m), some (pv_i x1)] [] (mm_si B I4) (qi_ (fun x M' => ∃ I', M' = mm_si B I' ∧ P x I'))
      refine go_aload_n dX11_discard_56 rfl ?_
      refine go_getRe (k := 0) ⟨by decide, rfl, by decide, Or.inr ⟨_, rfl⟩⟩ RK.1 (rf_r1 RK) fl_X11_7 dX11_discard_57 ?_
      refine go_iconst (v := (3 : Int32)) rfl dX11_discard_60 ?_
      refine go_ialdN (j := 3) ⟨by decide, by decide, by decide⟩ (rf_k1 RK) rfl (by decide) dX11_discard_61 ?_
      exact go_iret rfl rfl dX11_discard_62 ⟨_, rfl, _, rfl, H⟩
    · replace H := H.2 hc
      refine go_aload_n dX11_discard_26 rfl ?_
      refine go_bipush (v := (-3 : Int32)) rfl dX11_discard_27 ?_
      obtain ⟨h8, H⟩ := H
      refine go_V (av := [pv_i (-3 : Int32)]) (st := []) (ci := 11) ok_X11_refuses ⟨by decide, by decide⟩ ml_X11_199 rfl (by decide) (fun v hv => by simp only [List.mem_cons, List.not_mem_nil, or_false] at hv; rcases hv with rfl <;> first | exact pv_1i | exact pv_1r) (Nat.le_of_ble_eq_true rfl) (fun _ h => h) (by decide) rfl RK.1 dX11_discard_29 (rx_refuses RK h8) (fun r M' hq _ => ?_)
      obtain ⟨_, rfl, _, rfl, rfl, rfl⟩ := hq
      show go_W mt_X11_discard fr_R 32 [some (pv_r m), some (pv_i x1)] [pv_i (-3 : Int32)] (mm_si B (i2_u I m 7 (I m 7 + 1))) (qi_ (fun x M' => ∃ I', M' = mm_si B I' ∧ P x I'))
      obtain ⟨I5, hI5⟩ : ∃ I', I' = i2_u I m 7 (I m 7 + 1) := ⟨_, rfl⟩
      rw [← hI5]
      replace H := H I5 hI5
      exact go_iret rfl rfl dX11_discard_32 ⟨_, rfl, _, rfl, H⟩
  · replace H := H.2 hc
    refine go_V (av := [pv_i x1]) (st := []) (ci := 11) ok_X11_isTask ⟨by decide, by decide⟩ ml_X11_161 rfl (by decide) (fun v hv => by simp only [List.mem_cons, List.not_mem_nil, or_false] at hv; rcases hv with rfl <;> first | exact pv_1i | exact pv_1r) (Nat.le_of_ble_eq_true rfl) (fun _ h => h) (by decide) rfl RK.1 dX11_discard_2 (rx_isTask_f RK hc) (fun r M' hq _ => ?_)
    obtain ⟨_, rfl, _, rfl, rfl, rfl⟩ := hq
    show go_W mt_X11_discard fr_R 5 [some (pv_r m), some (pv_i x1)] [pv_i (0 : Int32)] (mm_si B I) (qi_ (fun x M' => ∃ I', M' = mm_si B I' ∧ P x I'))
    refine go_if_ne (tgt := 15) dX11_discard_5 (by decide) (fun hc => absurd hc (by decide)) (fun _ => ?_)
    refine go_aload_n dX11_discard_8 rfl ?_
    refine go_bipush (v := (-2 : Int32)) rfl dX11_discard_9 ?_
    obtain ⟨h8, H⟩ := H
    refine go_V (av := [pv_i (-2 : Int32)]) (st := []) (ci := 11) ok_X11_refuses ⟨by decide, by decide⟩ ml_X11_199 rfl (by decide) (fun v hv => by simp only [List.mem_cons, List.not_mem_nil, or_false] at hv; rcases hv with rfl <;> first | exact pv_1i | exact pv_1r) (Nat.le_of_ble_eq_true rfl) (fun _ h => h) (by decide) rfl RK.1 dX11_discard_11 (rx_refuses RK h8) (fun r M' hq _ => ?_)
    obtain ⟨_, rfl, _, rfl, rfl, rfl⟩ := hq
    show go_W mt_X11_discard fr_R 14 [some (pv_r m), some (pv_i x1)] [pv_i (-2 : Int32)] (mm_si B (i2_u I m 7 (I m 7 + 1))) (qi_ (fun x M' => ∃ I', M' = mm_si B I' ∧ P x I'))
    obtain ⟨I6, hI6⟩ : ∃ I', I' = i2_u I m 7 (I m 7 + 1) := ⟨_, rfl⟩
    rw [← hI6]
    replace H := H I6 hI6
    exact go_iret rfl rfl dX11_discard_14 ⟨_, rfl, _, rfl, H⟩
set_option maxRecDepth 20000 in
theorem wq_X11_arrange_0 {B : mm_T} {I : Nat → Nat → Int32} {m : Nat} (RK : rf_ok B m) {x1 x2 x3 : Int32} {P : Int32 → (Nat → Nat → Int32) → Prop} (H : ((((0 ≤ x1 ∧ x1 ≤ 4)) → (((((0 : Int32) ≤ x2 ∧ x2 ≤ (2 : Int32))) → (((¬ x2 = 0) → (((¬ x2 = (1 : Int32)) → (((((1 : Int32) ≤ x3 ∧ x3 ≤ (6 : Int32))) → ∃ n1, (x1 = nI n1 ∧ n1 < 5) ∧ (∃ n2, (((nI (10 + 10 * n1)) + x2) = nI n2 ∧ n2 < 6200) ∧ (∀ I3, I3 = i2_u I (m + 1) n2 x3 → P (I (m + 1) n2) I3))) ∧ ((¬ ((1 : Int32) ≤ x3 ∧ x3 ≤ (6 : Int32))) → (I m 8 = 0) ∧ (∀ I4, I4 = i2_u I m 7 (I m 7 + 1) → P (-2 : Int32) I4)))) ∧ ((x2 = (1 : Int32)) → (((((1 : Int32) ≤ x3 ∧ x3 ≤ (32 : Int32))) → ∃ n5, (x1 = nI n5 ∧ n5 < 5) ∧ (∃ n6, (((nI (10 + 10 * n5)) + x2) = nI n6 ∧ n6 < 6200) ∧ (∀ I7, I7 = i2_u I (m + 1) n6 x3 → P (I (m + 1) n6) I7))) ∧ ((¬ ((1 : Int32) ≤ x3 ∧ x3 ≤ (32 : Int32))) → (I m 8 = 0) ∧ (∀ I8, I8 = i2_u I m 7 (I m 7 + 1) → P (-2 : Int32) I8)))))) ∧ ((x2 = 0) → (((((1 : Int32) ≤ x3 ∧ x3 ≤ (9 : Int32))) → ∃ n9, (x1 = nI n9 ∧ n9 < 5) ∧ (∃ n10, (((nI (10 + 10 * n9)) + x2) = nI n10 ∧ n10 < 6200) ∧ (∀ I11, I11 = i2_u I (m + 1) n10 x3 → P (I (m + 1) n10) I11))) ∧ ((¬ ((1 : Int32) ≤ x3 ∧ x3 ≤ (9 : Int32))) → (I m 8 = 0) ∧ (∀ I12, I12 = i2_u I m 7 (I m 7 + 1) → P (-2 : Int32) I12)))))) ∧ ((¬ ((0 : Int32) ≤ x2 ∧ x2 ≤ (2 : Int32))) → (I m 8 = 0) ∧ (∀ I13, I13 = i2_u I m 7 (I m 7 + 1) → P (-2 : Int32) I13)))) ∧ ((¬ (0 ≤ x1 ∧ x1 ≤ 4)) → (I m 8 = 0) ∧ (∀ I14, I14 = i2_u I m 7 (I m 7 + 1) → P (-2 : Int32) I14)))) : rw_i mt_X11_arrange 0 [some (pv_r m), some (pv_i x1), some (pv_i x2), some (pv_i x3), none] [] B I P := by
  refine go_aload_n dX11_arrange_0 rfl ?_
  refine go_iload_n dX11_arrange_1 rfl ?_
  by_cases hc : (0 ≤ x1 ∧ x1 ≤ 4)
  · replace H := H.1 hc
    refine go_V (av := [pv_i x1]) (st := []) (ci := 11) ok_X11_isLane ⟨by decide, by decide⟩ ml_X11_152 rfl (by decide) (fun v hv => by simp only [List.mem_cons, List.not_mem_nil, or_false] at hv; rcases hv with rfl <;> first | exact pv_1i | exact pv_1r) (Nat.le_of_ble_eq_true rfl) (fun _ h => h) (by decide) rfl RK.1 dX11_arrange_2 (rx_isLane_t RK hc) (fun r M' hq _ => ?_)
    obtain ⟨_, rfl, _, rfl, rfl, rfl⟩ := hq
    show go_W mt_X11_arrange fr_R 5 [some (pv_r m), some (pv_i x1), some (pv_i x2), some (pv_i x3), none] [pv_i (1 : Int32)] (mm_si B I) (qi_ (fun x M' => ∃ I', M' = mm_si B I' ∧ P x I'))
    refine go_if_eq (tgt := 46) dX11_arrange_5 (by decide) (fun hc => absurd hc (by decide)) (fun _ => ?_)
    refine go_iload_n dX11_arrange_8 rfl ?_
    refine go_iconst (v := (0 : Int32)) rfl dX11_arrange_9 ?_
    refine go_iconst (v := (2 : Int32)) rfl dX11_arrange_10 ?_
    by_cases hc : ((0 : Int32) ≤ x2 ∧ x2 ≤ (2 : Int32))
    · replace H := H.1 hc
      refine go_St (av := [pv_i x2, pv_i (0 : Int32), pv_i (2 : Int32)]) (st := []) ok_X11_isIn ⟨by decide, by decide⟩ ml_X11_90 rfl (by decide) (fun v hv => by simp only [List.mem_cons, List.not_mem_nil, or_false] at hv; rcases hv with rfl | rfl | rfl <;> first | exact pv_1i | exact pv_1r) (Nat.le_of_ble_eq_true rfl) (fun _ h => h) dX11_arrange_11 (rx_isIn_t RK hc) (fun r M' hq _ => ?_)
      obtain ⟨_, rfl, _, rfl, rfl, rfl⟩ := hq
      show go_W mt_X11_arrange fr_R 14 [some (pv_r m), some (pv_i x1), some (pv_i x2), some (pv_i x3), none] [pv_i (1 : Int32)] (mm_si B I) (qi_ (fun x M' => ∃ I', M' = mm_si B I' ∧ P x I'))
      refine go_if_eq (tgt := 46) dX11_arrange_14 (by decide) (fun hc => absurd hc (by decide)) (fun _ => ?_)
      refine go_iload_n dX11_arrange_17 rfl ?_
      refine go_iconst (v := (1 : Int32)) rfl dX11_arrange_18 ?_
      refine go_iload_n dX11_arrange_19 rfl ?_
      refine go_if_ne (tgt := 28) dX11_arrange_20 (by decide) (fun hc => ?_) (fun hc => ?_)
      · replace H := H.1 hc
        refine go_iload_n dX11_arrange_28 rfl ?_
        refine go_iconst (v := (1 : Int32)) rfl dX11_arrange_29 ?_
        refine go_icmp_ne (tgt := 38) dX11_arrange_30 (by decide) (fun hc => ?_) (fun hc => ?_)
        · replace H := H.1 hc
          refine go_bipush (v := (6 : Int32)) rfl dX11_arrange_38 ?_
          by_cases hc : ((1 : Int32) ≤ x3 ∧ x3 ≤ (6 : Int32))
          · replace H := H.1 hc
            refine go_St (av := [pv_i x3, pv_i (1 : Int32), pv_i (6 : Int32)]) (st := []) ok_X11_isIn ⟨by decide, by decide⟩ ml_X11_90 rfl (by decide) (fun v hv => by simp only [List.mem_cons, List.not_mem_nil, or_false] at hv; rcases hv with rfl | rfl | rfl <;> first | exact pv_1i | exact pv_1r) (Nat.le_of_ble_eq_true rfl) (fun _ h => h) dX11_arrange_40 (rx_isIn_t RK hc) (fun r M' hq _ => ?_)
            obtain ⟨_, rfl, _, rfl, rfl, rfl⟩ := hq
            show go_W mt_X11_arrange fr_R 43 [some (pv_r m), some (pv_i x1), some (pv_i x2), some (pv_i x3), none] [pv_i (1 : Int32)] (mm_si B I) (qi_ (fun x M' => ∃ I', M' = mm_si B I' ∧ P x I'))
            refine go_if_ne (tgt := 53) dX11_arrange_43 (by decide) (fun _ => ?_) (fun hc => absurd hc (by decide))
            refine go_aload_n dX11_arrange_53 rfl ?_
            refine go_getRe (k := 0) ⟨by decide, rfl, by decide, Or.inr ⟨_, rfl⟩⟩ RK.1 (rf_r1 RK) fl_X11_7 dX11_arrange_54 ?_
            refine go_iload_n dX11_arrange_57 rfl ?_
            obtain ⟨n1, ⟨hn1, hn1b⟩, H⟩ := H
            refine go_St (av := [pv_i x1]) (st := [pv_r (m + 1)]) ok_X11_at ⟨by decide, by decide⟩ ml_X11_80 rfl (by decide) (fun v hv => by simp only [List.mem_cons, List.not_mem_nil, or_false] at hv; rcases hv with rfl <;> first | exact pv_1i | exact pv_1r) (Nat.le_of_ble_eq_true rfl) (fun _ h => h) dX11_arrange_58 (rx_at RK hn1) (fun r M' hq _ => ?_)
            obtain ⟨_, rfl, _, rfl, rfl, rfl⟩ := hq
            show go_W mt_X11_arrange fr_R 61 [some (pv_r m), some (pv_i x1), some (pv_i x2), some (pv_i x3), none] [pv_i (nI (10 + 10 * n1)), pv_r (m + 1)] (mm_si B I) (qi_ (fun x M' => ∃ I', M' = mm_si B I' ∧ P x I'))
            refine go_iload_n dX11_arrange_61 rfl ?_
            refine go_iadd dX11_arrange_62 ?_
            obtain ⟨n2, ⟨hn2, hn2b⟩, H⟩ := H
            refine go_ialdN (j := n2) ⟨by decide, by decide, by decide⟩ (rf_k1 RK) hn2 hn2b dX11_arrange_63 ?_
            refine go_istore (by decide) dX11_arrange_64 ?_
            show go_W mt_X11_arrange fr_R 66 [some (pv_r m), some (pv_i x1), some (pv_i x2), some (pv_i x3), some (pv_i (I (m + 1) n2))] [] (mm_si B I) (qi_ (fun x M' => ∃ I', M' = mm_si B I' ∧ P x I'))
            refine go_aload_n dX11_arrange_66 rfl ?_
            refine go_getRe (k := 0) ⟨by decide, rfl, by decide, Or.inr ⟨_, rfl⟩⟩ RK.1 (rf_r1 RK) fl_X11_7 dX11_arrange_67 ?_
            refine go_iload_n dX11_arrange_70 rfl ?_
            refine go_St (av := [pv_i x1]) (st := [pv_r (m + 1)]) ok_X11_at ⟨by decide, by decide⟩ ml_X11_80 rfl (by decide) (fun v hv => by simp only [List.mem_cons, List.not_mem_nil, or_false] at hv; rcases hv with rfl <;> first | exact pv_1i | exact pv_1r) (Nat.le_of_ble_eq_true rfl) (fun _ h => h) dX11_arrange_71 (rx_at RK hn1) (fun r M' hq _ => ?_)
            obtain ⟨_, rfl, _, rfl, rfl, rfl⟩ := hq
            show go_W mt_X11_arrange fr_R 74 [some (pv_r m), some (pv_i x1), some (pv_i x2), some (pv_i x3), some (pv_i (I (m + 1) n2))] [pv_i (nI (10 + 10 * n1)), pv_r (m + 1)] (mm_si B I) (qi_ (fun x M' => ∃ I', M' = mm_si B I' ∧ P x I'))
            refine go_iload_n dX11_arrange_74 rfl ?_
            refine go_iadd dX11_arrange_75 ?_
            refine go_iload_n dX11_arrange_76 rfl ?_
            refine go_iastN (j := n2) ⟨by decide, by decide, by decide⟩ (rf_k1 RK) rfl hn2 (by omega) dX11_arrange_77 ?_
            show go_W mt_X11_arrange fr_R 78 [some (pv_r m), some (pv_i x1), some (pv_i x2), some (pv_i x3), some (pv_i (I (m + 1) n2))] [] (mm_si B (i2_u I (m + 1) n2 x3)) (qi_ (fun x M' => ∃ I', M' = mm_si B I' ∧ P x I'))
            obtain ⟨I3, hI3⟩ : ∃ I', I' = i2_u I (m + 1) n2 x3 := ⟨_, rfl⟩
            rw [← hI3]
            replace H := H I3 hI3
            refine go_iload dX11_arrange_78 rfl ?_
            exact go_iret rfl rfl dX11_arrange_80 ⟨_, rfl, _, rfl, H⟩
          · replace H := H.2 hc
            refine go_St (av := [pv_i x3, pv_i (1 : Int32), pv_i (6 : Int32)]) (st := []) ok_X11_isIn ⟨by decide, by decide⟩ ml_X11_90 rfl (by decide) (fun v hv => by simp only [List.mem_cons, List.not_mem_nil, or_false] at hv; rcases hv with rfl | rfl | rfl <;> first | exact pv_1i | exact pv_1r) (Nat.le_of_ble_eq_true rfl) (fun _ h => h) dX11_arrange_40 (rx_isIn_f RK hc) (fun r M' hq _ => ?_)
            obtain ⟨_, rfl, _, rfl, rfl, rfl⟩ := hq
            show go_W mt_X11_arrange fr_R 43 [some (pv_r m), some (pv_i x1), some (pv_i x2), some (pv_i x3), none] [pv_i (0 : Int32)] (mm_si B I) (qi_ (fun x M' => ∃ I', M' = mm_si B I' ∧ P x I'))
            refine go_if_ne (tgt := 53) dX11_arrange_43 (by decide) (fun hc => absurd hc (by decide)) (fun _ => ?_)
            refine go_aload_n dX11_arrange_46 rfl ?_
            refine go_bipush (v := (-2 : Int32)) rfl dX11_arrange_47 ?_
            obtain ⟨h8, H⟩ := H
            refine go_V (av := [pv_i (-2 : Int32)]) (st := []) (ci := 11) ok_X11_refuses ⟨by decide, by decide⟩ ml_X11_199 rfl (by decide) (fun v hv => by simp only [List.mem_cons, List.not_mem_nil, or_false] at hv; rcases hv with rfl <;> first | exact pv_1i | exact pv_1r) (Nat.le_of_ble_eq_true rfl) (fun _ h => h) (by decide) rfl RK.1 dX11_arrange_49 (rx_refuses RK h8) (fun r M' hq _ => ?_)
            obtain ⟨_, rfl, _, rfl, rfl, rfl⟩ := hq
            show go_W mt_X11_arrange fr_R 52 [some (pv_r m), some (pv_i x1), some (pv_i x2), some (pv_i x3), none] [pv_i (-2 : Int32)] (mm_si B (i2_u I m 7 (I m 7 + 1))) (qi_ (fun x M' => ∃ I', M' = mm_si B I' ∧ P x I'))
            obtain ⟨I4, hI4⟩ : ∃ I', I' = i2_u I m 7 (I m 7 + 1) := ⟨_, rfl⟩
            rw [← hI4]
            replace H := H I4 hI4
            exact go_iret rfl rfl dX11_arrange_52 ⟨_, rfl, _, rfl, H⟩
        · replace H := H.2 hc
          refine go_bipush (v := (32 : Int32)) rfl dX11_arrange_33 ?_
          refine go_goto (tgt := 40) dX11_arrange_35 (by decide) ?_
          by_cases hc : ((1 : Int32) ≤ x3 ∧ x3 ≤ (32 : Int32))
          · replace H := H.1 hc
            refine go_St (av := [pv_i x3, pv_i (1 : Int32), pv_i (32 : Int32)]) (st := []) ok_X11_isIn ⟨by decide, by decide⟩ ml_X11_90 rfl (by decide) (fun v hv => by simp only [List.mem_cons, List.not_mem_nil, or_false] at hv; rcases hv with rfl | rfl | rfl <;> first | exact pv_1i | exact pv_1r) (Nat.le_of_ble_eq_true rfl) (fun _ h => h) dX11_arrange_40 (rx_isIn_t RK hc) (fun r M' hq _ => ?_)
            obtain ⟨_, rfl, _, rfl, rfl, rfl⟩ := hq
            show go_W mt_X11_arrange fr_R 43 [some (pv_r m), some (pv_i x1), some (pv_i x2), some (pv_i x3), none] [pv_i (1 : Int32)] (mm_si B I) (qi_ (fun x M' => ∃ I', M' = mm_si B I' ∧ P x I'))
            refine go_if_ne (tgt := 53) dX11_arrange_43 (by decide) (fun _ => ?_) (fun hc => absurd hc (by decide))
            refine go_aload_n dX11_arrange_53 rfl ?_
            refine go_getRe (k := 0) ⟨by decide, rfl, by decide, Or.inr ⟨_, rfl⟩⟩ RK.1 (rf_r1 RK) fl_X11_7 dX11_arrange_54 ?_
            refine go_iload_n dX11_arrange_57 rfl ?_
            obtain ⟨n5, ⟨hn5, hn5b⟩, H⟩ := H
            refine go_St (av := [pv_i x1]) (st := [pv_r (m + 1)]) ok_X11_at ⟨by decide, by decide⟩ ml_X11_80 rfl (by decide) (fun v hv => by simp only [List.mem_cons, List.not_mem_nil, or_false] at hv; rcases hv with rfl <;> first | exact pv_1i | exact pv_1r) (Nat.le_of_ble_eq_true rfl) (fun _ h => h) dX11_arrange_58 (rx_at RK hn5) (fun r M' hq _ => ?_)
            obtain ⟨_, rfl, _, rfl, rfl, rfl⟩ := hq
            show go_W mt_X11_arrange fr_R 61 [some (pv_r m), some (pv_i x1), some (pv_i x2), some (pv_i x3), none] [pv_i (nI (10 + 10 * n5)), pv_r (m + 1)] (mm_si B I) (qi_ (fun x M' => ∃ I', M' = mm_si B I' ∧ P x I'))
            refine go_iload_n dX11_arrange_61 rfl ?_
            refine go_iadd dX11_arrange_62 ?_
            obtain ⟨n6, ⟨hn6, hn6b⟩, H⟩ := H
            refine go_ialdN (j := n6) ⟨by decide, by decide, by decide⟩ (rf_k1 RK) hn6 hn6b dX11_arrange_63 ?_
            refine go_istore (by decide) dX11_arrange_64 ?_
            show go_W mt_X11_arrange fr_R 66 [some (pv_r m), some (pv_i x1), some (pv_i x2), some (pv_i x3), some (pv_i (I (m + 1) n6))] [] (mm_si B I) (qi_ (fun x M' => ∃ I', M' = mm_si B I' ∧ P x I'))
            refine go_aload_n dX11_arrange_66 rfl ?_
            refine go_getRe (k := 0) ⟨by decide, rfl, by decide, Or.inr ⟨_, rfl⟩⟩ RK.1 (rf_r1 RK) fl_X11_7 dX11_arrange_67 ?_
            refine go_iload_n dX11_arrange_70 rfl ?_
            refine go_St (av := [pv_i x1]) (st := [pv_r (m + 1)]) ok_X11_at ⟨by decide, by decide⟩ ml_X11_80 rfl (by decide) (fun v hv => by simp only [List.mem_cons, List.not_mem_nil, or_false] at hv; rcases hv with rfl <;> first | exact pv_1i | exact pv_1r) (Nat.le_of_ble_eq_true rfl) (fun _ h => h) dX11_arrange_71 (rx_at RK hn5) (fun r M' hq _ => ?_)
            obtain ⟨_, rfl, _, rfl, rfl, rfl⟩ := hq
            show go_W mt_X11_arrange fr_R 74 [some (pv_r m), some (pv_i x1), some (pv_i x2), some (pv_i x3), some (pv_i (I (m + 1) n6))] [pv_i (nI (10 + 10 * n5)), pv_r (m + 1)] (mm_si B I) (qi_ (fun x M' => ∃ I', M' = mm_si B I' ∧ P x I'))
            refine go_iload_n dX11_arrange_74 rfl ?_
            refine go_iadd dX11_arrange_75 ?_
            refine go_iload_n dX11_arrange_76 rfl ?_
            refine go_iastN (j := n6) ⟨by decide, by decide, by decide⟩ (rf_k1 RK) rfl hn6 (by omega) dX11_arrange_77 ?_
            show go_W mt_X11_arrange fr_R 78 [some (pv_r m), some (pv_i x1), some (pv_i x2), some (pv_i x3), some (pv_i (I (m + 1) n6))] [] (mm_si B (i2_u I (m + 1) n6 x3)) (qi_ (fun x M' => ∃ I', M' = mm_si B I' ∧ P x I'))
            obtain ⟨I7, hI7⟩ : ∃ I', I' = i2_u I (m + 1) n6 x3 := ⟨_, rfl⟩
            rw [← hI7]
            replace H := H I7 hI7
            refine go_iload dX11_arrange_78 rfl ?_
            exact go_iret rfl rfl dX11_arrange_80 ⟨_, rfl, _, rfl, H⟩
          · replace H := H.2 hc
            refine go_St (av := [pv_i x3, pv_i (1 : Int32), pv_i (32 : Int32)]) (st := []) ok_X11_isIn ⟨by decide, by decide⟩ ml_X11_90 rfl (by decide) (fun v hv => by simp only [List.mem_cons, List.not_mem_nil, or_false] at hv; rcases hv with rfl | rfl | rfl <;> first | exact pv_1i | exact pv_1r) (Nat.le_of_ble_eq_true rfl) (fun _ h => h) dX11_arrange_40 (rx_isIn_f RK hc) (fun r M' hq _ => ?_)
            obtain ⟨_, rfl, _, rfl, rfl, rfl⟩ := hq
            show go_W mt_X11_arrange fr_R 43 [some (pv_r m), some (pv_i x1), some (pv_i x2), some (pv_i x3), none] [pv_i (0 : Int32)] (mm_si B I) (qi_ (fun x M' => ∃ I', M' = mm_si B I' ∧ P x I'))
            refine go_if_ne (tgt := 53) dX11_arrange_43 (by decide) (fun hc => absurd hc (by decide)) (fun _ => ?_)
            refine go_aload_n dX11_arrange_46 rfl ?_
            refine go_bipush (v := (-2 : Int32)) rfl dX11_arrange_47 ?_
            obtain ⟨h8, H⟩ := H
            refine go_V (av := [pv_i (-2 : Int32)]) (st := []) (ci := 11) ok_X11_refuses ⟨by decide, by decide⟩ ml_X11_199 rfl (by decide) (fun v hv => by simp only [List.mem_cons, List.not_mem_nil, or_false] at hv; rcases hv with rfl <;> first | exact pv_1i | exact pv_1r) (Nat.le_of_ble_eq_true rfl) (fun _ h => h) (by decide) rfl RK.1 dX11_arrange_49 (rx_refuses RK h8) (fun r M' hq _ => ?_)
            obtain ⟨_, rfl, _, rfl, rfl, rfl⟩ := hq
            show go_W mt_X11_arrange fr_R 52 [some (pv_r m), some (pv_i x1), some (pv_i x2), some (pv_i x3), none] [pv_i (-2 : Int32)] (mm_si B (i2_u I m 7 (I m 7 + 1))) (qi_ (fun x M' => ∃ I', M' = mm_si B I' ∧ P x I'))
            obtain ⟨I8, hI8⟩ : ∃ I', I' = i2_u I m 7 (I m 7 + 1) := ⟨_, rfl⟩
            rw [← hI8]
            replace H := H I8 hI8
            exact go_iret rfl rfl dX11_arrange_52 ⟨_, rfl, _, rfl, H⟩
      · replace H := H.2 hc
        refine go_bipush (v := (9 : Int32)) rfl dX11_arrange_23 ?_
        refine go_goto (tgt := 40) dX11_arrange_25 (by decide) ?_
        by_cases hc : ((1 : Int32) ≤ x3 ∧ x3 ≤ (9 : Int32))
        · replace H := H.1 hc
          refine go_St (av := [pv_i x3, pv_i (1 : Int32), pv_i (9 : Int32)]) (st := []) ok_X11_isIn ⟨by decide, by decide⟩ ml_X11_90 rfl (by decide) (fun v hv => by simp only [List.mem_cons, List.not_mem_nil, or_false] at hv; rcases hv with rfl | rfl | rfl <;> first | exact pv_1i | exact pv_1r) (Nat.le_of_ble_eq_true rfl) (fun _ h => h) dX11_arrange_40 (rx_isIn_t RK hc) (fun r M' hq _ => ?_)
          obtain ⟨_, rfl, _, rfl, rfl, rfl⟩ := hq
          show go_W mt_X11_arrange fr_R 43 [some (pv_r m), some (pv_i x1), some (pv_i x2), some (pv_i x3), none] [pv_i (1 : Int32)] (mm_si B I) (qi_ (fun x M' => ∃ I', M' = mm_si B I' ∧ P x I'))
          refine go_if_ne (tgt := 53) dX11_arrange_43 (by decide) (fun _ => ?_) (fun hc => absurd hc (by decide))
          refine go_aload_n dX11_arrange_53 rfl ?_
          refine go_getRe (k := 0) ⟨by decide, rfl, by decide, Or.inr ⟨_, rfl⟩⟩ RK.1 (rf_r1 RK) fl_X11_7 dX11_arrange_54 ?_
          refine go_iload_n dX11_arrange_57 rfl ?_
          obtain ⟨n9, ⟨hn9, hn9b⟩, H⟩ := H
          refine go_St (av := [pv_i x1]) (st := [pv_r (m + 1)]) ok_X11_at ⟨by decide, by decide⟩ ml_X11_80 rfl (by decide) (fun v hv => by simp only [List.mem_cons, List.not_mem_nil, or_false] at hv; rcases hv with rfl <;> first | exact pv_1i | exact pv_1r) (Nat.le_of_ble_eq_true rfl) (fun _ h => h) dX11_arrange_58 (rx_at RK hn9) (fun r M' hq _ => ?_)
          obtain ⟨_, rfl, _, rfl, rfl, rfl⟩ := hq
          show go_W mt_X11_arrange fr_R 61 [some (pv_r m), some (pv_i x1), some (pv_i x2), some (pv_i x3), none] [pv_i (nI (10 + 10 * n9)), pv_r (m + 1)] (mm_si B I) (qi_ (fun x M' => ∃ I', M' = mm_si B I' ∧ P x I'))
          refine go_iload_n dX11_arrange_61 rfl ?_
          refine go_iadd dX11_arrange_62 ?_
          obtain ⟨n10, ⟨hn10, hn10b⟩, H⟩ := H
          refine go_ialdN (j := n10) ⟨by decide, by decide, by decide⟩ (rf_k1 RK) hn10 hn10b dX11_arrange_63 ?_
          refine go_istore (by decide) dX11_arrange_64 ?_
          show go_W mt_X11_arrange fr_R 66 [some (pv_r m), some (pv_i x1), some (pv_i x2), some (pv_i x3), some (pv_i (I (m + 1) n10))] [] (mm_si B I) (qi_ (fun x M' => ∃ I', M' = mm_si B I' ∧ P x I'))
          refine go_aload_n dX11_arrange_66 rfl ?_
          refine go_getRe (k := 0) ⟨by decide, rfl, by decide, Or.inr ⟨_, rfl⟩⟩ RK.1 (rf_r1 RK) fl_X11_7 dX11_arrange_67 ?_
          refine go_iload_n dX11_arrange_70 rfl ?_
          refine go_St (av := [pv_i x1]) (st := [pv_r (m + 1)]) ok_X11_at ⟨by decide, by decide⟩ ml_X11_80 rfl (by decide) (fun v hv => by simp only [List.mem_cons, List.not_mem_nil, or_false] at hv; rcases hv with rfl <;> first | exact pv_1i | exact pv_1r) (Nat.le_of_ble_eq_true rfl) (fun _ h => h) dX11_arrange_71 (rx_at RK hn9) (fun r M' hq _ => ?_)
          obtain ⟨_, rfl, _, rfl, rfl, rfl⟩ := hq
          show go_W mt_X11_arrange fr_R 74 [some (pv_r m), some (pv_i x1), some (pv_i x2), some (pv_i x3), some (pv_i (I (m + 1) n10))] [pv_i (nI (10 + 10 * n9)), pv_r (m + 1)] (mm_si B I) (qi_ (fun x M' => ∃ I', M' = mm_si B I' ∧ P x I'))
          refine go_iload_n dX11_arrange_74 rfl ?_
          refine go_iadd dX11_arrange_75 ?_
          refine go_iload_n dX11_arrange_76 rfl ?_
          refine go_iastN (j := n10) ⟨by decide, by decide, by decide⟩ (rf_k1 RK) rfl hn10 (by omega) dX11_arrange_77 ?_
          show go_W mt_X11_arrange fr_R 78 [some (pv_r m), some (pv_i x1), some (pv_i x2), some (pv_i x3), some (pv_i (I (m + 1) n10))] [] (mm_si B (i2_u I (m + 1) n10 x3)) (qi_ (fun x M' => ∃ I', M' = mm_si B I' ∧ P x I'))
          obtain ⟨I11, hI11⟩ : ∃ I', I' = i2_u I (m + 1) n10 x3 := ⟨_, rfl⟩
          rw [← hI11]
          replace H := H I11 hI11
          refine go_iload dX11_arrange_78 rfl ?_
          exact go_iret rfl rfl dX11_arrange_80 ⟨_, rfl, _, rfl, H⟩
        · replace H := H.2 hc
          refine go_St (av := [pv_i x3, pv_i (1 : Int32), pv_i (9 : Int32)]) (st := []) ok_X11_isIn ⟨by decide, by decide⟩ ml_X11_90 rfl (by decide) (fun v hv => by simp only [List.mem_cons, List.not_mem_nil, or_false] at hv; rcases hv with rfl | rfl | rfl <;> first | exact pv_1i | exact pv_1r) (Nat.le_of_ble_eq_true rfl) (fun _ h => h) dX11_arrange_40 (rx_isIn_f RK hc) (fun r M' hq _ => ?_)
          obtain ⟨_, rfl, _, rfl, rfl, rfl⟩ := hq
          show go_W mt_X11_arrange fr_R 43 [some (pv_r m), some (pv_i x1), some (pv_i x2), some (pv_i x3), none] [pv_i (0 : Int32)] (mm_si B I) (qi_ (fun x M' => ∃ I', M' = mm_si B I' ∧ P x I'))
          refine go_if_ne (tgt := 53) dX11_arrange_43 (by decide) (fun hc => absurd hc (by decide)) (fun _ => ?_)
          refine go_aload_n dX11_arrange_46 rfl ?_
          refine go_bipush (v := (-2 : Int32)) rfl dX11_arrange_47 ?_
          obtain ⟨h8, H⟩ := H
          refine go_V (av := [pv_i (-2 : Int32)]) (st := []) (ci := 11) ok_X11_refuses ⟨by decide, by decide⟩ ml_X11_199 rfl (by decide) (fun v hv => by simp only [List.mem_cons, List.not_mem_nil, or_false] at hv; rcases hv with rfl <;> first | exact pv_1i | exact pv_1r) (Nat.le_of_ble_eq_true rfl) (fun _ h => h) (by decide) rfl RK.1 dX11_arrange_49 (rx_refuses RK h8) (fun r M' hq _ => ?_)
          obtain ⟨_, rfl, _, rfl, rfl, rfl⟩ := hq
          show go_W mt_X11_arrange fr_R 52 [some (pv_r m), some (pv_i x1), some (pv_i x2), some (pv_i x3), none] [pv_i (-2 : Int32)] (mm_si B (i2_u I m 7 (I m 7 + 1))) (qi_ (fun x M' => ∃ I', M' = mm_si B I' ∧ P x I'))
          obtain ⟨I12, hI12⟩ : ∃ I', I' = i2_u I m 7 (I m 7 + 1) := ⟨_, rfl⟩
          rw [← hI12]
          replace H := H I12 hI12
          exact go_iret rfl rfl dX11_arrange_52 ⟨_, rfl, _, rfl, H⟩
    · replace H := H.2 hc
      refine go_St (av := [pv_i x2, pv_i (0 : Int32), pv_i (2 : Int32)]) (st := []) ok_X11_isIn ⟨by decide, by decide⟩ ml_X11_90 rfl (by decide) (fun v hv => by simp only [List.mem_cons, List.not_mem_nil, or_false] at hv; rcases hv with rfl | rfl | rfl <;> first | exact pv_1i | exact pv_1r) (Nat.le_of_ble_eq_true rfl) (fun _ h => h) dX11_arrange_11 (rx_isIn_f RK hc) (fun r M' hq _ => ?_)
      obtain ⟨_, rfl, _, rfl, rfl, rfl⟩ := hq
      show go_W mt_X11_arrange fr_R 14 [some (pv_r m), some (pv_i x1), some (pv_i x2), some (pv_i x3), none] [pv_i (0 : Int32)] (mm_si B I) (qi_ (fun x M' => ∃ I', M' = mm_si B I' ∧ P x I'))
      refine go_if_eq (tgt := 46) dX11_arrange_14 (by decide) (fun _ => ?_) (fun hc => absurd hc (by decide))
      refine go_aload_n dX11_arrange_46 rfl ?_
      refine go_bipush (v := (-2 : Int32)) rfl dX11_arrange_47 ?_
      obtain ⟨h8, H⟩ := H
      refine go_V (av := [pv_i (-2 : Int32)]) (st := []) (ci := 11) ok_X11_refuses ⟨by decide, by decide⟩ ml_X11_199 rfl (by decide) (fun v hv => by simp only [List.mem_cons, List.not_mem_nil, or_false] at hv; rcases hv with rfl <;> first | exact pv_1i | exact pv_1r) (Nat.le_of_ble_eq_true rfl) (fun _ h => h) (by decide) rfl RK.1 dX11_arrange_49 (rx_refuses RK h8) (fun r M' hq _ => ?_)
      obtain ⟨_, rfl, _, rfl, rfl, rfl⟩ := hq
      show go_W mt_X11_arrange fr_R 52 [some (pv_r m), some (pv_i x1), some (pv_i x2), some (pv_i x3), none] [pv_i (-2 : Int32)] (mm_si B (i2_u I m 7 (I m 7 + 1))) (qi_ (fun x M' => ∃ I', M' = mm_si B I' ∧ P x I'))
      obtain ⟨I13, hI13⟩ : ∃ I', I' = i2_u I m 7 (I m 7 + 1) := ⟨_, rfl⟩
      rw [← hI13]
      replace H := H I13 hI13
      exact go_iret rfl rfl dX11_arrange_52 ⟨_, rfl, _, rfl, H⟩
  · replace H := H.2 hc
    refine go_V (av := [pv_i x1]) (st := []) (ci := 11) ok_X11_isLane ⟨by decide, by decide⟩ ml_X11_152 rfl (by decide) (fun v hv => by simp only [List.mem_cons, List.not_mem_nil, or_false] at hv; rcases hv with rfl <;> first | exact pv_1i | exact pv_1r) (Nat.le_of_ble_eq_true rfl) (fun _ h => h) (by decide) rfl RK.1 dX11_arrange_2 (rx_isLane_f RK hc) (fun r M' hq _ => ?_)
    obtain ⟨_, rfl, _, rfl, rfl, rfl⟩ := hq
    show go_W mt_X11_arrange fr_R 5 [some (pv_r m), some (pv_i x1), some (pv_i x2), some (pv_i x3), none] [pv_i (0 : Int32)] (mm_si B I) (qi_ (fun x M' => ∃ I', M' = mm_si B I' ∧ P x I'))
    refine go_if_eq (tgt := 46) dX11_arrange_5 (by decide) (fun _ => ?_) (fun hc => absurd hc (by decide))
    refine go_aload_n dX11_arrange_46 rfl ?_
    refine go_bipush (v := (-2 : Int32)) rfl dX11_arrange_47 ?_
    obtain ⟨h8, H⟩ := H
    refine go_V (av := [pv_i (-2 : Int32)]) (st := []) (ci := 11) ok_X11_refuses ⟨by decide, by decide⟩ ml_X11_199 rfl (by decide) (fun v hv => by simp only [List.mem_cons, List.not_mem_nil, or_false] at hv; rcases hv with rfl <;> first | exact pv_1i | exact pv_1r) (Nat.le_of_ble_eq_true rfl) (fun _ h => h) (by decide) rfl RK.1 dX11_arrange_49 (rx_refuses RK h8) (fun r M' hq _ => ?_)
    obtain ⟨_, rfl, _, rfl, rfl, rfl⟩ := hq
    show go_W mt_X11_arrange fr_R 52 [some (pv_r m), some (pv_i x1), some (pv_i x2), some (pv_i x3), none] [pv_i (-2 : Int32)] (mm_si B (i2_u I m 7 (I m 7 + 1))) (qi_ (fun x M' => ∃ I', M' = mm_si B I' ∧ P x I'))
    obtain ⟨I14, hI14⟩ : ∃ I', I' = i2_u I m 7 (I m 7 + 1) := ⟨_, rfl⟩
    rw [← hI14]
    replace H := H I14 hI14
    exact go_iret rfl rfl dX11_arrange_52 ⟨_, rfl, _, rfl, H⟩
set_option maxRecDepth 20000 in
theorem wq_X11_mostOf_0 {B : mm_T} {I : Nat → Nat → Int32} {m : Nat} (RK : rf_ok B m) {x0 : Int32} {P : Int32 → (Nat → Nat → Int32) → Prop} (H : ((((2 : Int32) ≤ x0) → (((¬ x0 = (2 : Int32)) → (((¬ x0 = (4 : Int32)) → P (9 : Int32) I) ∧ ((x0 = (4 : Int32)) → P (48 : Int32) I))) ∧ ((x0 = (2 : Int32)) → P (20 : Int32) I))) ∧ ((¬ (2 : Int32) ≤ x0) → P (99 : Int32) I))) : rw_i mt_X11_mostOf 0 [some (pv_i x0)] [] B I P := by
  refine go_iload_n dX11_mostOf_0 rfl ?_
  refine go_iconst (v := (2 : Int32)) rfl dX11_mostOf_1 ?_
  refine go_icmp_ge (tgt := 10) dX11_mostOf_2 (by decide) (fun hc => ?_) (fun hc => ?_)
  · replace H := H.1 hc
    refine go_iload_n dX11_mostOf_10 rfl ?_
    refine go_iconst (v := (2 : Int32)) rfl dX11_mostOf_11 ?_
    refine go_icmp_ne (tgt := 20) dX11_mostOf_12 (by decide) (fun hc => ?_) (fun hc => ?_)
    · replace H := H.1 hc
      refine go_iload_n dX11_mostOf_20 rfl ?_
      refine go_iconst (v := (4 : Int32)) rfl dX11_mostOf_21 ?_
      refine go_icmp_ne (tgt := 30) dX11_mostOf_22 (by decide) (fun hc => ?_) (fun hc => ?_)
      · replace H := H.1 hc
        refine go_bipush (v := (9 : Int32)) rfl dX11_mostOf_30 ?_
        exact go_iret rfl rfl dX11_mostOf_32 ⟨_, rfl, _, rfl, H⟩
      · replace H := H.2 hc
        refine go_bipush (v := (48 : Int32)) rfl dX11_mostOf_25 ?_
        refine go_goto (tgt := 32) dX11_mostOf_27 (by decide) ?_
        exact go_iret rfl rfl dX11_mostOf_32 ⟨_, rfl, _, rfl, H⟩
    · replace H := H.2 hc
      refine go_bipush (v := (20 : Int32)) rfl dX11_mostOf_15 ?_
      refine go_goto (tgt := 32) dX11_mostOf_17 (by decide) ?_
      exact go_iret rfl rfl dX11_mostOf_32 ⟨_, rfl, _, rfl, H⟩
  · replace H := H.2 hc
    refine go_bipush (v := (99 : Int32)) rfl dX11_mostOf_5 ?_
    refine go_goto (tgt := 32) dX11_mostOf_7 (by decide) ?_
    exact go_iret rfl rfl dX11_mostOf_32 ⟨_, rfl, _, rfl, H⟩
set_option maxRecDepth 20000 in
theorem wq_X11_rule_0 {B : mm_T} {I : Nat → Nat → Int32} {m : Nat} (RK : rf_ok B m) {x1 x2 : Int32} {P : Int32 → (Nat → Nat → Int32) → Prop} (H : (((((0 : Int32) ≤ x1 ∧ x1 ≤ (5 : Int32))) → rs_i mt_X11_mostOf [pv_i x1] B I (fun v2 I1 => (((((1 : Int32) ≤ x2 ∧ x2 ≤ v2)) → ∃ n3, (((4 : Int32) + x1) = nI n3 ∧ n3 < 6200) ∧ (∀ I4, I4 = i2_u I1 (m + 1) n3 x2 → P (I1 (m + 1) n3) I4)) ∧ ((¬ ((1 : Int32) ≤ x2 ∧ x2 ≤ v2)) → (I1 m 8 = 0) ∧ (∀ I5, I5 = i2_u I1 m 7 (I1 m 7 + 1) → P (-2 : Int32) I5))))) ∧ ((¬ ((0 : Int32) ≤ x1 ∧ x1 ≤ (5 : Int32))) → (I m 8 = 0) ∧ (∀ I6, I6 = i2_u I m 7 (I m 7 + 1) → P (-2 : Int32) I6)))) : rw_i mt_X11_rule 0 [some (pv_r m), some (pv_i x1), some (pv_i x2), none] [] B I P := by
  refine go_iload_n dX11_rule_0 rfl ?_
  refine go_iconst (v := (0 : Int32)) rfl dX11_rule_1 ?_
  refine go_iconst (v := (5 : Int32)) rfl dX11_rule_2 ?_
  by_cases hc : ((0 : Int32) ≤ x1 ∧ x1 ≤ (5 : Int32))
  · replace H := H.1 hc
    refine go_St (av := [pv_i x1, pv_i (0 : Int32), pv_i (5 : Int32)]) (st := []) ok_X11_isIn ⟨by decide, by decide⟩ ml_X11_90 rfl (by decide) (fun v hv => by simp only [List.mem_cons, List.not_mem_nil, or_false] at hv; rcases hv with rfl | rfl | rfl <;> first | exact pv_1i | exact pv_1r) (Nat.le_of_ble_eq_true rfl) (fun _ h => h) dX11_rule_3 (rx_isIn_t RK hc) (fun r M' hq _ => ?_)
    obtain ⟨_, rfl, _, rfl, rfl, rfl⟩ := hq
    show go_W mt_X11_rule fr_R 6 [some (pv_r m), some (pv_i x1), some (pv_i x2), none] [pv_i (1 : Int32)] (mm_si B I) (qi_ (fun x M' => ∃ I', M' = mm_si B I' ∧ P x I'))
    refine go_if_eq (tgt := 21) dX11_rule_6 (by decide) (fun hc => absurd hc (by decide)) (fun _ => ?_)
    refine go_iload_n dX11_rule_9 rfl ?_
    refine go_iconst (v := (1 : Int32)) rfl dX11_rule_10 ?_
    refine go_iload_n dX11_rule_11 rfl ?_
    refine go_St (av := [pv_i x1]) (st := [pv_i (1 : Int32), pv_i x2]) ok_X11_mostOf ⟨by decide, by decide⟩ ml_X11_242 rfl (by decide) (fun v hv => by simp only [List.mem_cons, List.not_mem_nil, or_false] at hv; rcases hv with rfl <;> first | exact pv_1i | exact pv_1r) (Nat.le_of_ble_eq_true rfl) (fun _ h => h) dX11_rule_12 H (fun r M' hq _ => ?_)
    obtain ⟨v2, rfl, I1, rfl, H⟩ := hq
    show go_W mt_X11_rule fr_R 15 [some (pv_r m), some (pv_i x1), some (pv_i x2), none] [pv_i v2, pv_i (1 : Int32), pv_i x2] (mm_si B I1) (qi_ (fun x M' => ∃ I', M' = mm_si B I' ∧ P x I'))
    by_cases hc : ((1 : Int32) ≤ x2 ∧ x2 ≤ v2)
    · replace H := H.1 hc
      refine go_St (av := [pv_i x2, pv_i (1 : Int32), pv_i v2]) (st := []) ok_X11_isIn ⟨by decide, by decide⟩ ml_X11_90 rfl (by decide) (fun v hv => by simp only [List.mem_cons, List.not_mem_nil, or_false] at hv; rcases hv with rfl | rfl | rfl <;> first | exact pv_1i | exact pv_1r) (Nat.le_of_ble_eq_true rfl) (fun _ h => h) dX11_rule_15 (rx_isIn_t RK hc) (fun r M' hq _ => ?_)
      obtain ⟨_, rfl, _, rfl, rfl, rfl⟩ := hq
      show go_W mt_X11_rule fr_R 18 [some (pv_r m), some (pv_i x1), some (pv_i x2), none] [pv_i (1 : Int32)] (mm_si B I1) (qi_ (fun x M' => ∃ I', M' = mm_si B I' ∧ P x I'))
      refine go_if_ne (tgt := 28) dX11_rule_18 (by decide) (fun _ => ?_) (fun hc => absurd hc (by decide))
      refine go_aload_n dX11_rule_28 rfl ?_
      refine go_getRe (k := 0) ⟨by decide, rfl, by decide, Or.inr ⟨_, rfl⟩⟩ RK.1 (rf_r1 RK) fl_X11_7 dX11_rule_29 ?_
      refine go_iconst (v := (4 : Int32)) rfl dX11_rule_32 ?_
      refine go_iload_n dX11_rule_33 rfl ?_
      refine go_iadd dX11_rule_34 ?_
      obtain ⟨n3, ⟨hn3, hn3b⟩, H⟩ := H
      refine go_ialdN (j := n3) ⟨by decide, by decide, by decide⟩ (rf_k1 RK) hn3 hn3b dX11_rule_35 ?_
      refine go_istore_n (by decide) dX11_rule_36 ?_
      show go_W mt_X11_rule fr_R 37 [some (pv_r m), some (pv_i x1), some (pv_i x2), some (pv_i (I1 (m + 1) n3))] [] (mm_si B I1) (qi_ (fun x M' => ∃ I', M' = mm_si B I' ∧ P x I'))
      refine go_aload_n dX11_rule_37 rfl ?_
      refine go_getRe (k := 0) ⟨by decide, rfl, by decide, Or.inr ⟨_, rfl⟩⟩ RK.1 (rf_r1 RK) fl_X11_7 dX11_rule_38 ?_
      refine go_iconst (v := (4 : Int32)) rfl dX11_rule_41 ?_
      refine go_iload_n dX11_rule_42 rfl ?_
      refine go_iadd dX11_rule_43 ?_
      refine go_iload_n dX11_rule_44 rfl ?_
      refine go_iastN (j := n3) ⟨by decide, by decide, by decide⟩ (rf_k1 RK) rfl hn3 (by omega) dX11_rule_45 ?_
      show go_W mt_X11_rule fr_R 46 [some (pv_r m), some (pv_i x1), some (pv_i x2), some (pv_i (I1 (m + 1) n3))] [] (mm_si B (i2_u I1 (m + 1) n3 x2)) (qi_ (fun x M' => ∃ I', M' = mm_si B I' ∧ P x I'))
      obtain ⟨I4, hI4⟩ : ∃ I', I' = i2_u I1 (m + 1) n3 x2 := ⟨_, rfl⟩
      rw [← hI4]
      replace H := H I4 hI4
      refine go_iload_n dX11_rule_46 rfl ?_
      exact go_iret rfl rfl dX11_rule_47 ⟨_, rfl, _, rfl, H⟩
    · replace H := H.2 hc
      refine go_St (av := [pv_i x2, pv_i (1 : Int32), pv_i v2]) (st := []) ok_X11_isIn ⟨by decide, by decide⟩ ml_X11_90 rfl (by decide) (fun v hv => by simp only [List.mem_cons, List.not_mem_nil, or_false] at hv; rcases hv with rfl | rfl | rfl <;> first | exact pv_1i | exact pv_1r) (Nat.le_of_ble_eq_true rfl) (fun _ h => h) dX11_rule_15 (rx_isIn_f RK hc) (fun r M' hq _ => ?_)
      obtain ⟨_, rfl, _, rfl, rfl, rfl⟩ := hq
      show go_W mt_X11_rule fr_R 18 [some (pv_r m), some (pv_i x1), some (pv_i x2), none] [pv_i (0 : Int32)] (mm_si B I1) (qi_ (fun x M' => ∃ I', M' = mm_si B I' ∧ P x I'))
      refine go_if_ne (tgt := 28) dX11_rule_18 (by decide) (fun hc => absurd hc (by decide)) (fun _ => ?_)
      refine go_aload_n dX11_rule_21 rfl ?_
      refine go_bipush (v := (-2 : Int32)) rfl dX11_rule_22 ?_
      obtain ⟨h8, H⟩ := H
      refine go_V (av := [pv_i (-2 : Int32)]) (st := []) (ci := 11) ok_X11_refuses ⟨by decide, by decide⟩ ml_X11_199 rfl (by decide) (fun v hv => by simp only [List.mem_cons, List.not_mem_nil, or_false] at hv; rcases hv with rfl <;> first | exact pv_1i | exact pv_1r) (Nat.le_of_ble_eq_true rfl) (fun _ h => h) (by decide) rfl RK.1 dX11_rule_24 (rx_refuses RK h8) (fun r M' hq _ => ?_)
      obtain ⟨_, rfl, _, rfl, rfl, rfl⟩ := hq
      show go_W mt_X11_rule fr_R 27 [some (pv_r m), some (pv_i x1), some (pv_i x2), none] [pv_i (-2 : Int32)] (mm_si B (i2_u I1 m 7 (I1 m 7 + 1))) (qi_ (fun x M' => ∃ I', M' = mm_si B I' ∧ P x I'))
      obtain ⟨I5, hI5⟩ : ∃ I', I' = i2_u I1 m 7 (I1 m 7 + 1) := ⟨_, rfl⟩
      rw [← hI5]
      replace H := H I5 hI5
      exact go_iret rfl rfl dX11_rule_27 ⟨_, rfl, _, rfl, H⟩
  · replace H := H.2 hc
    refine go_St (av := [pv_i x1, pv_i (0 : Int32), pv_i (5 : Int32)]) (st := []) ok_X11_isIn ⟨by decide, by decide⟩ ml_X11_90 rfl (by decide) (fun v hv => by simp only [List.mem_cons, List.not_mem_nil, or_false] at hv; rcases hv with rfl | rfl | rfl <;> first | exact pv_1i | exact pv_1r) (Nat.le_of_ble_eq_true rfl) (fun _ h => h) dX11_rule_3 (rx_isIn_f RK hc) (fun r M' hq _ => ?_)
    obtain ⟨_, rfl, _, rfl, rfl, rfl⟩ := hq
    show go_W mt_X11_rule fr_R 6 [some (pv_r m), some (pv_i x1), some (pv_i x2), none] [pv_i (0 : Int32)] (mm_si B I) (qi_ (fun x M' => ∃ I', M' = mm_si B I' ∧ P x I'))
    refine go_if_eq (tgt := 21) dX11_rule_6 (by decide) (fun _ => ?_) (fun hc => absurd hc (by decide))
    refine go_aload_n dX11_rule_21 rfl ?_
    refine go_bipush (v := (-2 : Int32)) rfl dX11_rule_22 ?_
    obtain ⟨h8, H⟩ := H
    refine go_V (av := [pv_i (-2 : Int32)]) (st := []) (ci := 11) ok_X11_refuses ⟨by decide, by decide⟩ ml_X11_199 rfl (by decide) (fun v hv => by simp only [List.mem_cons, List.not_mem_nil, or_false] at hv; rcases hv with rfl <;> first | exact pv_1i | exact pv_1r) (Nat.le_of_ble_eq_true rfl) (fun _ h => h) (by decide) rfl RK.1 dX11_rule_24 (rx_refuses RK h8) (fun r M' hq _ => ?_)
    obtain ⟨_, rfl, _, rfl, rfl, rfl⟩ := hq
    show go_W mt_X11_rule fr_R 27 [some (pv_r m), some (pv_i x1), some (pv_i x2), none] [pv_i (-2 : Int32)] (mm_si B (i2_u I m 7 (I m 7 + 1))) (qi_ (fun x M' => ∃ I', M' = mm_si B I' ∧ P x I'))
    obtain ⟨I6, hI6⟩ : ∃ I', I' = i2_u I m 7 (I m 7 + 1) := ⟨_, rfl⟩
    rw [← hI6]
    replace H := H I6 hI6
    exact go_iret rfl rfl dX11_rule_27 ⟨_, rfl, _, rfl, H⟩
set_option maxRecDepth 20000 in
theorem wq_X11_pardon_0 {B : mm_T} {I : Nat → Nat → Int32} {m : Nat} (RK : rf_ok B m) {x1 : Int32} {P : Int32 → (Nat → Nat → Int32) → Prop} (H : ((((0 ≤ x1 ∧ x1 ≤ 9999)) → ∃ n1, (x1 = nI n1 ∧ n1 < 10000) ∧ ((((¬ I (m + 3) n1 = 0) → ∀ I2, I2 = i2_u I (m + 3) n1 (0 : Int32) → P (I (m + 3) n1) I2) ∧ ((I (m + 3) n1 = 0) → (I m 8 = 0) ∧ (∀ I3, I3 = i2_u I m 7 (I m 7 + 1) → P (-3 : Int32) I3))))) ∧ ((¬ (0 ≤ x1 ∧ x1 ≤ 9999)) → (I m 8 = 0) ∧ (∀ I4, I4 = i2_u I m 7 (I m 7 + 1) → P (-2 : Int32) I4)))) : rw_i mt_X11_pardon 0 [some (pv_r m), some (pv_i x1), none] [] B I P := by
  refine go_iload_n dX11_pardon_0 rfl ?_
  by_cases hc : (0 ≤ x1 ∧ x1 ≤ 9999)
  · replace H := H.1 hc
    refine go_St (av := [pv_i x1]) (st := []) ok_X11_isKey ⟨by decide, by decide⟩ ml_X11_158 rfl (by decide) (fun v hv => by simp only [List.mem_cons, List.not_mem_nil, or_false] at hv; rcases hv with rfl <;> first | exact pv_1i | exact pv_1r) (Nat.le_of_ble_eq_true rfl) (fun _ h => h) dX11_pardon_1 (rx_isKey_t RK hc) (fun r M' hq _ => ?_)
    obtain ⟨_, rfl, _, rfl, rfl, rfl⟩ := hq
    show go_W mt_X11_pardon fr_R 4 [some (pv_r m), some (pv_i x1), none] [pv_i (1 : Int32)] (mm_si B I) (qi_ (fun x M' => ∃ I', M' = mm_si B I' ∧ P x I'))
    refine go_if_ne (tgt := 14) dX11_pardon_4 (by decide) (fun _ => ?_) (fun hc => absurd hc (by decide))
    refine go_aload_n dX11_pardon_14 rfl ?_
    refine go_getRe (k := 2) ⟨by decide, rfl, by decide, Or.inr ⟨_, rfl⟩⟩ RK.1 (rf_r3 RK) fl_X11_16 dX11_pardon_15 ?_
    refine go_iload_n dX11_pardon_18 rfl ?_
    obtain ⟨n1, ⟨hn1, hn1b⟩, H⟩ := H
    refine go_ialdN (j := n1) ⟨by decide, by decide, by decide⟩ (rf_k3 RK) hn1 hn1b dX11_pardon_19 ?_
    refine go_if_ne (tgt := 30) dX11_pardon_20 (by decide) (fun hc => ?_) (fun hc => ?_)
    · replace H := H.1 hc
      refine go_aload_n dX11_pardon_30 rfl ?_
      refine go_getRe (k := 2) ⟨by decide, rfl, by decide, Or.inr ⟨_, rfl⟩⟩ RK.1 (rf_r3 RK) fl_X11_16 dX11_pardon_31 ?_
      refine go_iload_n dX11_pardon_34 rfl ?_
      refine go_ialdN (j := n1) ⟨by decide, by decide, by decide⟩ (rf_k3 RK) hn1 (by omega) dX11_pardon_35 ?_
      refine go_istore_n (by decide) dX11_pardon_36 ?_
      show go_W mt_X11_pardon fr_R 37 [some (pv_r m), some (pv_i x1), some (pv_i (I (m + 3) n1))] [] (mm_si B I) (qi_ (fun x M' => ∃ I', M' = mm_si B I' ∧ P x I'))
      refine go_aload_n dX11_pardon_37 rfl ?_
      refine go_getRe (k := 2) ⟨by decide, rfl, by decide, Or.inr ⟨_, rfl⟩⟩ RK.1 (rf_r3 RK) fl_X11_16 dX11_pardon_38 ?_
      refine go_iload_n dX11_pardon_41 rfl ?_
      refine go_iconst (v := (0 : Int32)) rfl dX11_pardon_42 ?_
      refine go_iastN (j := n1) ⟨by decide, by decide, by decide⟩ (rf_k3 RK) rfl hn1 (by omega) dX11_pardon_43 ?_
      show go_W mt_X11_pardon fr_R 44 [some (pv_r m), some (pv_i x1), some (pv_i (I (m + 3) n1))] [] (mm_si B (i2_u I (m + 3) n1 (0 : Int32))) (qi_ (fun x M' => ∃ I', M' = mm_si B I' ∧ P x I'))
      obtain ⟨I2, hI2⟩ : ∃ I', I' = i2_u I (m + 3) n1 (0 : Int32) := ⟨_, rfl⟩
      rw [← hI2]
      replace H := H I2 hI2
      refine go_iload_n dX11_pardon_44 rfl ?_
      exact go_iret rfl rfl dX11_pardon_45 ⟨_, rfl, _, rfl, H⟩
    · replace H := H.2 hc
      refine go_aload_n dX11_pardon_23 rfl ?_
      refine go_bipush (v := (-3 : Int32)) rfl dX11_pardon_24 ?_
      obtain ⟨h8, H⟩ := H
      refine go_V (av := [pv_i (-3 : Int32)]) (st := []) (ci := 11) ok_X11_refuses ⟨by decide, by decide⟩ ml_X11_199 rfl (by decide) (fun v hv => by simp only [List.mem_cons, List.not_mem_nil, or_false] at hv; rcases hv with rfl <;> first | exact pv_1i | exact pv_1r) (Nat.le_of_ble_eq_true rfl) (fun _ h => h) (by decide) rfl RK.1 dX11_pardon_26 (rx_refuses RK h8) (fun r M' hq _ => ?_)
      obtain ⟨_, rfl, _, rfl, rfl, rfl⟩ := hq
      show go_W mt_X11_pardon fr_R 29 [some (pv_r m), some (pv_i x1), none] [pv_i (-3 : Int32)] (mm_si B (i2_u I m 7 (I m 7 + 1))) (qi_ (fun x M' => ∃ I', M' = mm_si B I' ∧ P x I'))
      obtain ⟨I3, hI3⟩ : ∃ I', I' = i2_u I m 7 (I m 7 + 1) := ⟨_, rfl⟩
      rw [← hI3]
      replace H := H I3 hI3
      exact go_iret rfl rfl dX11_pardon_29 ⟨_, rfl, _, rfl, H⟩
  · replace H := H.2 hc
    refine go_St (av := [pv_i x1]) (st := []) ok_X11_isKey ⟨by decide, by decide⟩ ml_X11_158 rfl (by decide) (fun v hv => by simp only [List.mem_cons, List.not_mem_nil, or_false] at hv; rcases hv with rfl <;> first | exact pv_1i | exact pv_1r) (Nat.le_of_ble_eq_true rfl) (fun _ h => h) dX11_pardon_1 (rx_isKey_f RK hc) (fun r M' hq _ => ?_)
    obtain ⟨_, rfl, _, rfl, rfl, rfl⟩ := hq
    show go_W mt_X11_pardon fr_R 4 [some (pv_r m), some (pv_i x1), none] [pv_i (0 : Int32)] (mm_si B I) (qi_ (fun x M' => ∃ I', M' = mm_si B I' ∧ P x I'))
    refine go_if_ne (tgt := 14) dX11_pardon_4 (by decide) (fun hc => absurd hc (by decide)) (fun _ => ?_)
    refine go_aload_n dX11_pardon_7 rfl ?_
    refine go_bipush (v := (-2 : Int32)) rfl dX11_pardon_8 ?_
    obtain ⟨h8, H⟩ := H
    refine go_V (av := [pv_i (-2 : Int32)]) (st := []) (ci := 11) ok_X11_refuses ⟨by decide, by decide⟩ ml_X11_199 rfl (by decide) (fun v hv => by simp only [List.mem_cons, List.not_mem_nil, or_false] at hv; rcases hv with rfl <;> first | exact pv_1i | exact pv_1r) (Nat.le_of_ble_eq_true rfl) (fun _ h => h) (by decide) rfl RK.1 dX11_pardon_10 (rx_refuses RK h8) (fun r M' hq _ => ?_)
    obtain ⟨_, rfl, _, rfl, rfl, rfl⟩ := hq
    show go_W mt_X11_pardon fr_R 13 [some (pv_r m), some (pv_i x1), none] [pv_i (-2 : Int32)] (mm_si B (i2_u I m 7 (I m 7 + 1))) (qi_ (fun x M' => ∃ I', M' = mm_si B I' ∧ P x I'))
    obtain ⟨I4, hI4⟩ : ∃ I', I' = i2_u I m 7 (I m 7 + 1) := ⟨_, rfl⟩
    rw [← hI4]
    replace H := H I4 hI4
    exact go_iret rfl rfl dX11_pardon_13 ⟨_, rfl, _, rfl, H⟩
set_option maxRecDepth 20000 in
theorem wq_X11_stepsOne_0 {B : mm_T} {I : Nat → Nat → Int32} {m : Nat} (RK : rf_ok B m)  {P : Int32 → (Nat → Nat → Int32) → Prop} (H : rs_i mt_X11_draw [pv_r m, pv_i (10 : Int32)] B I (fun v2 I1 => ((((3 : Int32) ≤ v2) → (((¬ v2 = (8 : Int32)) → (((¬ v2 = (9 : Int32)) → rs_i mt_X11_draw [pv_r m, pv_i (6 : Int32)] B I1 (fun v4 I3 => (((¬ v2 = (7 : Int32)) → ∃ n5, (v4 = nI n5 ∧ n5 < 6) ∧ (((((5 : Int32) ≤ v2) → (((¬ I3 (m + 1) (60 + 4 * n5) = (-1 : Int32)) → (((¬ v2 = (7 : Int32)) → rs_v mt_X11_isDoneNow [pv_r m, pv_i (I3 (m + 1) (60 + 4 * n5))] B I3 (fun I6 => P (1 : Int32) I6)) ∧ ((v2 = (7 : Int32)) → rs_i mt_X11_failsNow [pv_r m, pv_i (I3 (m + 1) (60 + 4 * n5)), pv_i (0 : Int32)] B I3 (fun v8 I7 => P (1 : Int32) I7)))) ∧ ((I3 (m + 1) (60 + 4 * n5) = (-1 : Int32)) → P (0 : Int32) I3))) ∧ ((¬ (5 : Int32) ≤ v2) → (((¬ I3 (m + 1) (60 + 4 * n5) = (-1 : Int32)) → P (0 : Int32) I3) ∧ ((I3 (m + 1) (60 + 4 * n5) = (-1 : Int32)) → rs_i mt_X11_takesBy [pv_r m, pv_i v4] B I3 (fun v10 I9 => (((v10 = (-1 : Int32)) → P (0 : Int32) I9) ∧ ((¬ v10 = (-1 : Int32)) → P (1 : Int32) I9))))))))) ∧ ((v2 = (7 : Int32)) → rs_i mt_X11_draw [pv_r m, pv_i (99 : Int32)] B I3 (fun v12 I11 => ∃ n13, (v4 = nI n13 ∧ n13 < 6) ∧ (((((5 : Int32) ≤ v2) → (((¬ I11 (m + 1) (60 + 4 * n13) = (-1 : Int32)) → (((¬ v2 = (7 : Int32)) → rs_v mt_X11_isDoneNow [pv_r m, pv_i (I11 (m + 1) (60 + 4 * n13))] B I11 (fun I14 => P (1 : Int32) I14)) ∧ ((v2 = (7 : Int32)) → rs_i mt_X11_failsNow [pv_r m, pv_i (I11 (m + 1) (60 + 4 * n13)), pv_i (v12 + (1 : Int32))] B I11 (fun v16 I15 => P (1 : Int32) I15)))) ∧ ((I11 (m + 1) (60 + 4 * n13) = (-1 : Int32)) → P (0 : Int32) I11))) ∧ ((¬ (5 : Int32) ≤ v2) → (((¬ I11 (m + 1) (60 + 4 * n13) = (-1 : Int32)) → P (0 : Int32) I11) ∧ ((I11 (m + 1) (60 + 4 * n13) = (-1 : Int32)) → rs_i mt_X11_takesBy [pv_r m, pv_i v4] B I11 (fun v18 I17 => (((v18 = (-1 : Int32)) → P (0 : Int32) I17) ∧ ((¬ v18 = (-1 : Int32)) → P (1 : Int32) I17))))))))))))) ∧ ((v2 = (9 : Int32)) → rs_i mt_X11_draw [pv_r m, pv_i (400 : Int32)] B I1 (fun v20 I19 => rs_i mt_X11_draw [pv_r m, pv_i (10 : Int32)] B I19 (fun v22 I21 => ((((0 ≤ v20 ∧ v20 ≤ I21 (m + 1) 1 - 1)) → ∃ n23, (v20 = nI n23 ∧ n23 < 400) ∧ (((((I21 (m + 1) (200 + 14 * n23 + 6) ≤ 2)) → (((¬ I21 (m + 1) (200 + 14 * n23 + 1) = v22) → ∀ I24, I24 = i2_u I21 (m + 1) (200 + 14 * n23 + 1) v22 → P (1 : Int32) I24) ∧ ((I21 (m + 1) (200 + 14 * n23 + 1) = v22) → P (0 : Int32) I21))) ∧ ((¬ (I21 (m + 1) (200 + 14 * n23 + 6) ≤ 2)) → P (0 : Int32) I21)))) ∧ ((¬ (0 ≤ v20 ∧ v20 ≤ I21 (m + 1) 1 - 1)) → P (0 : Int32) I21))))))) ∧ ((v2 = (8 : Int32)) → rs_v mt_X11_ticks [pv_r m] B I1 (fun I25 => P (1 : Int32) I25)))) ∧ ((¬ (3 : Int32) ≤ v2) → rs_i mt_X11_draw [pv_r m, pv_i (5 : Int32)] B I1 (fun v27 I26 => rs_i mt_X11_draw [pv_r m, pv_i (10 : Int32)] B I26 (fun v29 I28 => rs_i mt_X11_draw [pv_r m, pv_i (20 : Int32)] B I28 (fun v31 I30 => rs_i mt_X11_draw [pv_r m, pv_i (10000 : Int32)] B I30 (fun v33 I32 => rs_i mt_X11_comesNow [pv_r m, pv_i v27, pv_i v29, pv_i (v31 + (1 : Int32)), pv_i v33, pv_i (-1 : Int32)] B I32 (fun v35 I34 => (((v35 < 0) → P (0 : Int32) I34) ∧ ((¬ v35 < 0) → P (1 : Int32) I34))))))))))) : rw_i mt_X11_stepsOne 0 [some (pv_r m), none, none, none, none] [] B I P := by
  refine go_aload_n dX11_stepsOne_0 rfl ?_
  refine go_bipush (v := (10 : Int32)) rfl dX11_stepsOne_1 ?_
  refine go_V (av := [pv_i (10 : Int32)]) (st := []) (ci := 11) ok_X11_draw ⟨by decide, by decide⟩ ml_X11_253 rfl (by decide) (fun v hv => by simp only [List.mem_cons, List.not_mem_nil, or_false] at hv; rcases hv with rfl <;> first | exact pv_1i | exact pv_1r) (Nat.le_of_ble_eq_true rfl) (fun _ h => h) (by decide) rfl RK.1 dX11_stepsOne_3 H (fun r M' hq _ => ?_)
  obtain ⟨v2, rfl, I1, rfl, H⟩ := hq
  show go_W mt_X11_stepsOne fr_R 6 [some (pv_r m), none, none, none, none] [pv_i v2] (mm_si B I1) (qi_ (fun x M' => ∃ I', M' = mm_si B I' ∧ P x I'))
  refine go_istore_n (by decide) dX11_stepsOne_6 ?_
  show go_W mt_X11_stepsOne fr_R 7 [some (pv_r m), some (pv_i v2), none, none, none] [] (mm_si B I1) (qi_ (fun x M' => ∃ I', M' = mm_si B I' ∧ P x I'))
  refine go_iload_n dX11_stepsOne_7 rfl ?_
  refine go_iconst (v := (3 : Int32)) rfl dX11_stepsOne_8 ?_
  refine go_icmp_ge (tgt := 60) dX11_stepsOne_9 (by decide) (fun hc => ?_) (fun hc => ?_)
  · replace H := H.1 hc
    refine go_iload_n dX11_stepsOne_60 rfl ?_
    refine go_bipush (v := (8 : Int32)) rfl dX11_stepsOne_61 ?_
    refine go_icmp_ne (tgt := 72) dX11_stepsOne_63 (by decide) (fun hc => ?_) (fun hc => ?_)
    · replace H := H.1 hc
      refine go_iload_n dX11_stepsOne_72 rfl ?_
      refine go_bipush (v := (9 : Int32)) rfl dX11_stepsOne_73 ?_
      refine go_icmp_ne (tgt := 130) dX11_stepsOne_75 (by decide) (fun hc => ?_) (fun hc => ?_)
      · replace H := H.1 hc
        refine go_aload_n dX11_stepsOne_130 rfl ?_
        refine go_bipush (v := (6 : Int32)) rfl dX11_stepsOne_131 ?_
        refine go_V (av := [pv_i (6 : Int32)]) (st := []) (ci := 11) ok_X11_draw ⟨by decide, by decide⟩ ml_X11_253 rfl (by decide) (fun v hv => by simp only [List.mem_cons, List.not_mem_nil, or_false] at hv; rcases hv with rfl <;> first | exact pv_1i | exact pv_1r) (Nat.le_of_ble_eq_true rfl) (fun _ h => h) (by decide) rfl RK.1 dX11_stepsOne_133 H (fun r M' hq _ => ?_)
        obtain ⟨v4, rfl, I3, rfl, H⟩ := hq
        show go_W mt_X11_stepsOne fr_R 136 [some (pv_r m), some (pv_i v2), none, none, none] [pv_i v4] (mm_si B I3) (qi_ (fun x M' => ∃ I', M' = mm_si B I' ∧ P x I'))
        refine go_istore_n (by decide) dX11_stepsOne_136 ?_
        show go_W mt_X11_stepsOne fr_R 137 [some (pv_r m), some (pv_i v2), some (pv_i v4), none, none] [] (mm_si B I3) (qi_ (fun x M' => ∃ I', M' = mm_si B I' ∧ P x I'))
        refine go_iload_n dX11_stepsOne_137 rfl ?_
        refine go_bipush (v := (7 : Int32)) rfl dX11_stepsOne_138 ?_
        refine go_icmp_ne (tgt := 154) dX11_stepsOne_140 (by decide) (fun hc => ?_) (fun hc => ?_)
        · replace H := H.1 hc
          refine go_iconst (v := (0 : Int32)) rfl dX11_stepsOne_154 ?_
          refine go_istore_n (by decide) dX11_stepsOne_155 ?_
          show go_W mt_X11_stepsOne fr_R 156 [some (pv_r m), some (pv_i v2), some (pv_i v4), some (pv_i (0 : Int32)), none] [] (mm_si B I3) (qi_ (fun x M' => ∃ I', M' = mm_si B I' ∧ P x I'))
          refine go_aload_n dX11_stepsOne_156 rfl ?_
          refine go_getRe (k := 0) ⟨by decide, rfl, by decide, Or.inr ⟨_, rfl⟩⟩ RK.1 (rf_r1 RK) fl_X11_7 dX11_stepsOne_157 ?_
          refine go_iload_n dX11_stepsOne_160 rfl ?_
          obtain ⟨n5, ⟨hn5, hn5b⟩, H⟩ := H
          refine go_St (av := [pv_i v4]) (st := [pv_r (m + 1)]) ok_X11_workerAt ⟨by decide, by decide⟩ ml_X11_84 rfl (by decide) (fun v hv => by simp only [List.mem_cons, List.not_mem_nil, or_false] at hv; rcases hv with rfl <;> first | exact pv_1i | exact pv_1r) (Nat.le_of_ble_eq_true rfl) (fun _ h => h) dX11_stepsOne_161 (rx_workerAt RK hn5) (fun r M' hq _ => ?_)
          obtain ⟨_, rfl, _, rfl, rfl, rfl⟩ := hq
          show go_W mt_X11_stepsOne fr_R 164 [some (pv_r m), some (pv_i v2), some (pv_i v4), some (pv_i (0 : Int32)), none] [pv_i (nI (60 + 4 * n5)), pv_r (m + 1)] (mm_si B I3) (qi_ (fun x M' => ∃ I', M' = mm_si B I' ∧ P x I'))
          refine go_ialdN (j := (60 + 4 * n5)) ⟨by decide, by decide, by decide⟩ (rf_k1 RK) rfl (by omega) dX11_stepsOne_164 ?_
          refine go_istore (by decide) dX11_stepsOne_165 ?_
          show go_W mt_X11_stepsOne fr_R 167 [some (pv_r m), some (pv_i v2), some (pv_i v4), some (pv_i (0 : Int32)), some (pv_i (I3 (m + 1) (60 + 4 * n5)))] [] (mm_si B I3) (qi_ (fun x M' => ∃ I', M' = mm_si B I' ∧ P x I'))
          refine go_iload_n dX11_stepsOne_167 rfl ?_
          refine go_iconst (v := (5 : Int32)) rfl dX11_stepsOne_168 ?_
          refine go_icmp_ge (tgt := 193) dX11_stepsOne_169 (by decide) (fun hc => ?_) (fun hc => ?_)
          · replace H := H.1 hc
            refine go_iload dX11_stepsOne_193 rfl ?_
            refine go_iconst (v := (-1 : Int32)) rfl dX11_stepsOne_195 ?_
            refine go_icmp_ne (tgt := 201) dX11_stepsOne_196 (by decide) (fun hc => ?_) (fun hc => ?_)
            · replace H := H.1 hc
              refine go_iload_n dX11_stepsOne_201 rfl ?_
              refine go_bipush (v := (7 : Int32)) rfl dX11_stepsOne_202 ?_
              refine go_icmp_ne (tgt := 218) dX11_stepsOne_204 (by decide) (fun hc => ?_) (fun hc => ?_)
              · replace H := H.1 hc
                refine go_aload_n dX11_stepsOne_218 rfl ?_
                refine go_iload dX11_stepsOne_219 rfl ?_
                refine go_V (av := [pv_i (I3 (m + 1) (60 + 4 * n5))]) (st := []) (ci := 11) ok_X11_isDoneNow ⟨by decide, by decide⟩ ml_X11_221 rfl (by decide) (fun v hv => by simp only [List.mem_cons, List.not_mem_nil, or_false] at hv; rcases hv with rfl <;> first | exact pv_1i | exact pv_1r) (Nat.le_of_ble_eq_true rfl) (fun _ h => h) (by decide) rfl RK.1 dX11_stepsOne_221 H (fun r M' hq _ => ?_)
                obtain ⟨rfl, I6, rfl, H⟩ := hq
                show go_W mt_X11_stepsOne fr_R 224 [some (pv_r m), some (pv_i v2), some (pv_i v4), some (pv_i (0 : Int32)), some (pv_i (I3 (m + 1) (60 + 4 * n5)))] [] (mm_si B I6) (qi_ (fun x M' => ∃ I', M' = mm_si B I' ∧ P x I'))
                refine go_iconst (v := (1 : Int32)) rfl dX11_stepsOne_224 ?_
                exact go_iret rfl rfl dX11_stepsOne_225 ⟨_, rfl, _, rfl, H⟩
              · replace H := H.2 hc
                refine go_aload_n dX11_stepsOne_207 rfl ?_
                refine go_iload dX11_stepsOne_208 rfl ?_
                refine go_iload_n dX11_stepsOne_210 rfl ?_
                refine go_V (av := [pv_i (I3 (m + 1) (60 + 4 * n5)), pv_i (0 : Int32)]) (st := []) (ci := 11) ok_X11_failsNow ⟨by decide, by decide⟩ ml_X11_187 rfl (by decide) (fun v hv => by simp only [List.mem_cons, List.not_mem_nil, or_false] at hv; rcases hv with rfl | rfl <;> first | exact pv_1i | exact pv_1r) (Nat.le_of_ble_eq_true rfl) (fun _ h => h) (by decide) rfl RK.1 dX11_stepsOne_211 H (fun r M' hq _ => ?_)
                obtain ⟨v8, rfl, I7, rfl, H⟩ := hq
                show go_W mt_X11_stepsOne fr_R 214 [some (pv_r m), some (pv_i v2), some (pv_i v4), some (pv_i (0 : Int32)), some (pv_i (I3 (m + 1) (60 + 4 * n5)))] [pv_i v8] (mm_si B I7) (qi_ (fun x M' => ∃ I', M' = mm_si B I' ∧ P x I'))
                refine go_pop pv_1i dX11_stepsOne_214 ?_
                refine go_goto (tgt := 224) dX11_stepsOne_215 (by decide) ?_
                refine go_iconst (v := (1 : Int32)) rfl dX11_stepsOne_224 ?_
                exact go_iret rfl rfl dX11_stepsOne_225 ⟨_, rfl, _, rfl, H⟩
            · replace H := H.2 hc
              refine go_iconst (v := (0 : Int32)) rfl dX11_stepsOne_199 ?_
              exact go_iret rfl rfl dX11_stepsOne_200 ⟨_, rfl, _, rfl, H⟩
          · replace H := H.2 hc
            refine go_iload dX11_stepsOne_172 rfl ?_
            refine go_iconst (v := (-1 : Int32)) rfl dX11_stepsOne_174 ?_
            refine go_icmp_ne (tgt := 191) dX11_stepsOne_175 (by decide) (fun hc => ?_) (fun hc => ?_)
            · replace H := H.1 hc
              refine go_iconst (v := (0 : Int32)) rfl dX11_stepsOne_191 ?_
              exact go_iret rfl rfl dX11_stepsOne_192 ⟨_, rfl, _, rfl, H⟩
            · replace H := H.2 hc
              refine go_aload_n dX11_stepsOne_178 rfl ?_
              refine go_iload_n dX11_stepsOne_179 rfl ?_
              refine go_V (av := [pv_i v4]) (st := []) (ci := 11) ok_X11_takesBy ⟨by decide, by decide⟩ ml_X11_215 rfl (by decide) (fun v hv => by simp only [List.mem_cons, List.not_mem_nil, or_false] at hv; rcases hv with rfl <;> first | exact pv_1i | exact pv_1r) (Nat.le_of_ble_eq_true rfl) (fun _ h => h) (by decide) rfl RK.1 dX11_stepsOne_180 H (fun r M' hq _ => ?_)
              obtain ⟨v10, rfl, I9, rfl, H⟩ := hq
              show go_W mt_X11_stepsOne fr_R 183 [some (pv_r m), some (pv_i v2), some (pv_i v4), some (pv_i (0 : Int32)), some (pv_i (I3 (m + 1) (60 + 4 * n5)))] [pv_i v10] (mm_si B I9) (qi_ (fun x M' => ∃ I', M' = mm_si B I' ∧ P x I'))
              refine go_iconst (v := (-1 : Int32)) rfl dX11_stepsOne_183 ?_
              refine go_icmp_eq (tgt := 191) dX11_stepsOne_184 (by decide) (fun hc => ?_) (fun hc => ?_)
              · replace H := H.1 hc
                refine go_iconst (v := (0 : Int32)) rfl dX11_stepsOne_191 ?_
                exact go_iret rfl rfl dX11_stepsOne_192 ⟨_, rfl, _, rfl, H⟩
              · replace H := H.2 hc
                refine go_iconst (v := (1 : Int32)) rfl dX11_stepsOne_187 ?_
                refine go_goto (tgt := 192) dX11_stepsOne_188 (by decide) ?_
                exact go_iret rfl rfl dX11_stepsOne_192 ⟨_, rfl, _, rfl, H⟩
        · replace H := H.2 hc
          refine go_aload_n dX11_stepsOne_143 rfl ?_
          refine go_bipush (v := (99 : Int32)) rfl dX11_stepsOne_144 ?_
          refine go_V (av := [pv_i (99 : Int32)]) (st := []) (ci := 11) ok_X11_draw ⟨by decide, by decide⟩ ml_X11_253 rfl (by decide) (fun v hv => by simp only [List.mem_cons, List.not_mem_nil, or_false] at hv; rcases hv with rfl <;> first | exact pv_1i | exact pv_1r) (Nat.le_of_ble_eq_true rfl) (fun _ h => h) (by decide) rfl RK.1 dX11_stepsOne_146 H (fun r M' hq _ => ?_)
          obtain ⟨v12, rfl, I11, rfl, H⟩ := hq
          show go_W mt_X11_stepsOne fr_R 149 [some (pv_r m), some (pv_i v2), some (pv_i v4), none, none] [pv_i v12] (mm_si B I11) (qi_ (fun x M' => ∃ I', M' = mm_si B I' ∧ P x I'))
          refine go_iconst (v := (1 : Int32)) rfl dX11_stepsOne_149 ?_
          refine go_iadd dX11_stepsOne_150 ?_
          refine go_goto (tgt := 155) dX11_stepsOne_151 (by decide) ?_
          refine go_istore_n (by decide) dX11_stepsOne_155 ?_
          show go_W mt_X11_stepsOne fr_R 156 [some (pv_r m), some (pv_i v2), some (pv_i v4), some (pv_i (v12 + (1 : Int32))), none] [] (mm_si B I11) (qi_ (fun x M' => ∃ I', M' = mm_si B I' ∧ P x I'))
          refine go_aload_n dX11_stepsOne_156 rfl ?_
          refine go_getRe (k := 0) ⟨by decide, rfl, by decide, Or.inr ⟨_, rfl⟩⟩ RK.1 (rf_r1 RK) fl_X11_7 dX11_stepsOne_157 ?_
          refine go_iload_n dX11_stepsOne_160 rfl ?_
          obtain ⟨n13, ⟨hn13, hn13b⟩, H⟩ := H
          refine go_St (av := [pv_i v4]) (st := [pv_r (m + 1)]) ok_X11_workerAt ⟨by decide, by decide⟩ ml_X11_84 rfl (by decide) (fun v hv => by simp only [List.mem_cons, List.not_mem_nil, or_false] at hv; rcases hv with rfl <;> first | exact pv_1i | exact pv_1r) (Nat.le_of_ble_eq_true rfl) (fun _ h => h) dX11_stepsOne_161 (rx_workerAt RK hn13) (fun r M' hq _ => ?_)
          obtain ⟨_, rfl, _, rfl, rfl, rfl⟩ := hq
          show go_W mt_X11_stepsOne fr_R 164 [some (pv_r m), some (pv_i v2), some (pv_i v4), some (pv_i (v12 + (1 : Int32))), none] [pv_i (nI (60 + 4 * n13)), pv_r (m + 1)] (mm_si B I11) (qi_ (fun x M' => ∃ I', M' = mm_si B I' ∧ P x I'))
          refine go_ialdN (j := (60 + 4 * n13)) ⟨by decide, by decide, by decide⟩ (rf_k1 RK) rfl (by omega) dX11_stepsOne_164 ?_
          refine go_istore (by decide) dX11_stepsOne_165 ?_
          show go_W mt_X11_stepsOne fr_R 167 [some (pv_r m), some (pv_i v2), some (pv_i v4), some (pv_i (v12 + (1 : Int32))), some (pv_i (I11 (m + 1) (60 + 4 * n13)))] [] (mm_si B I11) (qi_ (fun x M' => ∃ I', M' = mm_si B I' ∧ P x I'))
          refine go_iload_n dX11_stepsOne_167 rfl ?_
          refine go_iconst (v := (5 : Int32)) rfl dX11_stepsOne_168 ?_
          refine go_icmp_ge (tgt := 193) dX11_stepsOne_169 (by decide) (fun hc => ?_) (fun hc => ?_)
          · replace H := H.1 hc
            refine go_iload dX11_stepsOne_193 rfl ?_
            refine go_iconst (v := (-1 : Int32)) rfl dX11_stepsOne_195 ?_
            refine go_icmp_ne (tgt := 201) dX11_stepsOne_196 (by decide) (fun hc => ?_) (fun hc => ?_)
            · replace H := H.1 hc
              refine go_iload_n dX11_stepsOne_201 rfl ?_
              refine go_bipush (v := (7 : Int32)) rfl dX11_stepsOne_202 ?_
              refine go_icmp_ne (tgt := 218) dX11_stepsOne_204 (by decide) (fun hc => ?_) (fun hc => ?_)
              · replace H := H.1 hc
                refine go_aload_n dX11_stepsOne_218 rfl ?_
                refine go_iload dX11_stepsOne_219 rfl ?_
                refine go_V (av := [pv_i (I11 (m + 1) (60 + 4 * n13))]) (st := []) (ci := 11) ok_X11_isDoneNow ⟨by decide, by decide⟩ ml_X11_221 rfl (by decide) (fun v hv => by simp only [List.mem_cons, List.not_mem_nil, or_false] at hv; rcases hv with rfl <;> first | exact pv_1i | exact pv_1r) (Nat.le_of_ble_eq_true rfl) (fun _ h => h) (by decide) rfl RK.1 dX11_stepsOne_221 H (fun r M' hq _ => ?_)
                obtain ⟨rfl, I14, rfl, H⟩ := hq
                show go_W mt_X11_stepsOne fr_R 224 [some (pv_r m), some (pv_i v2), some (pv_i v4), some (pv_i (v12 + (1 : Int32))), some (pv_i (I11 (m + 1) (60 + 4 * n13)))] [] (mm_si B I14) (qi_ (fun x M' => ∃ I', M' = mm_si B I' ∧ P x I'))
                refine go_iconst (v := (1 : Int32)) rfl dX11_stepsOne_224 ?_
                exact go_iret rfl rfl dX11_stepsOne_225 ⟨_, rfl, _, rfl, H⟩
              · replace H := H.2 hc
                refine go_aload_n dX11_stepsOne_207 rfl ?_
                refine go_iload dX11_stepsOne_208 rfl ?_
                refine go_iload_n dX11_stepsOne_210 rfl ?_
                refine go_V (av := [pv_i (I11 (m + 1) (60 + 4 * n13)), pv_i (v12 + (1 : Int32))]) (st := []) (ci := 11) ok_X11_failsNow ⟨by decide, by decide⟩ ml_X11_187 rfl (by decide) (fun v hv => by simp only [List.mem_cons, List.not_mem_nil, or_false] at hv; rcases hv with rfl | rfl <;> first | exact pv_1i | exact pv_1r) (Nat.le_of_ble_eq_true rfl) (fun _ h => h) (by decide) rfl RK.1 dX11_stepsOne_211 H (fun r M' hq _ => ?_)
                obtain ⟨v16, rfl, I15, rfl, H⟩ := hq
                show go_W mt_X11_stepsOne fr_R 214 [some (pv_r m), some (pv_i v2), some (pv_i v4), some (pv_i (v12 + (1 : Int32))), some (pv_i (I11 (m + 1) (60 + 4 * n13)))] [pv_i v16] (mm_si B I15) (qi_ (fun x M' => ∃ I', M' = mm_si B I' ∧ P x I'))
                refine go_pop pv_1i dX11_stepsOne_214 ?_
                refine go_goto (tgt := 224) dX11_stepsOne_215 (by decide) ?_
                refine go_iconst (v := (1 : Int32)) rfl dX11_stepsOne_224 ?_
                exact go_iret rfl rfl dX11_stepsOne_225 ⟨_, rfl, _, rfl, H⟩
            · replace H := H.2 hc
              refine go_iconst (v := (0 : Int32)) rfl dX11_stepsOne_199 ?_
              exact go_iret rfl rfl dX11_stepsOne_200 ⟨_, rfl, _, rfl, H⟩
          · replace H := H.2 hc
            refine go_iload dX11_stepsOne_172 rfl ?_
            refine go_iconst (v := (-1 : Int32)) rfl dX11_stepsOne_174 ?_
            refine go_icmp_ne (tgt := 191) dX11_stepsOne_175 (by decide) (fun hc => ?_) (fun hc => ?_)
            · replace H := H.1 hc
              refine go_iconst (v := (0 : Int32)) rfl dX11_stepsOne_191 ?_
              exact go_iret rfl rfl dX11_stepsOne_192 ⟨_, rfl, _, rfl, H⟩
            · replace H := H.2 hc
              refine go_aload_n dX11_stepsOne_178 rfl ?_
              refine go_iload_n dX11_stepsOne_179 rfl ?_
              refine go_V (av := [pv_i v4]) (st := []) (ci := 11) ok_X11_takesBy ⟨by decide, by decide⟩ ml_X11_215 rfl (by decide) (fun v hv => by simp only [List.mem_cons, List.not_mem_nil, or_false] at hv; rcases hv with rfl <;> first | exact pv_1i | exact pv_1r) (Nat.le_of_ble_eq_true rfl) (fun _ h => h) (by decide) rfl RK.1 dX11_stepsOne_180 H (fun r M' hq _ => ?_)
              obtain ⟨v18, rfl, I17, rfl, H⟩ := hq
              show go_W mt_X11_stepsOne fr_R 183 [some (pv_r m), some (pv_i v2), some (pv_i v4), some (pv_i (v12 + (1 : Int32))), some (pv_i (I11 (m + 1) (60 + 4 * n13)))] [pv_i v18] (mm_si B I17) (qi_ (fun x M' => ∃ I', M' = mm_si B I' ∧ P x I'))
              refine go_iconst (v := (-1 : Int32)) rfl dX11_stepsOne_183 ?_
              refine go_icmp_eq (tgt := 191) dX11_stepsOne_184 (by decide) (fun hc => ?_) (fun hc => ?_)
              · replace H := H.1 hc
                refine go_iconst (v := (0 : Int32)) rfl dX11_stepsOne_191 ?_
                exact go_iret rfl rfl dX11_stepsOne_192 ⟨_, rfl, _, rfl, H⟩
              · replace H := H.2 hc
                refine go_iconst (v := (1 : Int32)) rfl dX11_stepsOne_187 ?_
                refine go_goto (tgt := 192) dX11_stepsOne_188 (by decide) ?_
                exact go_iret rfl rfl dX11_stepsOne_192 ⟨_, rfl, _, rfl, H⟩
      · replace H := H.2 hc
        refine go_aload_n dX11_stepsOne_78 rfl ?_
        refine go_sipush (v := (400 : Int32)) rfl dX11_stepsOne_79 ?_
        refine go_V (av := [pv_i (400 : Int32)]) (st := []) (ci := 11) ok_X11_draw ⟨by decide, by decide⟩ ml_X11_253 rfl (by decide) (fun v hv => by simp only [List.mem_cons, List.not_mem_nil, or_false] at hv; rcases hv with rfl <;> first | exact pv_1i | exact pv_1r) (Nat.le_of_ble_eq_true rfl) (fun _ h => h) (by decide) rfl RK.1 dX11_stepsOne_82 H (fun r M' hq _ => ?_)
        obtain ⟨v20, rfl, I19, rfl, H⟩ := hq
        show go_W mt_X11_stepsOne fr_R 85 [some (pv_r m), some (pv_i v2), none, none, none] [pv_i v20] (mm_si B I19) (qi_ (fun x M' => ∃ I', M' = mm_si B I' ∧ P x I'))
        refine go_istore_n (by decide) dX11_stepsOne_85 ?_
        show go_W mt_X11_stepsOne fr_R 86 [some (pv_r m), some (pv_i v2), some (pv_i v20), none, none] [] (mm_si B I19) (qi_ (fun x M' => ∃ I', M' = mm_si B I' ∧ P x I'))
        refine go_aload_n dX11_stepsOne_86 rfl ?_
        refine go_bipush (v := (10 : Int32)) rfl dX11_stepsOne_87 ?_
        refine go_V (av := [pv_i (10 : Int32)]) (st := []) (ci := 11) ok_X11_draw ⟨by decide, by decide⟩ ml_X11_253 rfl (by decide) (fun v hv => by simp only [List.mem_cons, List.not_mem_nil, or_false] at hv; rcases hv with rfl <;> first | exact pv_1i | exact pv_1r) (Nat.le_of_ble_eq_true rfl) (fun _ h => h) (by decide) rfl RK.1 dX11_stepsOne_89 H (fun r M' hq _ => ?_)
        obtain ⟨v22, rfl, I21, rfl, H⟩ := hq
        show go_W mt_X11_stepsOne fr_R 92 [some (pv_r m), some (pv_i v2), some (pv_i v20), none, none] [pv_i v22] (mm_si B I21) (qi_ (fun x M' => ∃ I', M' = mm_si B I' ∧ P x I'))
        refine go_istore_n (by decide) dX11_stepsOne_92 ?_
        show go_W mt_X11_stepsOne fr_R 93 [some (pv_r m), some (pv_i v2), some (pv_i v20), some (pv_i v22), none] [] (mm_si B I21) (qi_ (fun x M' => ∃ I', M' = mm_si B I' ∧ P x I'))
        refine go_aload_n dX11_stepsOne_93 rfl ?_
        refine go_iload_n dX11_stepsOne_94 rfl ?_
        by_cases hc : (0 ≤ v20 ∧ v20 ≤ I21 (m + 1) 1 - 1)
        · replace H := H.1 hc
          refine go_V (av := [pv_i v20]) (st := []) (ci := 11) ok_X11_isTask ⟨by decide, by decide⟩ ml_X11_161 rfl (by decide) (fun v hv => by simp only [List.mem_cons, List.not_mem_nil, or_false] at hv; rcases hv with rfl <;> first | exact pv_1i | exact pv_1r) (Nat.le_of_ble_eq_true rfl) (fun _ h => h) (by decide) rfl RK.1 dX11_stepsOne_95 (rx_isTask_t RK hc) (fun r M' hq _ => ?_)
          obtain ⟨_, rfl, _, rfl, rfl, rfl⟩ := hq
          show go_W mt_X11_stepsOne fr_R 98 [some (pv_r m), some (pv_i v2), some (pv_i v20), some (pv_i v22), none] [pv_i (1 : Int32)] (mm_si B I21) (qi_ (fun x M' => ∃ I', M' = mm_si B I' ∧ P x I'))
          refine go_if_eq (tgt := 119) dX11_stepsOne_98 (by decide) (fun hc => absurd hc (by decide)) (fun _ => ?_)
          refine go_aload_n dX11_stepsOne_101 rfl ?_
          refine go_iload_n dX11_stepsOne_102 rfl ?_
          obtain ⟨n23, ⟨hn23, hn23b⟩, H⟩ := H
          by_cases hc : (I21 (m + 1) (200 + 14 * n23 + 6) ≤ 2)
          · replace H := H.1 hc
            refine go_V (av := [pv_i v20]) (st := []) (ci := 11) ok_X11_isAtRest ⟨by decide, by decide⟩ ml_X11_230 rfl (by decide) (fun v hv => by simp only [List.mem_cons, List.not_mem_nil, or_false] at hv; rcases hv with rfl <;> first | exact pv_1i | exact pv_1r) (Nat.le_of_ble_eq_true rfl) (fun _ h => h) (by decide) rfl RK.1 dX11_stepsOne_103 (rx_isAtRest_t RK hn23 hn23b hc) (fun r M' hq _ => ?_)
            obtain ⟨_, rfl, _, rfl, rfl, rfl⟩ := hq
            show go_W mt_X11_stepsOne fr_R 106 [some (pv_r m), some (pv_i v2), some (pv_i v20), some (pv_i v22), none] [pv_i (1 : Int32)] (mm_si B I21) (qi_ (fun x M' => ∃ I', M' = mm_si B I' ∧ P x I'))
            refine go_if_eq (tgt := 119) dX11_stepsOne_106 (by decide) (fun hc => absurd hc (by decide)) (fun _ => ?_)
            refine go_aload_n dX11_stepsOne_109 rfl ?_
            refine go_iload_n dX11_stepsOne_110 rfl ?_
            refine go_iconst (v := (1 : Int32)) rfl dX11_stepsOne_111 ?_
            refine go_V (av := [pv_i v20, pv_i (1 : Int32)]) (st := []) (ci := 11) ok_X11_of ⟨by decide, by decide⟩ ml_X11_94 rfl (by decide) (fun v hv => by simp only [List.mem_cons, List.not_mem_nil, or_false] at hv; rcases hv with rfl | rfl <;> first | exact pv_1i | exact pv_1r) (Nat.le_of_ble_eq_true rfl) (fun _ h => h) (by decide) rfl RK.1 dX11_stepsOne_112 (rx_of RK hn23 rfl (by omega) (by decide)) (fun r M' hq _ => ?_)
            obtain ⟨_, rfl, _, rfl, rfl, rfl⟩ := hq
            show go_W mt_X11_stepsOne fr_R 115 [some (pv_r m), some (pv_i v2), some (pv_i v20), some (pv_i v22), none] [pv_i (I21 (m + 1) (200 + 14 * n23 + 1))] (mm_si B I21) (qi_ (fun x M' => ∃ I', M' = mm_si B I' ∧ P x I'))
            refine go_iload_n dX11_stepsOne_115 rfl ?_
            refine go_icmp_ne (tgt := 121) dX11_stepsOne_116 (by decide) (fun hc => ?_) (fun hc => ?_)
            · replace H := H.1 hc
              refine go_aload_n dX11_stepsOne_121 rfl ?_
              refine go_iload_n dX11_stepsOne_122 rfl ?_
              refine go_iconst (v := (1 : Int32)) rfl dX11_stepsOne_123 ?_
              refine go_iload_n dX11_stepsOne_124 rfl ?_
              refine go_V (av := [pv_i v20, pv_i (1 : Int32), pv_i v22]) (st := []) (ci := 11) ok_X11_is ⟨by decide, by decide⟩ ml_X11_121 rfl (by decide) (fun v hv => by simp only [List.mem_cons, List.not_mem_nil, or_false] at hv; rcases hv with rfl | rfl | rfl <;> first | exact pv_1i | exact pv_1r) (Nat.le_of_ble_eq_true rfl) (fun _ h => h) (by decide) rfl RK.1 dX11_stepsOne_125 (rx_is RK hn23 rfl (by omega) (by decide)) (fun r M' hq _ => ?_)
              obtain ⟨rfl, _, rfl, rfl⟩ := hq
              show go_W mt_X11_stepsOne fr_R 128 [some (pv_r m), some (pv_i v2), some (pv_i v20), some (pv_i v22), none] [] (mm_si B (i2_u I21 (m + 1) (200 + 14 * n23 + 1) v22)) (qi_ (fun x M' => ∃ I', M' = mm_si B I' ∧ P x I'))
              obtain ⟨I24, hI24⟩ : ∃ I', I' = i2_u I21 (m + 1) (200 + 14 * n23 + 1) v22 := ⟨_, rfl⟩
              rw [← hI24]
              replace H := H I24 hI24
              refine go_iconst (v := (1 : Int32)) rfl dX11_stepsOne_128 ?_
              exact go_iret rfl rfl dX11_stepsOne_129 ⟨_, rfl, _, rfl, H⟩
            · replace H := H.2 hc
              refine go_iconst (v := (0 : Int32)) rfl dX11_stepsOne_119 ?_
              exact go_iret rfl rfl dX11_stepsOne_120 ⟨_, rfl, _, rfl, H⟩
          · replace H := H.2 hc
            refine go_V (av := [pv_i v20]) (st := []) (ci := 11) ok_X11_isAtRest ⟨by decide, by decide⟩ ml_X11_230 rfl (by decide) (fun v hv => by simp only [List.mem_cons, List.not_mem_nil, or_false] at hv; rcases hv with rfl <;> first | exact pv_1i | exact pv_1r) (Nat.le_of_ble_eq_true rfl) (fun _ h => h) (by decide) rfl RK.1 dX11_stepsOne_103 (rx_isAtRest_f RK hn23 hn23b hc) (fun r M' hq _ => ?_)
            obtain ⟨_, rfl, _, rfl, rfl, rfl⟩ := hq
            show go_W mt_X11_stepsOne fr_R 106 [some (pv_r m), some (pv_i v2), some (pv_i v20), some (pv_i v22), none] [pv_i (0 : Int32)] (mm_si B I21) (qi_ (fun x M' => ∃ I', M' = mm_si B I' ∧ P x I'))
            refine go_if_eq (tgt := 119) dX11_stepsOne_106 (by decide) (fun _ => ?_) (fun hc => absurd hc (by decide))
            refine go_iconst (v := (0 : Int32)) rfl dX11_stepsOne_119 ?_
            exact go_iret rfl rfl dX11_stepsOne_120 ⟨_, rfl, _, rfl, H⟩
        · replace H := H.2 hc
          refine go_V (av := [pv_i v20]) (st := []) (ci := 11) ok_X11_isTask ⟨by decide, by decide⟩ ml_X11_161 rfl (by decide) (fun v hv => by simp only [List.mem_cons, List.not_mem_nil, or_false] at hv; rcases hv with rfl <;> first | exact pv_1i | exact pv_1r) (Nat.le_of_ble_eq_true rfl) (fun _ h => h) (by decide) rfl RK.1 dX11_stepsOne_95 (rx_isTask_f RK hc) (fun r M' hq _ => ?_)
          obtain ⟨_, rfl, _, rfl, rfl, rfl⟩ := hq
          show go_W mt_X11_stepsOne fr_R 98 [some (pv_r m), some (pv_i v2), some (pv_i v20), some (pv_i v22), none] [pv_i (0 : Int32)] (mm_si B I21) (qi_ (fun x M' => ∃ I', M' = mm_si B I' ∧ P x I'))
          refine go_if_eq (tgt := 119) dX11_stepsOne_98 (by decide) (fun _ => ?_) (fun hc => absurd hc (by decide))
          refine go_iconst (v := (0 : Int32)) rfl dX11_stepsOne_119 ?_
          exact go_iret rfl rfl dX11_stepsOne_120 ⟨_, rfl, _, rfl, H⟩
    · replace H := H.2 hc
      refine go_aload_n dX11_stepsOne_66 rfl ?_
      refine go_V (av := []) (st := []) (ci := 11) ok_X11_ticks ⟨by decide, by decide⟩ ml_X11_227 rfl (by decide) (fun v hv => absurd hv List.not_mem_nil) (Nat.le_of_ble_eq_true rfl) (fun _ h => h) (by decide) rfl RK.1 dX11_stepsOne_67 H (fun r M' hq _ => ?_)
      obtain ⟨rfl, I25, rfl, H⟩ := hq
      show go_W mt_X11_stepsOne fr_R 70 [some (pv_r m), some (pv_i v2), none, none, none] [] (mm_si B I25) (qi_ (fun x M' => ∃ I', M' = mm_si B I' ∧ P x I'))
      refine go_iconst (v := (1 : Int32)) rfl dX11_stepsOne_70 ?_
      exact go_iret rfl rfl dX11_stepsOne_71 ⟨_, rfl, _, rfl, H⟩
  · replace H := H.2 hc
    refine go_aload_n dX11_stepsOne_12 rfl ?_
    refine go_iconst (v := (5 : Int32)) rfl dX11_stepsOne_13 ?_
    refine go_V (av := [pv_i (5 : Int32)]) (st := []) (ci := 11) ok_X11_draw ⟨by decide, by decide⟩ ml_X11_253 rfl (by decide) (fun v hv => by simp only [List.mem_cons, List.not_mem_nil, or_false] at hv; rcases hv with rfl <;> first | exact pv_1i | exact pv_1r) (Nat.le_of_ble_eq_true rfl) (fun _ h => h) (by decide) rfl RK.1 dX11_stepsOne_14 H (fun r M' hq _ => ?_)
    obtain ⟨v27, rfl, I26, rfl, H⟩ := hq
    show go_W mt_X11_stepsOne fr_R 17 [some (pv_r m), some (pv_i v2), none, none, none] [pv_i v27] (mm_si B I26) (qi_ (fun x M' => ∃ I', M' = mm_si B I' ∧ P x I'))
    refine go_istore_n (by decide) dX11_stepsOne_17 ?_
    show go_W mt_X11_stepsOne fr_R 18 [some (pv_r m), some (pv_i v2), some (pv_i v27), none, none] [] (mm_si B I26) (qi_ (fun x M' => ∃ I', M' = mm_si B I' ∧ P x I'))
    refine go_aload_n dX11_stepsOne_18 rfl ?_
    refine go_bipush (v := (10 : Int32)) rfl dX11_stepsOne_19 ?_
    refine go_V (av := [pv_i (10 : Int32)]) (st := []) (ci := 11) ok_X11_draw ⟨by decide, by decide⟩ ml_X11_253 rfl (by decide) (fun v hv => by simp only [List.mem_cons, List.not_mem_nil, or_false] at hv; rcases hv with rfl <;> first | exact pv_1i | exact pv_1r) (Nat.le_of_ble_eq_true rfl) (fun _ h => h) (by decide) rfl RK.1 dX11_stepsOne_21 H (fun r M' hq _ => ?_)
    obtain ⟨v29, rfl, I28, rfl, H⟩ := hq
    show go_W mt_X11_stepsOne fr_R 24 [some (pv_r m), some (pv_i v2), some (pv_i v27), none, none] [pv_i v29] (mm_si B I28) (qi_ (fun x M' => ∃ I', M' = mm_si B I' ∧ P x I'))
    refine go_istore_n (by decide) dX11_stepsOne_24 ?_
    show go_W mt_X11_stepsOne fr_R 25 [some (pv_r m), some (pv_i v2), some (pv_i v27), some (pv_i v29), none] [] (mm_si B I28) (qi_ (fun x M' => ∃ I', M' = mm_si B I' ∧ P x I'))
    refine go_aload_n dX11_stepsOne_25 rfl ?_
    refine go_bipush (v := (20 : Int32)) rfl dX11_stepsOne_26 ?_
    refine go_V (av := [pv_i (20 : Int32)]) (st := []) (ci := 11) ok_X11_draw ⟨by decide, by decide⟩ ml_X11_253 rfl (by decide) (fun v hv => by simp only [List.mem_cons, List.not_mem_nil, or_false] at hv; rcases hv with rfl <;> first | exact pv_1i | exact pv_1r) (Nat.le_of_ble_eq_true rfl) (fun _ h => h) (by decide) rfl RK.1 dX11_stepsOne_28 H (fun r M' hq _ => ?_)
    obtain ⟨v31, rfl, I30, rfl, H⟩ := hq
    show go_W mt_X11_stepsOne fr_R 31 [some (pv_r m), some (pv_i v2), some (pv_i v27), some (pv_i v29), none] [pv_i v31] (mm_si B I30) (qi_ (fun x M' => ∃ I', M' = mm_si B I' ∧ P x I'))
    refine go_iconst (v := (1 : Int32)) rfl dX11_stepsOne_31 ?_
    refine go_iadd dX11_stepsOne_32 ?_
    refine go_istore (by decide) dX11_stepsOne_33 ?_
    show go_W mt_X11_stepsOne fr_R 35 [some (pv_r m), some (pv_i v2), some (pv_i v27), some (pv_i v29), some (pv_i (v31 + (1 : Int32)))] [] (mm_si B I30) (qi_ (fun x M' => ∃ I', M' = mm_si B I' ∧ P x I'))
    refine go_aload_n dX11_stepsOne_35 rfl ?_
    refine go_iload_n dX11_stepsOne_36 rfl ?_
    refine go_iload_n dX11_stepsOne_37 rfl ?_
    refine go_iload dX11_stepsOne_38 rfl ?_
    refine go_aload_n dX11_stepsOne_40 rfl ?_
    refine go_sipush (v := (10000 : Int32)) rfl dX11_stepsOne_41 ?_
    refine go_V (av := [pv_i (10000 : Int32)]) (st := [pv_i (v31 + (1 : Int32)), pv_i v29, pv_i v27, pv_r m]) (ci := 11) ok_X11_draw ⟨by decide, by decide⟩ ml_X11_253 rfl (by decide) (fun v hv => by simp only [List.mem_cons, List.not_mem_nil, or_false] at hv; rcases hv with rfl <;> first | exact pv_1i | exact pv_1r) (Nat.le_of_ble_eq_true rfl) (fun _ h => h) (by decide) rfl RK.1 dX11_stepsOne_44 H (fun r M' hq _ => ?_)
    obtain ⟨v33, rfl, I32, rfl, H⟩ := hq
    show go_W mt_X11_stepsOne fr_R 47 [some (pv_r m), some (pv_i v2), some (pv_i v27), some (pv_i v29), some (pv_i (v31 + (1 : Int32)))] [pv_i v33, pv_i (v31 + (1 : Int32)), pv_i v29, pv_i v27, pv_r m] (mm_si B I32) (qi_ (fun x M' => ∃ I', M' = mm_si B I' ∧ P x I'))
    refine go_iconst (v := (-1 : Int32)) rfl dX11_stepsOne_47 ?_
    refine go_V (av := [pv_i v27, pv_i v29, pv_i (v31 + (1 : Int32)), pv_i v33, pv_i (-1 : Int32)]) (st := []) (ci := 11) ok_X11_comesNow ⟨by decide, by decide⟩ ml_X11_196 rfl (by decide) (fun v hv => by simp only [List.mem_cons, List.not_mem_nil, or_false] at hv; rcases hv with rfl | rfl | rfl | rfl | rfl <;> first | exact pv_1i | exact pv_1r) (Nat.le_of_ble_eq_true rfl) (fun _ h => h) (by decide) rfl RK.1 dX11_stepsOne_48 H (fun r M' hq _ => ?_)
    obtain ⟨v35, rfl, I34, rfl, H⟩ := hq
    show go_W mt_X11_stepsOne fr_R 51 [some (pv_r m), some (pv_i v2), some (pv_i v27), some (pv_i v29), some (pv_i (v31 + (1 : Int32)))] [pv_i v35] (mm_si B I34) (qi_ (fun x M' => ∃ I', M' = mm_si B I' ∧ P x I'))
    refine go_if_lt (tgt := 58) dX11_stepsOne_51 (by decide) (fun hc => ?_) (fun hc => ?_)
    · replace H := H.1 hc
      refine go_iconst (v := (0 : Int32)) rfl dX11_stepsOne_58 ?_
      exact go_iret rfl rfl dX11_stepsOne_59 ⟨_, rfl, _, rfl, H⟩
    · replace H := H.2 hc
      refine go_iconst (v := (1 : Int32)) rfl dX11_stepsOne_54 ?_
      refine go_goto (tgt := 59) dX11_stepsOne_55 (by decide) ?_
      exact go_iret rfl rfl dX11_stepsOne_59 ⟨_, rfl, _, rfl, H⟩
set_option maxRecDepth 20000 in
theorem wq_X11_liveMany_0 {B : mm_T} {I : Nat → Nat → Int32} {m : Nat} (RK : rf_ok B m)  {P : Int32 → (Nat → Nat → Int32) → Prop} (H : rw_i mt_X11_liveMany 4 [some (pv_r m), some (pv_i (0 : Int32)), some (pv_i (0 : Int32))] [] B I P) : rw_i mt_X11_liveMany 0 [some (pv_r m), none, none] [] B I P := by
  refine go_iconst (v := (0 : Int32)) rfl dX11_liveMany_0 ?_
  refine go_istore_n (by decide) dX11_liveMany_1 ?_
  show go_W mt_X11_liveMany fr_R 2 [some (pv_r m), some (pv_i (0 : Int32)), none] [] (mm_si B I) (qi_ (fun x M' => ∃ I', M' = mm_si B I' ∧ P x I'))
  refine go_iconst (v := (0 : Int32)) rfl dX11_liveMany_2 ?_
  refine go_istore_n (by decide) dX11_liveMany_3 ?_
  show go_W mt_X11_liveMany fr_R 4 [some (pv_r m), some (pv_i (0 : Int32)), some (pv_i (0 : Int32))] [] (mm_si B I) (qi_ (fun x M' => ∃ I', M' = mm_si B I' ∧ P x I'))
  exact H
set_option maxRecDepth 20000 in
theorem wq_X11_liveMany_4 {B : mm_T} {I : Nat → Nat → Int32} {m : Nat} (RK : rf_ok B m) {x1 x2 : Int32} {P : Int32 → (Nat → Nat → Int32) → Prop} (H : ((((5 : Int32) ≤ x2) → P x1 I) ∧ ((¬ (5 : Int32) ≤ x2) → rs_i mt_X11_isLive [pv_r m, pv_i x2] B I (fun v2 I1 => (((v2 = 0) → rw_i mt_X11_liveMany 4 [some (pv_r m), some (pv_i (x1 + (0 : Int32))), some (pv_i (x2 + (1 : Int32)))] [] B I1 P) ∧ ((¬ v2 = 0) → rw_i mt_X11_liveMany 4 [some (pv_r m), some (pv_i (x1 + (1 : Int32))), some (pv_i (x2 + (1 : Int32)))] [] B I1 P)))))) : rw_i mt_X11_liveMany 4 [some (pv_r m), some (pv_i x1), some (pv_i x2)] [] B I P := by
  refine go_iload_n dX11_liveMany_4 rfl ?_
  refine go_iconst (v := (5 : Int32)) rfl dX11_liveMany_5 ?_
  refine go_icmp_ge (tgt := 31) dX11_liveMany_6 (by decide) (fun hc => ?_) (fun hc => ?_)
  · replace H := H.1 hc
    refine go_iload_n dX11_liveMany_31 rfl ?_
    exact go_iret rfl rfl dX11_liveMany_32 ⟨_, rfl, _, rfl, H⟩
  · replace H := H.2 hc
    refine go_iload_n dX11_liveMany_9 rfl ?_
    refine go_aload_n dX11_liveMany_10 rfl ?_
    refine go_iload_n dX11_liveMany_11 rfl ?_
    refine go_V (av := [pv_i x2]) (st := [pv_i x1]) (ci := 11) ok_X11_isLive ⟨by decide, by decide⟩ ml_X11_109 rfl (by decide) (fun v hv => by simp only [List.mem_cons, List.not_mem_nil, or_false] at hv; rcases hv with rfl <;> first | exact pv_1i | exact pv_1r) (Nat.le_of_ble_eq_true rfl) (fun _ h => h) (by decide) rfl RK.1 dX11_liveMany_12 H (fun r M' hq _ => ?_)
    obtain ⟨v2, rfl, I1, rfl, H⟩ := hq
    show go_W mt_X11_liveMany fr_R 15 [some (pv_r m), some (pv_i x1), some (pv_i x2)] [pv_i v2, pv_i x1] (mm_si B I1) (qi_ (fun x M' => ∃ I', M' = mm_si B I' ∧ P x I'))
    refine go_if_eq (tgt := 22) dX11_liveMany_15 (by decide) (fun hc => ?_) (fun hc => ?_)
    · replace H := H.1 hc
      refine go_iconst (v := (0 : Int32)) rfl dX11_liveMany_22 ?_
      refine go_iadd dX11_liveMany_23 ?_
      refine go_istore_n (by decide) dX11_liveMany_24 ?_
      show go_W mt_X11_liveMany fr_R 25 [some (pv_r m), some (pv_i (x1 + (0 : Int32))), some (pv_i x2)] [] (mm_si B I1) (qi_ (fun x M' => ∃ I', M' = mm_si B I' ∧ P x I'))
      refine go_iinc (v := (1 : Int32)) (by decide) rfl rfl dX11_liveMany_25 ?_
      show go_W mt_X11_liveMany fr_R 28 [some (pv_r m), some (pv_i (x1 + (0 : Int32))), some (pv_i (x2 + (1 : Int32)))] [] (mm_si B I1) (qi_ (fun x M' => ∃ I', M' = mm_si B I' ∧ P x I'))
      refine go_goto (tgt := 4) dX11_liveMany_28 (by decide) ?_
      exact H
    · replace H := H.2 hc
      refine go_iconst (v := (1 : Int32)) rfl dX11_liveMany_18 ?_
      refine go_goto (tgt := 23) dX11_liveMany_19 (by decide) ?_
      refine go_iadd dX11_liveMany_23 ?_
      refine go_istore_n (by decide) dX11_liveMany_24 ?_
      show go_W mt_X11_liveMany fr_R 25 [some (pv_r m), some (pv_i (x1 + (1 : Int32))), some (pv_i x2)] [] (mm_si B I1) (qi_ (fun x M' => ∃ I', M' = mm_si B I' ∧ P x I'))
      refine go_iinc (v := (1 : Int32)) (by decide) rfl rfl dX11_liveMany_25 ?_
      show go_W mt_X11_liveMany fr_R 28 [some (pv_r m), some (pv_i (x1 + (1 : Int32))), some (pv_i (x2 + (1 : Int32)))] [] (mm_si B I1) (qi_ (fun x M' => ∃ I', M' = mm_si B I' ∧ P x I'))
      refine go_goto (tgt := 4) dX11_liveMany_28 (by decide) ?_
      exact H
set_option maxRecDepth 20000 in
theorem wq_X11_store_0 {B : mm_T} {I : Nat → Nat → Int32} {m : Nat} (RK : rf_ok B m) {x1 : Int32} {P : Int32 → (Nat → Nat → Int32) → Prop} (H : (((((1 : Int32) ≤ x1 ∧ x1 ≤ (7 : Int32))) → rs_i mt_X11_manyOf [pv_r m, pv_i (-1 : Int32), pv_i (x1 - (1 : Int32))] B I (fun v2 I1 => P v2 I1)) ∧ ((¬ ((1 : Int32) ≤ x1 ∧ x1 ≤ (7 : Int32))) → (((((13 : Int32) ≤ x1 ∧ x1 ≤ (18 : Int32))) → ∃ n3, ((((4 : Int32) + x1) - (13 : Int32)) = nI n3 ∧ n3 < 6200) ∧ (P (I (m + 1) n3) I)) ∧ ((¬ ((13 : Int32) ≤ x1 ∧ x1 ≤ (18 : Int32))) → ((x1 = (0 : Int32)) → P (I (m + 1) 0) I) ∧ ((x1 = (8 : Int32)) → P (I (m + 1) 1) I) ∧ ((x1 = (9 : Int32)) → rs_i mt_X11_standing [pv_r m, pv_i (-1 : Int32)] B I (fun v5 I4 => P v5 I4)) ∧ ((x1 = (10 : Int32)) → P (I m 7) I) ∧ ((x1 = (11 : Int32)) → P (I (m + 1) 2) I) ∧ ((x1 = (12 : Int32)) → rs_i mt_X11_liveMany [pv_r m] B I (fun v7 I6 => P v7 I6)) ∧ ((¬ x1 = (0 : Int32) ∧ ¬ x1 = (8 : Int32) ∧ ¬ x1 = (9 : Int32) ∧ ¬ x1 = (10 : Int32) ∧ ¬ x1 = (11 : Int32) ∧ ¬ x1 = (12 : Int32)) → P (-1 : Int32) I)))))) : rw_i mt_X11_store 0 [some (pv_r m), some (pv_i x1)] [] B I P := by
  refine go_iload_n dX11_store_0 rfl ?_
  refine go_iconst (v := (1 : Int32)) rfl dX11_store_1 ?_
  refine go_bipush (v := (7 : Int32)) rfl dX11_store_2 ?_
  by_cases hc : ((1 : Int32) ≤ x1 ∧ x1 ≤ (7 : Int32))
  · replace H := H.1 hc
    refine go_St (av := [pv_i x1, pv_i (1 : Int32), pv_i (7 : Int32)]) (st := []) ok_X11_isIn ⟨by decide, by decide⟩ ml_X11_90 rfl (by decide) (fun v hv => by simp only [List.mem_cons, List.not_mem_nil, or_false] at hv; rcases hv with rfl | rfl | rfl <;> first | exact pv_1i | exact pv_1r) (Nat.le_of_ble_eq_true rfl) (fun _ h => h) dX11_store_4 (rx_isIn_t RK hc) (fun r M' hq _ => ?_)
    obtain ⟨_, rfl, _, rfl, rfl, rfl⟩ := hq
    show go_W mt_X11_store fr_R 7 [some (pv_r m), some (pv_i x1)] [pv_i (1 : Int32)] (mm_si B I) (qi_ (fun x M' => ∃ I', M' = mm_si B I' ∧ P x I'))
    refine go_if_eq (tgt := 19) dX11_store_7 (by decide) (fun hc => absurd hc (by decide)) (fun _ => ?_)
    refine go_aload_n dX11_store_10 rfl ?_
    refine go_iconst (v := (-1 : Int32)) rfl dX11_store_11 ?_
    refine go_iload_n dX11_store_12 rfl ?_
    refine go_iconst (v := (1 : Int32)) rfl dX11_store_13 ?_
    refine go_isub dX11_store_14 ?_
    refine go_V (av := [pv_i (-1 : Int32), pv_i (x1 - (1 : Int32))]) (st := []) (ci := 11) ok_X11_manyOf ⟨by decide, by decide⟩ ml_X11_112 rfl (by decide) (fun v hv => by simp only [List.mem_cons, List.not_mem_nil, or_false] at hv; rcases hv with rfl | rfl <;> first | exact pv_1i | exact pv_1r) (Nat.le_of_ble_eq_true rfl) (fun _ h => h) (by decide) rfl RK.1 dX11_store_15 H (fun r M' hq _ => ?_)
    obtain ⟨v2, rfl, I1, rfl, H⟩ := hq
    show go_W mt_X11_store fr_R 18 [some (pv_r m), some (pv_i x1)] [pv_i v2] (mm_si B I1) (qi_ (fun x M' => ∃ I', M' = mm_si B I' ∧ P x I'))
    exact go_iret rfl rfl dX11_store_18 ⟨_, rfl, _, rfl, H⟩
  · replace H := H.2 hc
    refine go_St (av := [pv_i x1, pv_i (1 : Int32), pv_i (7 : Int32)]) (st := []) ok_X11_isIn ⟨by decide, by decide⟩ ml_X11_90 rfl (by decide) (fun v hv => by simp only [List.mem_cons, List.not_mem_nil, or_false] at hv; rcases hv with rfl | rfl | rfl <;> first | exact pv_1i | exact pv_1r) (Nat.le_of_ble_eq_true rfl) (fun _ h => h) dX11_store_4 (rx_isIn_f RK hc) (fun r M' hq _ => ?_)
    obtain ⟨_, rfl, _, rfl, rfl, rfl⟩ := hq
    show go_W mt_X11_store fr_R 7 [some (pv_r m), some (pv_i x1)] [pv_i (0 : Int32)] (mm_si B I) (qi_ (fun x M' => ∃ I', M' = mm_si B I' ∧ P x I'))
    refine go_if_eq (tgt := 19) dX11_store_7 (by decide) (fun _ => ?_) (fun hc => absurd hc (by decide))
    refine go_iload_n dX11_store_19 rfl ?_
    refine go_bipush (v := (13 : Int32)) rfl dX11_store_20 ?_
    refine go_bipush (v := (18 : Int32)) rfl dX11_store_22 ?_
    by_cases hc : ((13 : Int32) ≤ x1 ∧ x1 ≤ (18 : Int32))
    · replace H := H.1 hc
      refine go_St (av := [pv_i x1, pv_i (13 : Int32), pv_i (18 : Int32)]) (st := []) ok_X11_isIn ⟨by decide, by decide⟩ ml_X11_90 rfl (by decide) (fun v hv => by simp only [List.mem_cons, List.not_mem_nil, or_false] at hv; rcases hv with rfl | rfl | rfl <;> first | exact pv_1i | exact pv_1r) (Nat.le_of_ble_eq_true rfl) (fun _ h => h) dX11_store_24 (rx_isIn_t RK hc) (fun r M' hq _ => ?_)
      obtain ⟨_, rfl, _, rfl, rfl, rfl⟩ := hq
      show go_W mt_X11_store fr_R 27 [some (pv_r m), some (pv_i x1)] [pv_i (1 : Int32)] (mm_si B I) (qi_ (fun x M' => ∃ I', M' = mm_si B I' ∧ P x I'))
      refine go_if_eq (tgt := 42) dX11_store_27 (by decide) (fun hc => absurd hc (by decide)) (fun _ => ?_)
      refine go_aload_n dX11_store_30 rfl ?_
      refine go_getRe (k := 0) ⟨by decide, rfl, by decide, Or.inr ⟨_, rfl⟩⟩ RK.1 (rf_r1 RK) fl_X11_7 dX11_store_31 ?_
      refine go_iconst (v := (4 : Int32)) rfl dX11_store_34 ?_
      refine go_iload_n dX11_store_35 rfl ?_
      refine go_iadd dX11_store_36 ?_
      refine go_bipush (v := (13 : Int32)) rfl dX11_store_37 ?_
      refine go_isub dX11_store_39 ?_
      obtain ⟨n3, ⟨hn3, hn3b⟩, H⟩ := H
      refine go_ialdN (j := n3) ⟨by decide, by decide, by decide⟩ (rf_k1 RK) hn3 hn3b dX11_store_40 ?_
      exact go_iret rfl rfl dX11_store_41 ⟨_, rfl, _, rfl, H⟩
    · replace H := H.2 hc
      refine go_St (av := [pv_i x1, pv_i (13 : Int32), pv_i (18 : Int32)]) (st := []) ok_X11_isIn ⟨by decide, by decide⟩ ml_X11_90 rfl (by decide) (fun v hv => by simp only [List.mem_cons, List.not_mem_nil, or_false] at hv; rcases hv with rfl | rfl | rfl <;> first | exact pv_1i | exact pv_1r) (Nat.le_of_ble_eq_true rfl) (fun _ h => h) dX11_store_24 (rx_isIn_f RK hc) (fun r M' hq _ => ?_)
      obtain ⟨_, rfl, _, rfl, rfl, rfl⟩ := hq
      show go_W mt_X11_store fr_R 27 [some (pv_r m), some (pv_i x1)] [pv_i (0 : Int32)] (mm_si B I) (qi_ (fun x M' => ∃ I', M' = mm_si B I' ∧ P x I'))
      refine go_if_eq (tgt := 42) dX11_store_27 (by decide) (fun _ => ?_) (fun hc => absurd hc (by decide))
      refine go_iload_n dX11_store_42 rfl ?_
      by_cases hc0 : x1 = (0 : Int32)
      · replace H := H.1 hc0
        refine go_tabIn (v := (0 : Int32)) (tgt := 108) hc0 (by decide) (by decide) rfl (by decide) dX11_store_43 ?_
        refine go_aload_n dX11_store_108 rfl ?_
        refine go_getRe (k := 0) ⟨by decide, rfl, by decide, Or.inr ⟨_, rfl⟩⟩ RK.1 (rf_r1 RK) fl_X11_7 dX11_store_109 ?_
        refine go_iconst (v := (0 : Int32)) rfl dX11_store_112 ?_
        refine go_ialdN (j := 0) ⟨by decide, by decide, by decide⟩ (rf_k1 RK) rfl (by decide) dX11_store_113 ?_
        exact go_iret rfl rfl dX11_store_114 ⟨_, rfl, _, rfl, H⟩
      replace H := H.2
      by_cases hc8 : x1 = (8 : Int32)
      · replace H := H.1 hc8
        refine go_tabIn (v := (8 : Int32)) (tgt := 115) hc8 (by decide) (by decide) rfl (by decide) dX11_store_43 ?_
        refine go_aload_n dX11_store_115 rfl ?_
        refine go_getRe (k := 0) ⟨by decide, rfl, by decide, Or.inr ⟨_, rfl⟩⟩ RK.1 (rf_r1 RK) fl_X11_7 dX11_store_116 ?_
        refine go_iconst (v := (1 : Int32)) rfl dX11_store_119 ?_
        refine go_ialdN (j := 1) ⟨by decide, by decide, by decide⟩ (rf_k1 RK) rfl (by decide) dX11_store_120 ?_
        exact go_iret rfl rfl dX11_store_121 ⟨_, rfl, _, rfl, H⟩
      replace H := H.2
      by_cases hc9 : x1 = (9 : Int32)
      · replace H := H.1 hc9
        refine go_tabIn (v := (9 : Int32)) (tgt := 122) hc9 (by decide) (by decide) rfl (by decide) dX11_store_43 ?_
        refine go_aload_n dX11_store_122 rfl ?_
        refine go_iconst (v := (-1 : Int32)) rfl dX11_store_123 ?_
        refine go_V (av := [pv_i (-1 : Int32)]) (st := []) (ci := 11) ok_X11_standing ⟨by decide, by decide⟩ ml_X11_115 rfl (by decide) (fun v hv => by simp only [List.mem_cons, List.not_mem_nil, or_false] at hv; rcases hv with rfl <;> first | exact pv_1i | exact pv_1r) (Nat.le_of_ble_eq_true rfl) (fun _ h => h) (by decide) rfl RK.1 dX11_store_124 H (fun r M' hq _ => ?_)
        obtain ⟨v5, rfl, I4, rfl, H⟩ := hq
        show go_W mt_X11_store fr_R 127 [some (pv_r m), some (pv_i x1)] [pv_i v5] (mm_si B I4) (qi_ (fun x M' => ∃ I', M' = mm_si B I' ∧ P x I'))
        exact go_iret rfl rfl dX11_store_127 ⟨_, rfl, _, rfl, H⟩
      replace H := H.2
      by_cases hc10 : x1 = (10 : Int32)
      · replace H := H.1 hc10
        refine go_tabIn (v := (10 : Int32)) (tgt := 128) hc10 (by decide) (by decide) rfl (by decide) dX11_store_43 ?_
        refine go_aload_n dX11_store_128 rfl ?_
        refine go_getI (k := 7) ⟨by decide, rfl, by decide, rfl⟩ RK.1 fl_X11_32 dX11_store_129 ?_
        exact go_iret rfl rfl dX11_store_132 ⟨_, rfl, _, rfl, H⟩
      replace H := H.2
      by_cases hc11 : x1 = (11 : Int32)
      · replace H := H.1 hc11
        refine go_tabIn (v := (11 : Int32)) (tgt := 133) hc11 (by decide) (by decide) rfl (by decide) dX11_store_43 ?_
        refine go_aload_n dX11_store_133 rfl ?_
        refine go_getRe (k := 0) ⟨by decide, rfl, by decide, Or.inr ⟨_, rfl⟩⟩ RK.1 (rf_r1 RK) fl_X11_7 dX11_store_134 ?_
        refine go_iconst (v := (2 : Int32)) rfl dX11_store_137 ?_
        refine go_ialdN (j := 2) ⟨by decide, by decide, by decide⟩ (rf_k1 RK) rfl (by decide) dX11_store_138 ?_
        exact go_iret rfl rfl dX11_store_139 ⟨_, rfl, _, rfl, H⟩
      replace H := H.2
      by_cases hc12 : x1 = (12 : Int32)
      · replace H := H.1 hc12
        refine go_tabIn (v := (12 : Int32)) (tgt := 140) hc12 (by decide) (by decide) rfl (by decide) dX11_store_43 ?_
        refine go_aload_n dX11_store_140 rfl ?_
        refine go_V (av := []) (st := []) (ci := 11) ok_X11_liveMany ⟨by decide, by decide⟩ ml_X11_260 rfl (by decide) (fun v hv => absurd hv List.not_mem_nil) (Nat.le_of_ble_eq_true rfl) (fun _ h => h) (by decide) rfl RK.1 dX11_store_141 H (fun r M' hq _ => ?_)
        obtain ⟨v7, rfl, I6, rfl, H⟩ := hq
        show go_W mt_X11_store fr_R 144 [some (pv_r m), some (pv_i x1)] [pv_i v7] (mm_si B I6) (qi_ (fun x M' => ∃ I', M' = mm_si B I' ∧ P x I'))
        exact go_iret rfl rfl dX11_store_144 ⟨_, rfl, _, rfl, H⟩
      replace H := H.2
      replace H := H ⟨hc0, hc8, hc9, hc10, hc11, hc12⟩
      by_cases hc1 : x1 = (1 : Int32)
      · refine go_tabIn (v := (1 : Int32)) (tgt := 145) hc1 (by decide) (by decide) rfl (by decide) dX11_store_43 ?_
        refine go_iconst (v := (-1 : Int32)) rfl dX11_store_145 ?_
        exact go_iret rfl rfl dX11_store_146 ⟨_, rfl, _, rfl, H⟩
      by_cases hc2 : x1 = (2 : Int32)
      · refine go_tabIn (v := (2 : Int32)) (tgt := 145) hc2 (by decide) (by decide) rfl (by decide) dX11_store_43 ?_
        refine go_iconst (v := (-1 : Int32)) rfl dX11_store_145 ?_
        exact go_iret rfl rfl dX11_store_146 ⟨_, rfl, _, rfl, H⟩
      by_cases hc3 : x1 = (3 : Int32)
      · refine go_tabIn (v := (3 : Int32)) (tgt := 145) hc3 (by decide) (by decide) rfl (by decide) dX11_store_43 ?_
        refine go_iconst (v := (-1 : Int32)) rfl dX11_store_145 ?_
        exact go_iret rfl rfl dX11_store_146 ⟨_, rfl, _, rfl, H⟩
      by_cases hc4 : x1 = (4 : Int32)
      · refine go_tabIn (v := (4 : Int32)) (tgt := 145) hc4 (by decide) (by decide) rfl (by decide) dX11_store_43 ?_
        refine go_iconst (v := (-1 : Int32)) rfl dX11_store_145 ?_
        exact go_iret rfl rfl dX11_store_146 ⟨_, rfl, _, rfl, H⟩
      by_cases hc5 : x1 = (5 : Int32)
      · refine go_tabIn (v := (5 : Int32)) (tgt := 145) hc5 (by decide) (by decide) rfl (by decide) dX11_store_43 ?_
        refine go_iconst (v := (-1 : Int32)) rfl dX11_store_145 ?_
        exact go_iret rfl rfl dX11_store_146 ⟨_, rfl, _, rfl, H⟩
      by_cases hc6 : x1 = (6 : Int32)
      · refine go_tabIn (v := (6 : Int32)) (tgt := 145) hc6 (by decide) (by decide) rfl (by decide) dX11_store_43 ?_
        refine go_iconst (v := (-1 : Int32)) rfl dX11_store_145 ?_
        exact go_iret rfl rfl dX11_store_146 ⟨_, rfl, _, rfl, H⟩
      by_cases hc7 : x1 = (7 : Int32)
      · refine go_tabIn (v := (7 : Int32)) (tgt := 145) hc7 (by decide) (by decide) rfl (by decide) dX11_store_43 ?_
        refine go_iconst (v := (-1 : Int32)) rfl dX11_store_145 ?_
        exact go_iret rfl rfl dX11_store_146 ⟨_, rfl, _, rfl, H⟩
      have he0 : (x1).toInt ≠ 0 := fun h => hc0 (Int32.toInt_inj.mp (h.trans (by decide)))
      have he1 : (x1).toInt ≠ 1 := fun h => hc1 (Int32.toInt_inj.mp (h.trans (by decide)))
      have he2 : (x1).toInt ≠ 2 := fun h => hc2 (Int32.toInt_inj.mp (h.trans (by decide)))
      have he3 : (x1).toInt ≠ 3 := fun h => hc3 (Int32.toInt_inj.mp (h.trans (by decide)))
      have he4 : (x1).toInt ≠ 4 := fun h => hc4 (Int32.toInt_inj.mp (h.trans (by decide)))
      have he5 : (x1).toInt ≠ 5 := fun h => hc5 (Int32.toInt_inj.mp (h.trans (by decide)))
      have he6 : (x1).toInt ≠ 6 := fun h => hc6 (Int32.toInt_inj.mp (h.trans (by decide)))
      have he7 : (x1).toInt ≠ 7 := fun h => hc7 (Int32.toInt_inj.mp (h.trans (by decide)))
      have he8 : (x1).toInt ≠ 8 := fun h => hc8 (Int32.toInt_inj.mp (h.trans (by decide)))
      have he9 : (x1).toInt ≠ 9 := fun h => hc9 (Int32.toInt_inj.mp (h.trans (by decide)))
      have he10 : (x1).toInt ≠ 10 := fun h => hc10 (Int32.toInt_inj.mp (h.trans (by decide)))
      have he11 : (x1).toInt ≠ 11 := fun h => hc11 (Int32.toInt_inj.mp (h.trans (by decide)))
      have he12 : (x1).toInt ≠ 12 := fun h => hc12 (Int32.toInt_inj.mp (h.trans (by decide)))
      refine go_tabOut (tgt := 145) (by omega) (by decide) dX11_store_43 ?_
      refine go_iconst (v := (-1 : Int32)) rfl dX11_store_145 ?_
      exact go_iret rfl rfl dX11_store_146 ⟨_, rfl, _, rfl, H⟩
