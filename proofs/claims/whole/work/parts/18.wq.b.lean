/-! the walks of the reference, by program (wip/whole/walk2.py) -/
set_option maxRecDepth 20000 in
theorem wq_X11_frees_0 {B : mm_T} {I : Nat → Nat → Int32} {m : Nat} (RK : rf_ok B m) {x1 : Int32} {P : (Nat → Nat → Int32) → Prop} (H : ∃ n1, (x1 = nI n1 ∧ n1 < 400) ∧ (∀ I2, I2 = i2_u I (m + 1) (200 + 14 * n1 + 6) (4 : Int32) → rw_v mt_X11_frees 10 [some (pv_r m), some (pv_i x1), some (pv_i (0 : Int32))] [] B I2 P)) : rw_v mt_X11_frees 0 [some (pv_r m), some (pv_i x1), none] [] B I P := by
  refine go_aload_n dX11_frees_0 rfl ?_
  refine go_iload_n dX11_frees_1 rfl ?_
  refine go_bipush (v := (6 : Int32)) rfl dX11_frees_2 ?_
  refine go_iconst (v := (4 : Int32)) rfl dX11_frees_4 ?_
  obtain ⟨n1, ⟨hn1, hn1b⟩, H⟩ := H
  refine go_V (av := [pv_i x1, pv_i (6 : Int32), pv_i (4 : Int32)]) (st := []) (ci := 11) ok_X11_is ⟨by decide, by decide⟩ ml_X11_121 rfl (by decide) (fun v hv => by simp only [List.mem_cons, List.not_mem_nil, or_false] at hv; rcases hv with rfl | rfl | rfl <;> first | exact pv_1i | exact pv_1r) (Nat.le_of_ble_eq_true rfl) (fun _ h => h) (by decide) rfl RK.1 dX11_frees_5 (rx_is RK hn1 rfl hn1b (by decide)) (fun r M' hq _ => ?_)
  obtain ⟨rfl, _, rfl, rfl⟩ := hq
  show go_W mt_X11_frees fr_R 8 [some (pv_r m), some (pv_i x1), none] [] (mm_si B (i2_u I (m + 1) (200 + 14 * n1 + 6) (4 : Int32))) (qv_ (fun M' => ∃ I', M' = mm_si B I' ∧ P I'))
  obtain ⟨I2, hI2⟩ : ∃ I', I' = i2_u I (m + 1) (200 + 14 * n1 + 6) (4 : Int32) := ⟨_, rfl⟩
  rw [← hI2]
  replace H := H I2 hI2
  refine go_iconst (v := (0 : Int32)) rfl dX11_frees_8 ?_
  refine go_istore_n (by decide) dX11_frees_9 ?_
  show go_W mt_X11_frees fr_R 10 [some (pv_r m), some (pv_i x1), some (pv_i (0 : Int32))] [] (mm_si B I2) (qv_ (fun M' => ∃ I', M' = mm_si B I' ∧ P I'))
  exact H
set_option maxRecDepth 20000 in
theorem wq_X11_frees_10 {B : mm_T} {I : Nat → Nat → Int32} {m : Nat} (RK : rf_ok B m) {x1 x2 : Int32} {P : (Nat → Nat → Int32) → Prop} (H : (((I (m + 1) 1 ≤ x2) → P I) ∧ ((¬ I (m + 1) 1 ≤ x2) → ∃ n1, (x2 = nI n1 ∧ n1 < 400) ∧ ((((¬ I (m + 1) (200 + 14 * n1 + 6) = (1 : Int32)) → rw_v mt_X11_frees 10 [some (pv_r m), some (pv_i x1), some (pv_i (nI (n1 + 1)))] [] B I P) ∧ ((I (m + 1) (200 + 14 * n1 + 6) = (1 : Int32)) → (((I (m + 1) (200 + 14 * n1 + 4) = x1) → rs_v mt_X11_waitsNow [pv_r m, pv_i x2] B I (fun I2 => rs_v mt_X11_writes [pv_r m, pv_i (5 : Int32), pv_i x2, pv_i (-1 : Int32), pv_i (0 : Int32)] B I2 (fun I3 => rw_v mt_X11_frees 10 [some (pv_r m), some (pv_i x1), some (pv_i (nI (n1 + 1)))] [] B I3 P))) ∧ ((¬ I (m + 1) (200 + 14 * n1 + 4) = x1) → rw_v mt_X11_frees 10 [some (pv_r m), some (pv_i x1), some (pv_i (nI (n1 + 1)))] [] B I P)))))))) : rw_v mt_X11_frees 10 [some (pv_r m), some (pv_i x1), some (pv_i x2)] [] B I P := by
  refine go_iload_n dX11_frees_10 rfl ?_
  refine go_aload_n dX11_frees_11 rfl ?_
  refine go_getRe (k := 0) ⟨by decide, rfl, by decide, Or.inr ⟨_, rfl⟩⟩ RK.1 (rf_r1 RK) fl_X11_7 dX11_frees_12 ?_
  refine go_iconst (v := (1 : Int32)) rfl dX11_frees_15 ?_
  refine go_ialdN (j := 1) ⟨by decide, by decide, by decide⟩ (rf_k1 RK) rfl (by decide) dX11_frees_16 ?_
  refine go_icmp_ge (tgt := 63) dX11_frees_17 (by decide) (fun hc => ?_) (fun hc => ?_)
  · replace H := H.1 hc
    exact go_vret rfl dX11_frees_63 ⟨rfl, _, rfl, H⟩
  · replace H := H.2 hc
    refine go_aload_n dX11_frees_20 rfl ?_
    refine go_iload_n dX11_frees_21 rfl ?_
    refine go_bipush (v := (6 : Int32)) rfl dX11_frees_22 ?_
    obtain ⟨n1, ⟨hn1, hn1b⟩, H⟩ := H
    refine go_V (av := [pv_i x2, pv_i (6 : Int32)]) (st := []) (ci := 11) ok_X11_of ⟨by decide, by decide⟩ ml_X11_94 rfl (by decide) (fun v hv => by simp only [List.mem_cons, List.not_mem_nil, or_false] at hv; rcases hv with rfl | rfl <;> first | exact pv_1i | exact pv_1r) (Nat.le_of_ble_eq_true rfl) (fun _ h => h) (by decide) rfl RK.1 dX11_frees_24 (rx_of RK hn1 rfl hn1b (by decide)) (fun r M' hq _ => ?_)
    obtain ⟨_, rfl, _, rfl, rfl, rfl⟩ := hq
    show go_W mt_X11_frees fr_R 27 [some (pv_r m), some (pv_i x1), some (pv_i x2)] [pv_i (I (m + 1) (200 + 14 * n1 + 6))] (mm_si B I) (qv_ (fun M' => ∃ I', M' = mm_si B I' ∧ P I'))
    refine go_iconst (v := (1 : Int32)) rfl dX11_frees_27 ?_
    refine go_icmp_ne (tgt := 57) dX11_frees_28 (by decide) (fun hc => ?_) (fun hc => ?_)
    · replace H := H.1 hc
      refine go_iincN (n := n1) (k := 1) hn1 (by decide) rfl rfl dX11_frees_57 ?_
      show go_W mt_X11_frees fr_R 60 [some (pv_r m), some (pv_i x1), some (pv_i (nI (n1 + 1)))] [] (mm_si B I) (qv_ (fun M' => ∃ I', M' = mm_si B I' ∧ P I'))
      refine go_goto (tgt := 10) dX11_frees_60 (by decide) ?_
      exact H
    · replace H := H.2 hc
      refine go_aload_n dX11_frees_31 rfl ?_
      refine go_iload_n dX11_frees_32 rfl ?_
      refine go_iconst (v := (4 : Int32)) rfl dX11_frees_33 ?_
      refine go_V (av := [pv_i x2, pv_i (4 : Int32)]) (st := []) (ci := 11) ok_X11_of ⟨by decide, by decide⟩ ml_X11_94 rfl (by decide) (fun v hv => by simp only [List.mem_cons, List.not_mem_nil, or_false] at hv; rcases hv with rfl | rfl <;> first | exact pv_1i | exact pv_1r) (Nat.le_of_ble_eq_true rfl) (fun _ h => h) (by decide) rfl RK.1 dX11_frees_34 (rx_of RK hn1 rfl (by omega) (by decide)) (fun r M' hq _ => ?_)
      obtain ⟨_, rfl, _, rfl, rfl, rfl⟩ := hq
      show go_W mt_X11_frees fr_R 37 [some (pv_r m), some (pv_i x1), some (pv_i x2)] [pv_i (I (m + 1) (200 + 14 * n1 + 4))] (mm_si B I) (qv_ (fun M' => ∃ I', M' = mm_si B I' ∧ P I'))
      refine go_iload_n dX11_frees_37 rfl ?_
      refine go_icmp_eq (tgt := 44) dX11_frees_38 (by decide) (fun hc => ?_) (fun hc => ?_)
      · replace H := H.1 hc
        refine go_aload_n dX11_frees_44 rfl ?_
        refine go_iload_n dX11_frees_45 rfl ?_
        refine go_V (av := [pv_i x2]) (st := []) (ci := 11) ok_X11_waitsNow ⟨by decide, by decide⟩ ml_X11_146 rfl (by decide) (fun v hv => by simp only [List.mem_cons, List.not_mem_nil, or_false] at hv; rcases hv with rfl <;> first | exact pv_1i | exact pv_1r) (Nat.le_of_ble_eq_true rfl) (fun _ h => h) (by decide) rfl RK.1 dX11_frees_46 H (fun r M' hq _ => ?_)
        obtain ⟨rfl, I2, rfl, H⟩ := hq
        show go_W mt_X11_frees fr_R 49 [some (pv_r m), some (pv_i x1), some (pv_i x2)] [] (mm_si B I2) (qv_ (fun M' => ∃ I', M' = mm_si B I' ∧ P I'))
        refine go_aload_n dX11_frees_49 rfl ?_
        refine go_iconst (v := (5 : Int32)) rfl dX11_frees_50 ?_
        refine go_iload_n dX11_frees_51 rfl ?_
        refine go_iconst (v := (-1 : Int32)) rfl dX11_frees_52 ?_
        refine go_iconst (v := (0 : Int32)) rfl dX11_frees_53 ?_
        refine go_V (av := [pv_i (5 : Int32), pv_i x2, pv_i (-1 : Int32), pv_i (0 : Int32)]) (st := []) (ci := 11) ok_X11_writes ⟨by decide, by decide⟩ ml_X11_125 rfl (by decide) (fun v hv => by simp only [List.mem_cons, List.not_mem_nil, or_false] at hv; rcases hv with rfl | rfl | rfl | rfl <;> first | exact pv_1i | exact pv_1r) (Nat.le_of_ble_eq_true rfl) (fun _ h => h) (by decide) rfl RK.1 dX11_frees_54 H (fun r M' hq _ => ?_)
        obtain ⟨rfl, I3, rfl, H⟩ := hq
        show go_W mt_X11_frees fr_R 57 [some (pv_r m), some (pv_i x1), some (pv_i x2)] [] (mm_si B I3) (qv_ (fun M' => ∃ I', M' = mm_si B I' ∧ P I'))
        refine go_iincN (n := n1) (k := 1) hn1 (by decide) rfl rfl dX11_frees_57 ?_
        show go_W mt_X11_frees fr_R 60 [some (pv_r m), some (pv_i x1), some (pv_i (nI (n1 + 1)))] [] (mm_si B I3) (qv_ (fun M' => ∃ I', M' = mm_si B I' ∧ P I'))
        refine go_goto (tgt := 10) dX11_frees_60 (by decide) ?_
        exact H
      · replace H := H.2 hc
        refine go_goto (tgt := 57) dX11_frees_41 (by decide) ?_
        refine go_iincN (n := n1) (k := 1) hn1 (by decide) rfl rfl dX11_frees_57 ?_
        show go_W mt_X11_frees fr_R 60 [some (pv_r m), some (pv_i x1), some (pv_i (nI (n1 + 1)))] [] (mm_si B I) (qv_ (fun M' => ∃ I', M' = mm_si B I' ∧ P I'))
        refine go_goto (tgt := 10) dX11_frees_60 (by decide) ?_
        exact H
set_option maxRecDepth 20000 in
theorem wq_X11_failsNow_0 {B : mm_T} {I : Nat → Nat → Int32} {m : Nat} (RK : rf_ok B m) {x1 x2 : Int32} {P : Int32 → (Nat → Nat → Int32) → Prop} (H : ∃ n1, (x1 = nI n1 ∧ n1 < 400) ∧ (∀ I2, I2 = i2_u I (m + 1) (200 + 14 * n1 + 7) (I (m + 1) (200 + 14 * n1 + 7) + (1 : Int32)) → ∃ n3, (I (m + 1) (200 + 14 * n1 + 9) = nI n3 ∧ n3 < 6) ∧ (∀ I4, I4 = i2_u I2 (m + 1) ((60 + 4 * n3) + 3) (I2 (m + 1) ((60 + 4 * n3) + 3) + (1 : Int32)) → ∀ I5, I5 = i2_u I4 m 9 (I4 m 9 + (1 : Int32)) → rs_v mt_X11_leavesWorker [pv_r m, pv_i x1] B I5 (fun I6 => rs_v mt_X11_writes [pv_r m, pv_i (3 : Int32), pv_i x1, pv_i (I (m + 1) (200 + 14 * n1 + 9)), pv_i x2] B I6 (fun I7 => rs_v mt_X11_blames [pv_r m, pv_i x1, pv_i x2] B I7 (fun I8 => (((I8 (m + 1) 7 ≤ I8 (m + 1) (200 + 14 * n1 + 7)) → (((¬ I8 m 8 = 0) → rs_v mt_X11_goesAside [pv_r m, pv_i x1, pv_i x2] B I8 (fun I9 => rs_i mt_X11_drags [pv_r m, pv_i x1, pv_i (100 : Int32)] B I9 (fun v11 I10 => rs_v mt_X11_closes [pv_r m] B I10 (fun I12 => P (5 : Int32) I12)))) ∧ ((I8 m 8 = 0) → ∃ n13, (I8 (m + 1) (200 + 14 * n1 + 3) = nI n13 ∧ n13 < 10000) ∧ (∀ I14, I14 = i2_u I8 (m + 3) n13 (I8 (m + 3) n13 + (1 : Int32)) → rs_v mt_X11_goesAside [pv_r m, pv_i x1, pv_i x2] B I14 (fun I15 => rs_i mt_X11_drags [pv_r m, pv_i x1, pv_i (100 : Int32)] B I15 (fun v17 I16 => rs_v mt_X11_closes [pv_r m] B I16 (fun I18 => P (5 : Int32) I18))))))) ∧ ((¬ I8 (m + 1) 7 ≤ I8 (m + 1) (200 + 14 * n1 + 7)) → ∀ I19, I19 = i2_u I8 (m + 1) (200 + 14 * n1 + 6) (2 : Int32) → ∀ I20, I20 = i2_u I19 (m + 1) (200 + 14 * n1 + 8) (I19 (m + 1) 0 + (I19 (m + 1) 6 <<< ((I19 (m + 1) (200 + 14 * n1 + 7) - (1 : Int32)) &&& 31))) → P (2 : Int32) I20)))))))) : rw_i mt_X11_failsNow 0 [some (pv_r m), some (pv_i x1), some (pv_i x2), none] [] B I P := by
  refine go_aload_n dX11_failsNow_0 rfl ?_
  refine go_iload_n dX11_failsNow_1 rfl ?_
  refine go_bipush (v := (9 : Int32)) rfl dX11_failsNow_2 ?_
  obtain ⟨n1, ⟨hn1, hn1b⟩, H⟩ := H
  refine go_V (av := [pv_i x1, pv_i (9 : Int32)]) (st := []) (ci := 11) ok_X11_of ⟨by decide, by decide⟩ ml_X11_94 rfl (by decide) (fun v hv => by simp only [List.mem_cons, List.not_mem_nil, or_false] at hv; rcases hv with rfl | rfl <;> first | exact pv_1i | exact pv_1r) (Nat.le_of_ble_eq_true rfl) (fun _ h => h) (by decide) rfl RK.1 dX11_failsNow_4 (rx_of RK hn1 rfl hn1b (by decide)) (fun r M' hq _ => ?_)
  obtain ⟨_, rfl, _, rfl, rfl, rfl⟩ := hq
  show go_W mt_X11_failsNow fr_R 7 [some (pv_r m), some (pv_i x1), some (pv_i x2), none] [pv_i (I (m + 1) (200 + 14 * n1 + 9))] (mm_si B I) (qi_ (fun x M' => ∃ I', M' = mm_si B I' ∧ P x I'))
  refine go_istore_n (by decide) dX11_failsNow_7 ?_
  show go_W mt_X11_failsNow fr_R 8 [some (pv_r m), some (pv_i x1), some (pv_i x2), some (pv_i (I (m + 1) (200 + 14 * n1 + 9)))] [] (mm_si B I) (qi_ (fun x M' => ∃ I', M' = mm_si B I' ∧ P x I'))
  refine go_aload_n dX11_failsNow_8 rfl ?_
  refine go_iload_n dX11_failsNow_9 rfl ?_
  refine go_bipush (v := (7 : Int32)) rfl dX11_failsNow_10 ?_
  refine go_aload_n dX11_failsNow_12 rfl ?_
  refine go_iload_n dX11_failsNow_13 rfl ?_
  refine go_bipush (v := (7 : Int32)) rfl dX11_failsNow_14 ?_
  refine go_V (av := [pv_i x1, pv_i (7 : Int32)]) (st := [pv_i (7 : Int32), pv_i x1, pv_r m]) (ci := 11) ok_X11_of ⟨by decide, by decide⟩ ml_X11_94 rfl (by decide) (fun v hv => by simp only [List.mem_cons, List.not_mem_nil, or_false] at hv; rcases hv with rfl | rfl <;> first | exact pv_1i | exact pv_1r) (Nat.le_of_ble_eq_true rfl) (fun _ h => h) (by decide) rfl RK.1 dX11_failsNow_16 (rx_of RK hn1 rfl (by omega) (by decide)) (fun r M' hq _ => ?_)
  obtain ⟨_, rfl, _, rfl, rfl, rfl⟩ := hq
  show go_W mt_X11_failsNow fr_R 19 [some (pv_r m), some (pv_i x1), some (pv_i x2), some (pv_i (I (m + 1) (200 + 14 * n1 + 9)))] [pv_i (I (m + 1) (200 + 14 * n1 + 7)), pv_i (7 : Int32), pv_i x1, pv_r m] (mm_si B I) (qi_ (fun x M' => ∃ I', M' = mm_si B I' ∧ P x I'))
  refine go_iconst (v := (1 : Int32)) rfl dX11_failsNow_19 ?_
  refine go_iadd dX11_failsNow_20 ?_
  refine go_V (av := [pv_i x1, pv_i (7 : Int32), pv_i (I (m + 1) (200 + 14 * n1 + 7) + (1 : Int32))]) (st := []) (ci := 11) ok_X11_is ⟨by decide, by decide⟩ ml_X11_121 rfl (by decide) (fun v hv => by simp only [List.mem_cons, List.not_mem_nil, or_false] at hv; rcases hv with rfl | rfl | rfl <;> first | exact pv_1i | exact pv_1r) (Nat.le_of_ble_eq_true rfl) (fun _ h => h) (by decide) rfl RK.1 dX11_failsNow_21 (rx_is RK hn1 rfl (by omega) (by decide)) (fun r M' hq _ => ?_)
  obtain ⟨rfl, _, rfl, rfl⟩ := hq
  show go_W mt_X11_failsNow fr_R 24 [some (pv_r m), some (pv_i x1), some (pv_i x2), some (pv_i (I (m + 1) (200 + 14 * n1 + 9)))] [] (mm_si B (i2_u I (m + 1) (200 + 14 * n1 + 7) (I (m + 1) (200 + 14 * n1 + 7) + (1 : Int32)))) (qi_ (fun x M' => ∃ I', M' = mm_si B I' ∧ P x I'))
  obtain ⟨I2, hI2⟩ : ∃ I', I' = i2_u I (m + 1) (200 + 14 * n1 + 7) (I (m + 1) (200 + 14 * n1 + 7) + (1 : Int32)) := ⟨_, rfl⟩
  rw [← hI2]
  replace H := H I2 hI2
  refine go_aload_n dX11_failsNow_24 rfl ?_
  refine go_getRe (k := 0) ⟨by decide, rfl, by decide, Or.inr ⟨_, rfl⟩⟩ RK.1 (rf_r1 RK) fl_X11_7 dX11_failsNow_25 ?_
  refine go_iload_n dX11_failsNow_28 rfl ?_
  obtain ⟨n3, ⟨hn3, hn3b⟩, H⟩ := H
  refine go_St (av := [pv_i (I (m + 1) (200 + 14 * n1 + 9))]) (st := [pv_r (m + 1)]) ok_X11_workerAt ⟨by decide, by decide⟩ ml_X11_84 rfl (by decide) (fun v hv => by simp only [List.mem_cons, List.not_mem_nil, or_false] at hv; rcases hv with rfl <;> first | exact pv_1i | exact pv_1r) (Nat.le_of_ble_eq_true rfl) (fun _ h => h) dX11_failsNow_29 (rx_workerAt RK hn3) (fun r M' hq _ => ?_)
  obtain ⟨_, rfl, _, rfl, rfl, rfl⟩ := hq
  show go_W mt_X11_failsNow fr_R 32 [some (pv_r m), some (pv_i x1), some (pv_i x2), some (pv_i (I (m + 1) (200 + 14 * n1 + 9)))] [pv_i (nI (60 + 4 * n3)), pv_r (m + 1)] (mm_si B I2) (qi_ (fun x M' => ∃ I', M' = mm_si B I' ∧ P x I'))
  refine go_iconst (v := (3 : Int32)) rfl dX11_failsNow_32 ?_
  refine go_iadd dX11_failsNow_33 ?_
  refine go_dup2 pv_1i pv_1r dX11_failsNow_34 ?_
  refine go_ialdN (j := ((60 + 4 * n3) + 3)) ⟨by decide, by decide, by decide⟩ (rf_k1 RK) (nI_ae rfl rfl) (by omega) dX11_failsNow_35 ?_
  refine go_iconst (v := (1 : Int32)) rfl dX11_failsNow_36 ?_
  refine go_iadd dX11_failsNow_37 ?_
  refine go_iastN (j := ((60 + 4 * n3) + 3)) ⟨by decide, by decide, by decide⟩ (rf_k1 RK) rfl (nI_ae rfl rfl) (by omega) dX11_failsNow_38 ?_
  show go_W mt_X11_failsNow fr_R 39 [some (pv_r m), some (pv_i x1), some (pv_i x2), some (pv_i (I (m + 1) (200 + 14 * n1 + 9)))] [] (mm_si B (i2_u I2 (m + 1) ((60 + 4 * n3) + 3) (I2 (m + 1) ((60 + 4 * n3) + 3) + (1 : Int32)))) (qi_ (fun x M' => ∃ I', M' = mm_si B I' ∧ P x I'))
  obtain ⟨I4, hI4⟩ : ∃ I', I' = i2_u I2 (m + 1) ((60 + 4 * n3) + 3) (I2 (m + 1) ((60 + 4 * n3) + 3) + (1 : Int32)) := ⟨_, rfl⟩
  rw [← hI4]
  replace H := H I4 hI4
  refine go_aload_n dX11_failsNow_39 rfl ?_
  refine go_dup pv_1r dX11_failsNow_40 ?_
  refine go_getI (k := 9) ⟨by decide, rfl, by decide, rfl⟩ RK.1 fl_X11_39 dX11_failsNow_41 ?_
  refine go_iconst (v := (1 : Int32)) rfl dX11_failsNow_44 ?_
  refine go_iadd dX11_failsNow_45 ?_
  refine go_putI (k := 9) ⟨by decide, rfl, by decide, rfl⟩ RK.1 rfl (Or.inl rfl) fl_X11_39 dX11_failsNow_46 ?_
  show go_W mt_X11_failsNow fr_R 49 [some (pv_r m), some (pv_i x1), some (pv_i x2), some (pv_i (I (m + 1) (200 + 14 * n1 + 9)))] [] (mm_si B (i2_u I4 m 9 (I4 m 9 + (1 : Int32)))) (qi_ (fun x M' => ∃ I', M' = mm_si B I' ∧ P x I'))
  obtain ⟨I5, hI5⟩ : ∃ I', I' = i2_u I4 m 9 (I4 m 9 + (1 : Int32)) := ⟨_, rfl⟩
  rw [← hI5]
  replace H := H I5 hI5
  refine go_aload_n dX11_failsNow_49 rfl ?_
  refine go_iload_n dX11_failsNow_50 rfl ?_
  refine go_V (av := [pv_i x1]) (st := []) (ci := 11) ok_X11_leavesWorker ⟨by decide, by decide⟩ ml_X11_136 rfl (by decide) (fun v hv => by simp only [List.mem_cons, List.not_mem_nil, or_false] at hv; rcases hv with rfl <;> first | exact pv_1i | exact pv_1r) (Nat.le_of_ble_eq_true rfl) (fun _ h => h) (by decide) rfl RK.1 dX11_failsNow_51 H (fun r M' hq _ => ?_)
  obtain ⟨rfl, I6, rfl, H⟩ := hq
  show go_W mt_X11_failsNow fr_R 54 [some (pv_r m), some (pv_i x1), some (pv_i x2), some (pv_i (I (m + 1) (200 + 14 * n1 + 9)))] [] (mm_si B I6) (qi_ (fun x M' => ∃ I', M' = mm_si B I' ∧ P x I'))
  refine go_aload_n dX11_failsNow_54 rfl ?_
  refine go_iconst (v := (3 : Int32)) rfl dX11_failsNow_55 ?_
  refine go_iload_n dX11_failsNow_56 rfl ?_
  refine go_iload_n dX11_failsNow_57 rfl ?_
  refine go_iload_n dX11_failsNow_58 rfl ?_
  refine go_V (av := [pv_i (3 : Int32), pv_i x1, pv_i (I (m + 1) (200 + 14 * n1 + 9)), pv_i x2]) (st := []) (ci := 11) ok_X11_writes ⟨by decide, by decide⟩ ml_X11_125 rfl (by decide) (fun v hv => by simp only [List.mem_cons, List.not_mem_nil, or_false] at hv; rcases hv with rfl | rfl | rfl | rfl <;> first | exact pv_1i | exact pv_1r) (Nat.le_of_ble_eq_true rfl) (fun _ h => h) (by decide) rfl RK.1 dX11_failsNow_59 H (fun r M' hq _ => ?_)
  obtain ⟨rfl, I7, rfl, H⟩ := hq
  show go_W mt_X11_failsNow fr_R 62 [some (pv_r m), some (pv_i x1), some (pv_i x2), some (pv_i (I (m + 1) (200 + 14 * n1 + 9)))] [] (mm_si B I7) (qi_ (fun x M' => ∃ I', M' = mm_si B I' ∧ P x I'))
  refine go_aload_n dX11_failsNow_62 rfl ?_
  refine go_iload_n dX11_failsNow_63 rfl ?_
  refine go_iload_n dX11_failsNow_64 rfl ?_
  refine go_V (av := [pv_i x1, pv_i x2]) (st := []) (ci := 11) ok_X11_blames ⟨by decide, by decide⟩ ml_X11_129 rfl (by decide) (fun v hv => by simp only [List.mem_cons, List.not_mem_nil, or_false] at hv; rcases hv with rfl | rfl <;> first | exact pv_1i | exact pv_1r) (Nat.le_of_ble_eq_true rfl) (fun _ h => h) (by decide) rfl RK.1 dX11_failsNow_65 H (fun r M' hq _ => ?_)
  obtain ⟨rfl, I8, rfl, H⟩ := hq
  show go_W mt_X11_failsNow fr_R 68 [some (pv_r m), some (pv_i x1), some (pv_i x2), some (pv_i (I (m + 1) (200 + 14 * n1 + 9)))] [] (mm_si B I8) (qi_ (fun x M' => ∃ I', M' = mm_si B I' ∧ P x I'))
  refine go_aload_n dX11_failsNow_68 rfl ?_
  refine go_iload_n dX11_failsNow_69 rfl ?_
  refine go_bipush (v := (7 : Int32)) rfl dX11_failsNow_70 ?_
  refine go_V (av := [pv_i x1, pv_i (7 : Int32)]) (st := []) (ci := 11) ok_X11_of ⟨by decide, by decide⟩ ml_X11_94 rfl (by decide) (fun v hv => by simp only [List.mem_cons, List.not_mem_nil, or_false] at hv; rcases hv with rfl | rfl <;> first | exact pv_1i | exact pv_1r) (Nat.le_of_ble_eq_true rfl) (fun _ h => h) (by decide) rfl RK.1 dX11_failsNow_72 (rx_of RK hn1 rfl (by omega) (by decide)) (fun r M' hq _ => ?_)
  obtain ⟨_, rfl, _, rfl, rfl, rfl⟩ := hq
  show go_W mt_X11_failsNow fr_R 75 [some (pv_r m), some (pv_i x1), some (pv_i x2), some (pv_i (I (m + 1) (200 + 14 * n1 + 9)))] [pv_i (I8 (m + 1) (200 + 14 * n1 + 7))] (mm_si B I8) (qi_ (fun x M' => ∃ I', M' = mm_si B I' ∧ P x I'))
  refine go_aload_n dX11_failsNow_75 rfl ?_
  refine go_getRe (k := 0) ⟨by decide, rfl, by decide, Or.inr ⟨_, rfl⟩⟩ RK.1 (rf_r1 RK) fl_X11_7 dX11_failsNow_76 ?_
  refine go_bipush (v := (7 : Int32)) rfl dX11_failsNow_79 ?_
  refine go_ialdN (j := 7) ⟨by decide, by decide, by decide⟩ (rf_k1 RK) rfl (by decide) dX11_failsNow_81 ?_
  refine go_icmp_ge (tgt := 126) dX11_failsNow_82 (by decide) (fun hc => ?_) (fun hc => ?_)
  · replace H := H.1 hc
    refine go_aload_n dX11_failsNow_126 rfl ?_
    refine go_getZ (k := 8) ⟨by decide, rfl, by decide, rfl⟩ RK.1 fl_X11_35 dX11_failsNow_127 ?_
    refine go_if_ne (tgt := 148) dX11_failsNow_130 (by decide) (fun hc => ?_) (fun hc => ?_)
    · replace H := H.1 hc
      refine go_aload_n dX11_failsNow_148 rfl ?_
      refine go_iload_n dX11_failsNow_149 rfl ?_
      refine go_iload_n dX11_failsNow_150 rfl ?_
      refine go_V (av := [pv_i x1, pv_i x2]) (st := []) (ci := 11) ok_X11_goesAside ⟨by decide, by decide⟩ ml_X11_133 rfl (by decide) (fun v hv => by simp only [List.mem_cons, List.not_mem_nil, or_false] at hv; rcases hv with rfl | rfl <;> first | exact pv_1i | exact pv_1r) (Nat.le_of_ble_eq_true rfl) (fun _ h => h) (by decide) rfl RK.1 dX11_failsNow_151 H (fun r M' hq _ => ?_)
      obtain ⟨rfl, I9, rfl, H⟩ := hq
      show go_W mt_X11_failsNow fr_R 154 [some (pv_r m), some (pv_i x1), some (pv_i x2), some (pv_i (I (m + 1) (200 + 14 * n1 + 9)))] [] (mm_si B I9) (qi_ (fun x M' => ∃ I', M' = mm_si B I' ∧ P x I'))
      refine go_aload_n dX11_failsNow_154 rfl ?_
      refine go_iload_n dX11_failsNow_155 rfl ?_
      refine go_bipush (v := (100 : Int32)) rfl dX11_failsNow_156 ?_
      refine go_V (av := [pv_i x1, pv_i (100 : Int32)]) (st := []) (ci := 11) ok_X11_drags ⟨by decide, by decide⟩ ml_X11_149 rfl (by decide) (fun v hv => by simp only [List.mem_cons, List.not_mem_nil, or_false] at hv; rcases hv with rfl | rfl <;> first | exact pv_1i | exact pv_1r) (Nat.le_of_ble_eq_true rfl) (fun _ h => h) (by decide) rfl RK.1 dX11_failsNow_158 H (fun r M' hq _ => ?_)
      obtain ⟨v11, rfl, I10, rfl, H⟩ := hq
      show go_W mt_X11_failsNow fr_R 161 [some (pv_r m), some (pv_i x1), some (pv_i x2), some (pv_i (I (m + 1) (200 + 14 * n1 + 9)))] [pv_i v11] (mm_si B I10) (qi_ (fun x M' => ∃ I', M' = mm_si B I' ∧ P x I'))
      refine go_pop pv_1i dX11_failsNow_161 ?_
      refine go_aload_n dX11_failsNow_162 rfl ?_
      refine go_V (av := []) (st := []) (ci := 11) ok_X11_closes ⟨by decide, by decide⟩ ml_X11_143 rfl (by decide) (fun v hv => absurd hv List.not_mem_nil) (Nat.le_of_ble_eq_true rfl) (fun _ h => h) (by decide) rfl RK.1 dX11_failsNow_163 H (fun r M' hq _ => ?_)
      obtain ⟨rfl, I12, rfl, H⟩ := hq
      show go_W mt_X11_failsNow fr_R 166 [some (pv_r m), some (pv_i x1), some (pv_i x2), some (pv_i (I (m + 1) (200 + 14 * n1 + 9)))] [] (mm_si B I12) (qi_ (fun x M' => ∃ I', M' = mm_si B I' ∧ P x I'))
      refine go_iconst (v := (5 : Int32)) rfl dX11_failsNow_166 ?_
      exact go_iret rfl rfl dX11_failsNow_167 ⟨_, rfl, _, rfl, H⟩
    · replace H := H.2 hc
      refine go_aload_n dX11_failsNow_133 rfl ?_
      refine go_getRe (k := 2) ⟨by decide, rfl, by decide, Or.inr ⟨_, rfl⟩⟩ RK.1 (rf_r3 RK) fl_X11_16 dX11_failsNow_134 ?_
      refine go_aload_n dX11_failsNow_137 rfl ?_
      refine go_iload_n dX11_failsNow_138 rfl ?_
      refine go_iconst (v := (3 : Int32)) rfl dX11_failsNow_139 ?_
      refine go_V (av := [pv_i x1, pv_i (3 : Int32)]) (st := [pv_r (m + 3)]) (ci := 11) ok_X11_of ⟨by decide, by decide⟩ ml_X11_94 rfl (by decide) (fun v hv => by simp only [List.mem_cons, List.not_mem_nil, or_false] at hv; rcases hv with rfl | rfl <;> first | exact pv_1i | exact pv_1r) (Nat.le_of_ble_eq_true rfl) (fun _ h => h) (by decide) rfl RK.1 dX11_failsNow_140 (rx_of RK hn1 rfl (by omega) (by decide)) (fun r M' hq _ => ?_)
      obtain ⟨_, rfl, _, rfl, rfl, rfl⟩ := hq
      show go_W mt_X11_failsNow fr_R 143 [some (pv_r m), some (pv_i x1), some (pv_i x2), some (pv_i (I (m + 1) (200 + 14 * n1 + 9)))] [pv_i (I8 (m + 1) (200 + 14 * n1 + 3)), pv_r (m + 3)] (mm_si B I8) (qi_ (fun x M' => ∃ I', M' = mm_si B I' ∧ P x I'))
      refine go_dup2 pv_1i pv_1r dX11_failsNow_143 ?_
      obtain ⟨n13, ⟨hn13, hn13b⟩, H⟩ := H
      refine go_ialdN (j := n13) ⟨by decide, by decide, by decide⟩ (rf_k3 RK) hn13 hn13b dX11_failsNow_144 ?_
      refine go_iconst (v := (1 : Int32)) rfl dX11_failsNow_145 ?_
      refine go_iadd dX11_failsNow_146 ?_
      refine go_iastN (j := n13) ⟨by decide, by decide, by decide⟩ (rf_k3 RK) rfl hn13 (by omega) dX11_failsNow_147 ?_
      show go_W mt_X11_failsNow fr_R 148 [some (pv_r m), some (pv_i x1), some (pv_i x2), some (pv_i (I (m + 1) (200 + 14 * n1 + 9)))] [] (mm_si B (i2_u I8 (m + 3) n13 (I8 (m + 3) n13 + (1 : Int32)))) (qi_ (fun x M' => ∃ I', M' = mm_si B I' ∧ P x I'))
      obtain ⟨I14, hI14⟩ : ∃ I', I' = i2_u I8 (m + 3) n13 (I8 (m + 3) n13 + (1 : Int32)) := ⟨_, rfl⟩
      rw [← hI14]
      replace H := H I14 hI14
      refine go_aload_n dX11_failsNow_148 rfl ?_
      refine go_iload_n dX11_failsNow_149 rfl ?_
      refine go_iload_n dX11_failsNow_150 rfl ?_
      refine go_V (av := [pv_i x1, pv_i x2]) (st := []) (ci := 11) ok_X11_goesAside ⟨by decide, by decide⟩ ml_X11_133 rfl (by decide) (fun v hv => by simp only [List.mem_cons, List.not_mem_nil, or_false] at hv; rcases hv with rfl | rfl <;> first | exact pv_1i | exact pv_1r) (Nat.le_of_ble_eq_true rfl) (fun _ h => h) (by decide) rfl RK.1 dX11_failsNow_151 H (fun r M' hq _ => ?_)
      obtain ⟨rfl, I15, rfl, H⟩ := hq
      show go_W mt_X11_failsNow fr_R 154 [some (pv_r m), some (pv_i x1), some (pv_i x2), some (pv_i (I (m + 1) (200 + 14 * n1 + 9)))] [] (mm_si B I15) (qi_ (fun x M' => ∃ I', M' = mm_si B I' ∧ P x I'))
      refine go_aload_n dX11_failsNow_154 rfl ?_
      refine go_iload_n dX11_failsNow_155 rfl ?_
      refine go_bipush (v := (100 : Int32)) rfl dX11_failsNow_156 ?_
      refine go_V (av := [pv_i x1, pv_i (100 : Int32)]) (st := []) (ci := 11) ok_X11_drags ⟨by decide, by decide⟩ ml_X11_149 rfl (by decide) (fun v hv => by simp only [List.mem_cons, List.not_mem_nil, or_false] at hv; rcases hv with rfl | rfl <;> first | exact pv_1i | exact pv_1r) (Nat.le_of_ble_eq_true rfl) (fun _ h => h) (by decide) rfl RK.1 dX11_failsNow_158 H (fun r M' hq _ => ?_)
      obtain ⟨v17, rfl, I16, rfl, H⟩ := hq
      show go_W mt_X11_failsNow fr_R 161 [some (pv_r m), some (pv_i x1), some (pv_i x2), some (pv_i (I (m + 1) (200 + 14 * n1 + 9)))] [pv_i v17] (mm_si B I16) (qi_ (fun x M' => ∃ I', M' = mm_si B I' ∧ P x I'))
      refine go_pop pv_1i dX11_failsNow_161 ?_
      refine go_aload_n dX11_failsNow_162 rfl ?_
      refine go_V (av := []) (st := []) (ci := 11) ok_X11_closes ⟨by decide, by decide⟩ ml_X11_143 rfl (by decide) (fun v hv => absurd hv List.not_mem_nil) (Nat.le_of_ble_eq_true rfl) (fun _ h => h) (by decide) rfl RK.1 dX11_failsNow_163 H (fun r M' hq _ => ?_)
      obtain ⟨rfl, I18, rfl, H⟩ := hq
      show go_W mt_X11_failsNow fr_R 166 [some (pv_r m), some (pv_i x1), some (pv_i x2), some (pv_i (I (m + 1) (200 + 14 * n1 + 9)))] [] (mm_si B I18) (qi_ (fun x M' => ∃ I', M' = mm_si B I' ∧ P x I'))
      refine go_iconst (v := (5 : Int32)) rfl dX11_failsNow_166 ?_
      exact go_iret rfl rfl dX11_failsNow_167 ⟨_, rfl, _, rfl, H⟩
  · replace H := H.2 hc
    refine go_aload_n dX11_failsNow_85 rfl ?_
    refine go_iload_n dX11_failsNow_86 rfl ?_
    refine go_bipush (v := (6 : Int32)) rfl dX11_failsNow_87 ?_
    refine go_iconst (v := (2 : Int32)) rfl dX11_failsNow_89 ?_
    refine go_V (av := [pv_i x1, pv_i (6 : Int32), pv_i (2 : Int32)]) (st := []) (ci := 11) ok_X11_is ⟨by decide, by decide⟩ ml_X11_121 rfl (by decide) (fun v hv => by simp only [List.mem_cons, List.not_mem_nil, or_false] at hv; rcases hv with rfl | rfl | rfl <;> first | exact pv_1i | exact pv_1r) (Nat.le_of_ble_eq_true rfl) (fun _ h => h) (by decide) rfl RK.1 dX11_failsNow_90 (rx_is RK hn1 rfl (by omega) (by decide)) (fun r M' hq _ => ?_)
    obtain ⟨rfl, _, rfl, rfl⟩ := hq
    show go_W mt_X11_failsNow fr_R 93 [some (pv_r m), some (pv_i x1), some (pv_i x2), some (pv_i (I (m + 1) (200 + 14 * n1 + 9)))] [] (mm_si B (i2_u I8 (m + 1) (200 + 14 * n1 + 6) (2 : Int32))) (qi_ (fun x M' => ∃ I', M' = mm_si B I' ∧ P x I'))
    obtain ⟨I19, hI19⟩ : ∃ I', I' = i2_u I8 (m + 1) (200 + 14 * n1 + 6) (2 : Int32) := ⟨_, rfl⟩
    rw [← hI19]
    replace H := H I19 hI19
    refine go_aload_n dX11_failsNow_93 rfl ?_
    refine go_iload_n dX11_failsNow_94 rfl ?_
    refine go_bipush (v := (8 : Int32)) rfl dX11_failsNow_95 ?_
    refine go_aload_n dX11_failsNow_97 rfl ?_
    refine go_getRe (k := 0) ⟨by decide, rfl, by decide, Or.inr ⟨_, rfl⟩⟩ RK.1 (rf_r1 RK) fl_X11_7 dX11_failsNow_98 ?_
    refine go_iconst (v := (0 : Int32)) rfl dX11_failsNow_101 ?_
    refine go_ialdN (j := 0) ⟨by decide, by decide, by decide⟩ (rf_k1 RK) rfl (by decide) dX11_failsNow_102 ?_
    refine go_aload_n dX11_failsNow_103 rfl ?_
    refine go_getRe (k := 0) ⟨by decide, rfl, by decide, Or.inr ⟨_, rfl⟩⟩ RK.1 (rf_r1 RK) fl_X11_7 dX11_failsNow_104 ?_
    refine go_bipush (v := (6 : Int32)) rfl dX11_failsNow_107 ?_
    refine go_ialdN (j := 6) ⟨by decide, by decide, by decide⟩ (rf_k1 RK) rfl (by decide) dX11_failsNow_109 ?_
    refine go_aload_n dX11_failsNow_110 rfl ?_
    refine go_iload_n dX11_failsNow_111 rfl ?_
    refine go_bipush (v := (7 : Int32)) rfl dX11_failsNow_112 ?_
    refine go_V (av := [pv_i x1, pv_i (7 : Int32)]) (st := [pv_i (I19 (m + 1) 6), pv_i (I19 (m + 1) 0), pv_i (8 : Int32), pv_i x1, pv_r m]) (ci := 11) ok_X11_of ⟨by decide, by decide⟩ ml_X11_94 rfl (by decide) (fun v hv => by simp only [List.mem_cons, List.not_mem_nil, or_false] at hv; rcases hv with rfl | rfl <;> first | exact pv_1i | exact pv_1r) (Nat.le_of_ble_eq_true rfl) (fun _ h => h) (by decide) rfl RK.1 dX11_failsNow_114 (rx_of RK hn1 rfl (by omega) (by decide)) (fun r M' hq _ => ?_)
    obtain ⟨_, rfl, _, rfl, rfl, rfl⟩ := hq
    show go_W mt_X11_failsNow fr_R 117 [some (pv_r m), some (pv_i x1), some (pv_i x2), some (pv_i (I (m + 1) (200 + 14 * n1 + 9)))] [pv_i (I19 (m + 1) (200 + 14 * n1 + 7)), pv_i (I19 (m + 1) 6), pv_i (I19 (m + 1) 0), pv_i (8 : Int32), pv_i x1, pv_r m] (mm_si B I19) (qi_ (fun x M' => ∃ I', M' = mm_si B I' ∧ P x I'))
    refine go_iconst (v := (1 : Int32)) rfl dX11_failsNow_117 ?_
    refine go_isub dX11_failsNow_118 ?_
    refine go_ishl dX11_failsNow_119 ?_
    refine go_iadd dX11_failsNow_120 ?_
    refine go_V (av := [pv_i x1, pv_i (8 : Int32), pv_i (I19 (m + 1) 0 + (I19 (m + 1) 6 <<< ((I19 (m + 1) (200 + 14 * n1 + 7) - (1 : Int32)) &&& 31)))]) (st := []) (ci := 11) ok_X11_is ⟨by decide, by decide⟩ ml_X11_121 rfl (by decide) (fun v hv => by simp only [List.mem_cons, List.not_mem_nil, or_false] at hv; rcases hv with rfl | rfl | rfl <;> first | exact pv_1i | exact pv_1r) (Nat.le_of_ble_eq_true rfl) (fun _ h => h) (by decide) rfl RK.1 dX11_failsNow_121 (rx_is RK hn1 rfl (by omega) (by decide)) (fun r M' hq _ => ?_)
    obtain ⟨rfl, _, rfl, rfl⟩ := hq
    show go_W mt_X11_failsNow fr_R 124 [some (pv_r m), some (pv_i x1), some (pv_i x2), some (pv_i (I (m + 1) (200 + 14 * n1 + 9)))] [] (mm_si B (i2_u I19 (m + 1) (200 + 14 * n1 + 8) (I19 (m + 1) 0 + (I19 (m + 1) 6 <<< ((I19 (m + 1) (200 + 14 * n1 + 7) - (1 : Int32)) &&& 31))))) (qi_ (fun x M' => ∃ I', M' = mm_si B I' ∧ P x I'))
    obtain ⟨I20, hI20⟩ : ∃ I', I' = i2_u I19 (m + 1) (200 + 14 * n1 + 8) (I19 (m + 1) 0 + (I19 (m + 1) 6 <<< ((I19 (m + 1) (200 + 14 * n1 + 7) - (1 : Int32)) &&& 31))) := ⟨_, rfl⟩
    rw [← hI20]
    replace H := H I20 hI20
    refine go_iconst (v := (2 : Int32)) rfl dX11_failsNow_124 ?_
    exact go_iret rfl rfl dX11_failsNow_125 ⟨_, rfl, _, rfl, H⟩
set_option maxRecDepth 20000 in
theorem wq_X11_whyNot_0 {B : mm_T} {I : Nat → Nat → Int32} {m : Nat} (RK : rf_ok B m) {x1 x2 x3 x4 x5 : Int32} {P : Int32 → (Nat → Nat → Int32) → Prop} (H : ((((0 ≤ x1 ∧ x1 ≤ 4)) → ((((0 ≤ x2 ∧ x2 ≤ 9)) → (((((1 : Int32) ≤ x3 ∧ x3 ≤ (20 : Int32))) → ((((0 ≤ x4 ∧ x4 ≤ 9999)) → (((x5 = (-1 : Int32)) → ∃ n1, (x1 = nI n1 ∧ n1 < 5) ∧ ((((¬ I (m + 1) ((10 + 10 * n1) + 3) = 0) → P (-3 : Int32) I) ∧ ((I (m + 1) ((10 + 10 * n1) + 3) = 0) → (((x5 = (-1 : Int32)) → rs_i mt_X11_hasRoom [pv_r m, pv_i x1] B I (fun v3 I2 => (((v3 = 0) → P (-4 : Int32) I2) ∧ ((¬ v3 = 0) → rs_i mt_X11_standing [pv_r m, pv_i (-1 : Int32)] B I2 (fun v5 I4 => (((v5 < I4 (m + 1) 8) → rs_i mt_X11_standsWith [pv_r m, pv_i x4] B I4 (fun v7 I6 => (((v7 = (-1 : Int32)) → (((¬ I6 (m + 1) 1 = (400 : Int32)) → rs_i mt_X11_isBanned [pv_r m, pv_i x4] B I6 (fun v9 I8 => (((v9 = 0) → P (0 : Int32) I8) ∧ ((¬ v9 = 0) → P (-7 : Int32) I8)))) ∧ ((I6 (m + 1) 1 = (400 : Int32)) → P (-6 : Int32) I6))) ∧ ((¬ v7 = (-1 : Int32)) → P (-5 : Int32) I6)))) ∧ ((¬ v5 < I4 (m + 1) 8) → P (-4 : Int32) I4))))))) ∧ ((¬ x5 = (-1 : Int32)) → ∃ n10, (x5 = nI n10 ∧ n10 < 400) ∧ ((((¬ I (m + 1) (200 + 14 * n10 + 6) = (5 : Int32)) → rs_i mt_X11_hasRoom [pv_r m, pv_i x1] B I (fun v12 I11 => (((v12 = 0) → P (-4 : Int32) I11) ∧ ((¬ v12 = 0) → rs_i mt_X11_standing [pv_r m, pv_i (-1 : Int32)] B I11 (fun v14 I13 => (((v14 < I13 (m + 1) 8) → rs_i mt_X11_standsWith [pv_r m, pv_i x4] B I13 (fun v16 I15 => (((v16 = (-1 : Int32)) → (((¬ I15 (m + 1) 1 = (400 : Int32)) → rs_i mt_X11_isBanned [pv_r m, pv_i x4] B I15 (fun v18 I17 => (((v18 = 0) → P (0 : Int32) I17) ∧ ((¬ v18 = 0) → P (-7 : Int32) I17)))) ∧ ((I15 (m + 1) 1 = (400 : Int32)) → P (-6 : Int32) I15))) ∧ ((¬ v16 = (-1 : Int32)) → P (-5 : Int32) I15)))) ∧ ((¬ v14 < I13 (m + 1) 8) → P (-4 : Int32) I13))))))) ∧ ((I (m + 1) (200 + 14 * n10 + 6) = (5 : Int32)) → P (-3 : Int32) I))))))))) ∧ ((¬ x5 = (-1 : Int32)) → ((((0 ≤ x5 ∧ x5 ≤ I (m + 1) 1 - 1)) → ∃ n19, (x5 = nI n19 ∧ n19 < 400) ∧ ((((¬ I (m + 1) (200 + 14 * n19 + 6) = (6 : Int32)) → ∃ n20, (x1 = nI n20 ∧ n20 < 5) ∧ ((((¬ I (m + 1) ((10 + 10 * n20) + 3) = 0) → P (-3 : Int32) I) ∧ ((I (m + 1) ((10 + 10 * n20) + 3) = 0) → (((x5 = (-1 : Int32)) → rs_i mt_X11_hasRoom [pv_r m, pv_i x1] B I (fun v22 I21 => (((v22 = 0) → P (-4 : Int32) I21) ∧ ((¬ v22 = 0) → rs_i mt_X11_standing [pv_r m, pv_i (-1 : Int32)] B I21 (fun v24 I23 => (((v24 < I23 (m + 1) 8) → rs_i mt_X11_standsWith [pv_r m, pv_i x4] B I23 (fun v26 I25 => (((v26 = (-1 : Int32)) → (((¬ I25 (m + 1) 1 = (400 : Int32)) → rs_i mt_X11_isBanned [pv_r m, pv_i x4] B I25 (fun v28 I27 => (((v28 = 0) → P (0 : Int32) I27) ∧ ((¬ v28 = 0) → P (-7 : Int32) I27)))) ∧ ((I25 (m + 1) 1 = (400 : Int32)) → P (-6 : Int32) I25))) ∧ ((¬ v26 = (-1 : Int32)) → P (-5 : Int32) I25)))) ∧ ((¬ v24 < I23 (m + 1) 8) → P (-4 : Int32) I23))))))) ∧ ((¬ x5 = (-1 : Int32)) → (((¬ I (m + 1) (200 + 14 * n19 + 6) = (5 : Int32)) → rs_i mt_X11_hasRoom [pv_r m, pv_i x1] B I (fun v30 I29 => (((v30 = 0) → P (-4 : Int32) I29) ∧ ((¬ v30 = 0) → rs_i mt_X11_standing [pv_r m, pv_i (-1 : Int32)] B I29 (fun v32 I31 => (((v32 < I31 (m + 1) 8) → rs_i mt_X11_standsWith [pv_r m, pv_i x4] B I31 (fun v34 I33 => (((v34 = (-1 : Int32)) → (((¬ I33 (m + 1) 1 = (400 : Int32)) → rs_i mt_X11_isBanned [pv_r m, pv_i x4] B I33 (fun v36 I35 => (((v36 = 0) → P (0 : Int32) I35) ∧ ((¬ v36 = 0) → P (-7 : Int32) I35)))) ∧ ((I33 (m + 1) 1 = (400 : Int32)) → P (-6 : Int32) I33))) ∧ ((¬ v34 = (-1 : Int32)) → P (-5 : Int32) I33)))) ∧ ((¬ v32 < I31 (m + 1) 8) → P (-4 : Int32) I31))))))) ∧ ((I (m + 1) (200 + 14 * n19 + 6) = (5 : Int32)) → P (-3 : Int32) I)))))))) ∧ ((I (m + 1) (200 + 14 * n19 + 6) = (6 : Int32)) → P (-2 : Int32) I)))) ∧ ((¬ (0 ≤ x5 ∧ x5 ≤ I (m + 1) 1 - 1)) → P (-2 : Int32) I))))) ∧ ((¬ (0 ≤ x4 ∧ x4 ≤ 9999)) → P (-2 : Int32) I))) ∧ ((¬ ((1 : Int32) ≤ x3 ∧ x3 ≤ (20 : Int32))) → P (-2 : Int32) I))) ∧ ((¬ (0 ≤ x2 ∧ x2 ≤ 9)) → P (-2 : Int32) I))) ∧ ((¬ (0 ≤ x1 ∧ x1 ≤ 4)) → P (-2 : Int32) I))) : rw_i mt_X11_whyNot 0 [some (pv_r m), some (pv_i x1), some (pv_i x2), some (pv_i x3), some (pv_i x4), some (pv_i x5)] [] B I P := by
  refine go_aload_n dX11_whyNot_0 rfl ?_
  refine go_iload_n dX11_whyNot_1 rfl ?_
  by_cases hc : (0 ≤ x1 ∧ x1 ≤ 4)
  · replace H := H.1 hc
    refine go_V (av := [pv_i x1]) (st := []) (ci := 11) ok_X11_isLane ⟨by decide, by decide⟩ ml_X11_152 rfl (by decide) (fun v hv => by simp only [List.mem_cons, List.not_mem_nil, or_false] at hv; rcases hv with rfl <;> first | exact pv_1i | exact pv_1r) (Nat.le_of_ble_eq_true rfl) (fun _ h => h) (by decide) rfl RK.1 dX11_whyNot_2 (rx_isLane_t RK hc) (fun r M' hq _ => ?_)
    obtain ⟨_, rfl, _, rfl, rfl, rfl⟩ := hq
    show go_W mt_X11_whyNot fr_R 5 [some (pv_r m), some (pv_i x1), some (pv_i x2), some (pv_i x3), some (pv_i x4), some (pv_i x5)] [pv_i (1 : Int32)] (mm_si B I) (qi_ (fun x M' => ∃ I', M' = mm_si B I' ∧ P x I'))
    refine go_if_eq (tgt := 33) dX11_whyNot_5 (by decide) (fun hc => absurd hc (by decide)) (fun _ => ?_)
    refine go_iload_n dX11_whyNot_8 rfl ?_
    by_cases hc : (0 ≤ x2 ∧ x2 ≤ 9)
    · replace H := H.1 hc
      refine go_St (av := [pv_i x2]) (st := []) ok_X11_isPriority ⟨by decide, by decide⟩ ml_X11_155 rfl (by decide) (fun v hv => by simp only [List.mem_cons, List.not_mem_nil, or_false] at hv; rcases hv with rfl <;> first | exact pv_1i | exact pv_1r) (Nat.le_of_ble_eq_true rfl) (fun _ h => h) dX11_whyNot_9 (rx_isPriority_t RK hc) (fun r M' hq _ => ?_)
      obtain ⟨_, rfl, _, rfl, rfl, rfl⟩ := hq
      show go_W mt_X11_whyNot fr_R 12 [some (pv_r m), some (pv_i x1), some (pv_i x2), some (pv_i x3), some (pv_i x4), some (pv_i x5)] [pv_i (1 : Int32)] (mm_si B I) (qi_ (fun x M' => ∃ I', M' = mm_si B I' ∧ P x I'))
      refine go_if_eq (tgt := 33) dX11_whyNot_12 (by decide) (fun hc => absurd hc (by decide)) (fun _ => ?_)
      refine go_iload_n dX11_whyNot_15 rfl ?_
      refine go_iconst (v := (1 : Int32)) rfl dX11_whyNot_16 ?_
      refine go_bipush (v := (20 : Int32)) rfl dX11_whyNot_17 ?_
      by_cases hc : ((1 : Int32) ≤ x3 ∧ x3 ≤ (20 : Int32))
      · replace H := H.1 hc
        refine go_St (av := [pv_i x3, pv_i (1 : Int32), pv_i (20 : Int32)]) (st := []) ok_X11_isIn ⟨by decide, by decide⟩ ml_X11_90 rfl (by decide) (fun v hv => by simp only [List.mem_cons, List.not_mem_nil, or_false] at hv; rcases hv with rfl | rfl | rfl <;> first | exact pv_1i | exact pv_1r) (Nat.le_of_ble_eq_true rfl) (fun _ h => h) dX11_whyNot_19 (rx_isIn_t RK hc) (fun r M' hq _ => ?_)
        obtain ⟨_, rfl, _, rfl, rfl, rfl⟩ := hq
        show go_W mt_X11_whyNot fr_R 22 [some (pv_r m), some (pv_i x1), some (pv_i x2), some (pv_i x3), some (pv_i x4), some (pv_i x5)] [pv_i (1 : Int32)] (mm_si B I) (qi_ (fun x M' => ∃ I', M' = mm_si B I' ∧ P x I'))
        refine go_if_eq (tgt := 33) dX11_whyNot_22 (by decide) (fun hc => absurd hc (by decide)) (fun _ => ?_)
        refine go_iload dX11_whyNot_25 rfl ?_
        by_cases hc : (0 ≤ x4 ∧ x4 ≤ 9999)
        · replace H := H.1 hc
          refine go_St (av := [pv_i x4]) (st := []) ok_X11_isKey ⟨by decide, by decide⟩ ml_X11_158 rfl (by decide) (fun v hv => by simp only [List.mem_cons, List.not_mem_nil, or_false] at hv; rcases hv with rfl <;> first | exact pv_1i | exact pv_1r) (Nat.le_of_ble_eq_true rfl) (fun _ h => h) dX11_whyNot_27 (rx_isKey_t RK hc) (fun r M' hq _ => ?_)
          obtain ⟨_, rfl, _, rfl, rfl, rfl⟩ := hq
          show go_W mt_X11_whyNot fr_R 30 [some (pv_r m), some (pv_i x1), some (pv_i x2), some (pv_i x3), some (pv_i x4), some (pv_i x5)] [pv_i (1 : Int32)] (mm_si B I) (qi_ (fun x M' => ∃ I', M' = mm_si B I' ∧ P x I'))
          refine go_if_ne (tgt := 36) dX11_whyNot_30 (by decide) (fun _ => ?_) (fun hc => absurd hc (by decide))
          refine go_iload dX11_whyNot_36 rfl ?_
          refine go_iconst (v := (-1 : Int32)) rfl dX11_whyNot_38 ?_
          refine go_icmp_eq (tgt := 67) dX11_whyNot_39 (by decide) (fun hc => ?_) (fun hc => ?_)
          · replace H := H.1 hc
            refine go_aload_n dX11_whyNot_67 rfl ?_
            refine go_getRe (k := 0) ⟨by decide, rfl, by decide, Or.inr ⟨_, rfl⟩⟩ RK.1 (rf_r1 RK) fl_X11_7 dX11_whyNot_68 ?_
            refine go_iload_n dX11_whyNot_71 rfl ?_
            obtain ⟨n1, ⟨hn1, hn1b⟩, H⟩ := H
            refine go_St (av := [pv_i x1]) (st := [pv_r (m + 1)]) ok_X11_at ⟨by decide, by decide⟩ ml_X11_80 rfl (by decide) (fun v hv => by simp only [List.mem_cons, List.not_mem_nil, or_false] at hv; rcases hv with rfl <;> first | exact pv_1i | exact pv_1r) (Nat.le_of_ble_eq_true rfl) (fun _ h => h) dX11_whyNot_72 (rx_at RK hn1) (fun r M' hq _ => ?_)
            obtain ⟨_, rfl, _, rfl, rfl, rfl⟩ := hq
            show go_W mt_X11_whyNot fr_R 75 [some (pv_r m), some (pv_i x1), some (pv_i x2), some (pv_i x3), some (pv_i x4), some (pv_i x5)] [pv_i (nI (10 + 10 * n1)), pv_r (m + 1)] (mm_si B I) (qi_ (fun x M' => ∃ I', M' = mm_si B I' ∧ P x I'))
            refine go_iconst (v := (3 : Int32)) rfl dX11_whyNot_75 ?_
            refine go_iadd dX11_whyNot_76 ?_
            refine go_ialdN (j := ((10 + 10 * n1) + 3)) ⟨by decide, by decide, by decide⟩ (rf_k1 RK) (nI_ae rfl rfl) (by omega) dX11_whyNot_77 ?_
            refine go_if_ne (tgt := 99) dX11_whyNot_78 (by decide) (fun hc => ?_) (fun hc => ?_)
            · replace H := H.1 hc
              refine go_bipush (v := (-3 : Int32)) rfl dX11_whyNot_99 ?_
              exact go_iret rfl rfl dX11_whyNot_101 ⟨_, rfl, _, rfl, H⟩
            · replace H := H.2 hc
              refine go_iload dX11_whyNot_81 rfl ?_
              refine go_iconst (v := (-1 : Int32)) rfl dX11_whyNot_83 ?_
              refine go_icmp_eq (tgt := 102) dX11_whyNot_84 (by decide) (fun hc => ?_) (fun hc => ?_)
              · replace H := H.1 hc
                refine go_aload_n dX11_whyNot_102 rfl ?_
                refine go_iload_n dX11_whyNot_103 rfl ?_
                refine go_V (av := [pv_i x1]) (st := []) (ci := 11) ok_X11_hasRoom ⟨by decide, by decide⟩ ml_X11_164 rfl (by decide) (fun v hv => by simp only [List.mem_cons, List.not_mem_nil, or_false] at hv; rcases hv with rfl <;> first | exact pv_1i | exact pv_1r) (Nat.le_of_ble_eq_true rfl) (fun _ h => h) (by decide) rfl RK.1 dX11_whyNot_104 H (fun r M' hq _ => ?_)
                obtain ⟨v3, rfl, I2, rfl, H⟩ := hq
                show go_W mt_X11_whyNot fr_R 107 [some (pv_r m), some (pv_i x1), some (pv_i x2), some (pv_i x3), some (pv_i x4), some (pv_i x5)] [pv_i v3] (mm_si B I2) (qi_ (fun x M' => ∃ I', M' = mm_si B I' ∧ P x I'))
                refine go_if_eq (tgt := 125) dX11_whyNot_107 (by decide) (fun hc => ?_) (fun hc => ?_)
                · replace H := H.1 hc
                  refine go_bipush (v := (-4 : Int32)) rfl dX11_whyNot_125 ?_
                  exact go_iret rfl rfl dX11_whyNot_127 ⟨_, rfl, _, rfl, H⟩
                · replace H := H.2 hc
                  refine go_aload_n dX11_whyNot_110 rfl ?_
                  refine go_iconst (v := (-1 : Int32)) rfl dX11_whyNot_111 ?_
                  refine go_V (av := [pv_i (-1 : Int32)]) (st := []) (ci := 11) ok_X11_standing ⟨by decide, by decide⟩ ml_X11_115 rfl (by decide) (fun v hv => by simp only [List.mem_cons, List.not_mem_nil, or_false] at hv; rcases hv with rfl <;> first | exact pv_1i | exact pv_1r) (Nat.le_of_ble_eq_true rfl) (fun _ h => h) (by decide) rfl RK.1 dX11_whyNot_112 H (fun r M' hq _ => ?_)
                  obtain ⟨v5, rfl, I4, rfl, H⟩ := hq
                  show go_W mt_X11_whyNot fr_R 115 [some (pv_r m), some (pv_i x1), some (pv_i x2), some (pv_i x3), some (pv_i x4), some (pv_i x5)] [pv_i v5] (mm_si B I4) (qi_ (fun x M' => ∃ I', M' = mm_si B I' ∧ P x I'))
                  refine go_aload_n dX11_whyNot_115 rfl ?_
                  refine go_getRe (k := 0) ⟨by decide, rfl, by decide, Or.inr ⟨_, rfl⟩⟩ RK.1 (rf_r1 RK) fl_X11_7 dX11_whyNot_116 ?_
                  refine go_bipush (v := (8 : Int32)) rfl dX11_whyNot_119 ?_
                  refine go_ialdN (j := 8) ⟨by decide, by decide, by decide⟩ (rf_k1 RK) rfl (by decide) dX11_whyNot_121 ?_
                  refine go_icmp_lt (tgt := 128) dX11_whyNot_122 (by decide) (fun hc => ?_) (fun hc => ?_)
                  · replace H := H.1 hc
                    refine go_aload_n dX11_whyNot_128 rfl ?_
                    refine go_iload dX11_whyNot_129 rfl ?_
                    refine go_V (av := [pv_i x4]) (st := []) (ci := 11) ok_X11_standsWith ⟨by decide, by decide⟩ ml_X11_167 rfl (by decide) (fun v hv => by simp only [List.mem_cons, List.not_mem_nil, or_false] at hv; rcases hv with rfl <;> first | exact pv_1i | exact pv_1r) (Nat.le_of_ble_eq_true rfl) (fun _ h => h) (by decide) rfl RK.1 dX11_whyNot_131 H (fun r M' hq _ => ?_)
                    obtain ⟨v7, rfl, I6, rfl, H⟩ := hq
                    show go_W mt_X11_whyNot fr_R 134 [some (pv_r m), some (pv_i x1), some (pv_i x2), some (pv_i x3), some (pv_i x4), some (pv_i x5)] [pv_i v7] (mm_si B I6) (qi_ (fun x M' => ∃ I', M' = mm_si B I' ∧ P x I'))
                    refine go_iconst (v := (-1 : Int32)) rfl dX11_whyNot_134 ?_
                    refine go_icmp_eq (tgt := 141) dX11_whyNot_135 (by decide) (fun hc => ?_) (fun hc => ?_)
                    · replace H := H.1 hc
                      refine go_aload_n dX11_whyNot_141 rfl ?_
                      refine go_getRe (k := 0) ⟨by decide, rfl, by decide, Or.inr ⟨_, rfl⟩⟩ RK.1 (rf_r1 RK) fl_X11_7 dX11_whyNot_142 ?_
                      refine go_iconst (v := (1 : Int32)) rfl dX11_whyNot_145 ?_
                      refine go_ialdN (j := 1) ⟨by decide, by decide, by decide⟩ (rf_k1 RK) rfl (by decide) dX11_whyNot_146 ?_
                      refine go_sipush (v := (400 : Int32)) rfl dX11_whyNot_147 ?_
                      refine go_icmp_ne (tgt := 156) dX11_whyNot_150 (by decide) (fun hc => ?_) (fun hc => ?_)
                      · replace H := H.1 hc
                        refine go_aload_n dX11_whyNot_156 rfl ?_
                        refine go_iload dX11_whyNot_157 rfl ?_
                        refine go_V (av := [pv_i x4]) (st := []) (ci := 11) ok_X11_isBanned ⟨by decide, by decide⟩ ml_X11_170 rfl (by decide) (fun v hv => by simp only [List.mem_cons, List.not_mem_nil, or_false] at hv; rcases hv with rfl <;> first | exact pv_1i | exact pv_1r) (Nat.le_of_ble_eq_true rfl) (fun _ h => h) (by decide) rfl RK.1 dX11_whyNot_159 H (fun r M' hq _ => ?_)
                        obtain ⟨v9, rfl, I8, rfl, H⟩ := hq
                        show go_W mt_X11_whyNot fr_R 162 [some (pv_r m), some (pv_i x1), some (pv_i x2), some (pv_i x3), some (pv_i x4), some (pv_i x5)] [pv_i v9] (mm_si B I8) (qi_ (fun x M' => ∃ I', M' = mm_si B I' ∧ P x I'))
                        refine go_if_eq (tgt := 170) dX11_whyNot_162 (by decide) (fun hc => ?_) (fun hc => ?_)
                        · replace H := H.1 hc
                          refine go_iconst (v := (0 : Int32)) rfl dX11_whyNot_170 ?_
                          exact go_iret rfl rfl dX11_whyNot_171 ⟨_, rfl, _, rfl, H⟩
                        · replace H := H.2 hc
                          refine go_bipush (v := (-7 : Int32)) rfl dX11_whyNot_165 ?_
                          refine go_goto (tgt := 171) dX11_whyNot_167 (by decide) ?_
                          exact go_iret rfl rfl dX11_whyNot_171 ⟨_, rfl, _, rfl, H⟩
                      · replace H := H.2 hc
                        refine go_bipush (v := (-6 : Int32)) rfl dX11_whyNot_153 ?_
                        exact go_iret rfl rfl dX11_whyNot_155 ⟨_, rfl, _, rfl, H⟩
                    · replace H := H.2 hc
                      refine go_bipush (v := (-5 : Int32)) rfl dX11_whyNot_138 ?_
                      exact go_iret rfl rfl dX11_whyNot_140 ⟨_, rfl, _, rfl, H⟩
                  · replace H := H.2 hc
                    refine go_bipush (v := (-4 : Int32)) rfl dX11_whyNot_125 ?_
                    exact go_iret rfl rfl dX11_whyNot_127 ⟨_, rfl, _, rfl, H⟩
              · replace H := H.2 hc
                refine go_aload_n dX11_whyNot_87 rfl ?_
                refine go_iload dX11_whyNot_88 rfl ?_
                refine go_bipush (v := (6 : Int32)) rfl dX11_whyNot_90 ?_
                obtain ⟨n10, ⟨hn10, hn10b⟩, H⟩ := H
                refine go_V (av := [pv_i x5, pv_i (6 : Int32)]) (st := []) (ci := 11) ok_X11_of ⟨by decide, by decide⟩ ml_X11_94 rfl (by decide) (fun v hv => by simp only [List.mem_cons, List.not_mem_nil, or_false] at hv; rcases hv with rfl | rfl <;> first | exact pv_1i | exact pv_1r) (Nat.le_of_ble_eq_true rfl) (fun _ h => h) (by decide) rfl RK.1 dX11_whyNot_92 (rx_of RK hn10 rfl hn10b (by decide)) (fun r M' hq _ => ?_)
                obtain ⟨_, rfl, _, rfl, rfl, rfl⟩ := hq
                show go_W mt_X11_whyNot fr_R 95 [some (pv_r m), some (pv_i x1), some (pv_i x2), some (pv_i x3), some (pv_i x4), some (pv_i x5)] [pv_i (I (m + 1) (200 + 14 * n10 + 6))] (mm_si B I) (qi_ (fun x M' => ∃ I', M' = mm_si B I' ∧ P x I'))
                refine go_iconst (v := (5 : Int32)) rfl dX11_whyNot_95 ?_
                refine go_icmp_ne (tgt := 102) dX11_whyNot_96 (by decide) (fun hc => ?_) (fun hc => ?_)
                · replace H := H.1 hc
                  refine go_aload_n dX11_whyNot_102 rfl ?_
                  refine go_iload_n dX11_whyNot_103 rfl ?_
                  refine go_V (av := [pv_i x1]) (st := []) (ci := 11) ok_X11_hasRoom ⟨by decide, by decide⟩ ml_X11_164 rfl (by decide) (fun v hv => by simp only [List.mem_cons, List.not_mem_nil, or_false] at hv; rcases hv with rfl <;> first | exact pv_1i | exact pv_1r) (Nat.le_of_ble_eq_true rfl) (fun _ h => h) (by decide) rfl RK.1 dX11_whyNot_104 H (fun r M' hq _ => ?_)
                  obtain ⟨v12, rfl, I11, rfl, H⟩ := hq
                  show go_W mt_X11_whyNot fr_R 107 [some (pv_r m), some (pv_i x1), some (pv_i x2), some (pv_i x3), some (pv_i x4), some (pv_i x5)] [pv_i v12] (mm_si B I11) (qi_ (fun x M' => ∃ I', M' = mm_si B I' ∧ P x I'))
                  refine go_if_eq (tgt := 125) dX11_whyNot_107 (by decide) (fun hc => ?_) (fun hc => ?_)
                  · replace H := H.1 hc
                    refine go_bipush (v := (-4 : Int32)) rfl dX11_whyNot_125 ?_
                    exact go_iret rfl rfl dX11_whyNot_127 ⟨_, rfl, _, rfl, H⟩
                  · replace H := H.2 hc
                    refine go_aload_n dX11_whyNot_110 rfl ?_
                    refine go_iconst (v := (-1 : Int32)) rfl dX11_whyNot_111 ?_
                    refine go_V (av := [pv_i (-1 : Int32)]) (st := []) (ci := 11) ok_X11_standing ⟨by decide, by decide⟩ ml_X11_115 rfl (by decide) (fun v hv => by simp only [List.mem_cons, List.not_mem_nil, or_false] at hv; rcases hv with rfl <;> first | exact pv_1i | exact pv_1r) (Nat.le_of_ble_eq_true rfl) (fun _ h => h) (by decide) rfl RK.1 dX11_whyNot_112 H (fun r M' hq _ => ?_)
                    obtain ⟨v14, rfl, I13, rfl, H⟩ := hq
                    show go_W mt_X11_whyNot fr_R 115 [some (pv_r m), some (pv_i x1), some (pv_i x2), some (pv_i x3), some (pv_i x4), some (pv_i x5)] [pv_i v14] (mm_si B I13) (qi_ (fun x M' => ∃ I', M' = mm_si B I' ∧ P x I'))
                    refine go_aload_n dX11_whyNot_115 rfl ?_
                    refine go_getRe (k := 0) ⟨by decide, rfl, by decide, Or.inr ⟨_, rfl⟩⟩ RK.1 (rf_r1 RK) fl_X11_7 dX11_whyNot_116 ?_
                    refine go_bipush (v := (8 : Int32)) rfl dX11_whyNot_119 ?_
                    refine go_ialdN (j := 8) ⟨by decide, by decide, by decide⟩ (rf_k1 RK) rfl (by decide) dX11_whyNot_121 ?_
                    refine go_icmp_lt (tgt := 128) dX11_whyNot_122 (by decide) (fun hc => ?_) (fun hc => ?_)
                    · replace H := H.1 hc
                      refine go_aload_n dX11_whyNot_128 rfl ?_
                      refine go_iload dX11_whyNot_129 rfl ?_
                      refine go_V (av := [pv_i x4]) (st := []) (ci := 11) ok_X11_standsWith ⟨by decide, by decide⟩ ml_X11_167 rfl (by decide) (fun v hv => by simp only [List.mem_cons, List.not_mem_nil, or_false] at hv; rcases hv with rfl <;> first | exact pv_1i | exact pv_1r) (Nat.le_of_ble_eq_true rfl) (fun _ h => h) (by decide) rfl RK.1 dX11_whyNot_131 H (fun r M' hq _ => ?_)
                      obtain ⟨v16, rfl, I15, rfl, H⟩ := hq
                      show go_W mt_X11_whyNot fr_R 134 [some (pv_r m), some (pv_i x1), some (pv_i x2), some (pv_i x3), some (pv_i x4), some (pv_i x5)] [pv_i v16] (mm_si B I15) (qi_ (fun x M' => ∃ I', M' = mm_si B I' ∧ P x I'))
                      refine go_iconst (v := (-1 : Int32)) rfl dX11_whyNot_134 ?_
                      refine go_icmp_eq (tgt := 141) dX11_whyNot_135 (by decide) (fun hc => ?_) (fun hc => ?_)
                      · replace H := H.1 hc
                        refine go_aload_n dX11_whyNot_141 rfl ?_
                        refine go_getRe (k := 0) ⟨by decide, rfl, by decide, Or.inr ⟨_, rfl⟩⟩ RK.1 (rf_r1 RK) fl_X11_7 dX11_whyNot_142 ?_
                        refine go_iconst (v := (1 : Int32)) rfl dX11_whyNot_145 ?_
                        refine go_ialdN (j := 1) ⟨by decide, by decide, by decide⟩ (rf_k1 RK) rfl (by decide) dX11_whyNot_146 ?_
                        refine go_sipush (v := (400 : Int32)) rfl dX11_whyNot_147 ?_
                        refine go_icmp_ne (tgt := 156) dX11_whyNot_150 (by decide) (fun hc => ?_) (fun hc => ?_)
                        · replace H := H.1 hc
                          refine go_aload_n dX11_whyNot_156 rfl ?_
                          refine go_iload dX11_whyNot_157 rfl ?_
                          refine go_V (av := [pv_i x4]) (st := []) (ci := 11) ok_X11_isBanned ⟨by decide, by decide⟩ ml_X11_170 rfl (by decide) (fun v hv => by simp only [List.mem_cons, List.not_mem_nil, or_false] at hv; rcases hv with rfl <;> first | exact pv_1i | exact pv_1r) (Nat.le_of_ble_eq_true rfl) (fun _ h => h) (by decide) rfl RK.1 dX11_whyNot_159 H (fun r M' hq _ => ?_)
                          obtain ⟨v18, rfl, I17, rfl, H⟩ := hq
                          show go_W mt_X11_whyNot fr_R 162 [some (pv_r m), some (pv_i x1), some (pv_i x2), some (pv_i x3), some (pv_i x4), some (pv_i x5)] [pv_i v18] (mm_si B I17) (qi_ (fun x M' => ∃ I', M' = mm_si B I' ∧ P x I'))
                          refine go_if_eq (tgt := 170) dX11_whyNot_162 (by decide) (fun hc => ?_) (fun hc => ?_)
                          · replace H := H.1 hc
                            refine go_iconst (v := (0 : Int32)) rfl dX11_whyNot_170 ?_
                            exact go_iret rfl rfl dX11_whyNot_171 ⟨_, rfl, _, rfl, H⟩
                          · replace H := H.2 hc
                            refine go_bipush (v := (-7 : Int32)) rfl dX11_whyNot_165 ?_
                            refine go_goto (tgt := 171) dX11_whyNot_167 (by decide) ?_
                            exact go_iret rfl rfl dX11_whyNot_171 ⟨_, rfl, _, rfl, H⟩
                        · replace H := H.2 hc
                          refine go_bipush (v := (-6 : Int32)) rfl dX11_whyNot_153 ?_
                          exact go_iret rfl rfl dX11_whyNot_155 ⟨_, rfl, _, rfl, H⟩
                      · replace H := H.2 hc
                        refine go_bipush (v := (-5 : Int32)) rfl dX11_whyNot_138 ?_
                        exact go_iret rfl rfl dX11_whyNot_140 ⟨_, rfl, _, rfl, H⟩
                    · replace H := H.2 hc
                      refine go_bipush (v := (-4 : Int32)) rfl dX11_whyNot_125 ?_
                      exact go_iret rfl rfl dX11_whyNot_127 ⟨_, rfl, _, rfl, H⟩
                · replace H := H.2 hc
                  refine go_bipush (v := (-3 : Int32)) rfl dX11_whyNot_99 ?_
                  exact go_iret rfl rfl dX11_whyNot_101 ⟨_, rfl, _, rfl, H⟩
          · replace H := H.2 hc
            refine go_aload_n dX11_whyNot_42 rfl ?_
            refine go_iload dX11_whyNot_43 rfl ?_
            by_cases hc : (0 ≤ x5 ∧ x5 ≤ I (m + 1) 1 - 1)
            · replace H := H.1 hc
              refine go_V (av := [pv_i x5]) (st := []) (ci := 11) ok_X11_isTask ⟨by decide, by decide⟩ ml_X11_161 rfl (by decide) (fun v hv => by simp only [List.mem_cons, List.not_mem_nil, or_false] at hv; rcases hv with rfl <;> first | exact pv_1i | exact pv_1r) (Nat.le_of_ble_eq_true rfl) (fun _ h => h) (by decide) rfl RK.1 dX11_whyNot_45 (rx_isTask_t RK hc) (fun r M' hq _ => ?_)
              obtain ⟨_, rfl, _, rfl, rfl, rfl⟩ := hq
              show go_W mt_X11_whyNot fr_R 48 [some (pv_r m), some (pv_i x1), some (pv_i x2), some (pv_i x3), some (pv_i x4), some (pv_i x5)] [pv_i (1 : Int32)] (mm_si B I) (qi_ (fun x M' => ∃ I', M' = mm_si B I' ∧ P x I'))
              refine go_if_eq (tgt := 64) dX11_whyNot_48 (by decide) (fun hc => absurd hc (by decide)) (fun _ => ?_)
              refine go_aload_n dX11_whyNot_51 rfl ?_
              refine go_iload dX11_whyNot_52 rfl ?_
              refine go_bipush (v := (6 : Int32)) rfl dX11_whyNot_54 ?_
              obtain ⟨n19, ⟨hn19, hn19b⟩, H⟩ := H
              refine go_V (av := [pv_i x5, pv_i (6 : Int32)]) (st := []) (ci := 11) ok_X11_of ⟨by decide, by decide⟩ ml_X11_94 rfl (by decide) (fun v hv => by simp only [List.mem_cons, List.not_mem_nil, or_false] at hv; rcases hv with rfl | rfl <;> first | exact pv_1i | exact pv_1r) (Nat.le_of_ble_eq_true rfl) (fun _ h => h) (by decide) rfl RK.1 dX11_whyNot_56 (rx_of RK hn19 rfl hn19b (by decide)) (fun r M' hq _ => ?_)
              obtain ⟨_, rfl, _, rfl, rfl, rfl⟩ := hq
              show go_W mt_X11_whyNot fr_R 59 [some (pv_r m), some (pv_i x1), some (pv_i x2), some (pv_i x3), some (pv_i x4), some (pv_i x5)] [pv_i (I (m + 1) (200 + 14 * n19 + 6))] (mm_si B I) (qi_ (fun x M' => ∃ I', M' = mm_si B I' ∧ P x I'))
              refine go_bipush (v := (6 : Int32)) rfl dX11_whyNot_59 ?_
              refine go_icmp_ne (tgt := 67) dX11_whyNot_61 (by decide) (fun hc => ?_) (fun hc => ?_)
              · replace H := H.1 hc
                refine go_aload_n dX11_whyNot_67 rfl ?_
                refine go_getRe (k := 0) ⟨by decide, rfl, by decide, Or.inr ⟨_, rfl⟩⟩ RK.1 (rf_r1 RK) fl_X11_7 dX11_whyNot_68 ?_
                refine go_iload_n dX11_whyNot_71 rfl ?_
                obtain ⟨n20, ⟨hn20, hn20b⟩, H⟩ := H
                refine go_St (av := [pv_i x1]) (st := [pv_r (m + 1)]) ok_X11_at ⟨by decide, by decide⟩ ml_X11_80 rfl (by decide) (fun v hv => by simp only [List.mem_cons, List.not_mem_nil, or_false] at hv; rcases hv with rfl <;> first | exact pv_1i | exact pv_1r) (Nat.le_of_ble_eq_true rfl) (fun _ h => h) dX11_whyNot_72 (rx_at RK hn20) (fun r M' hq _ => ?_)
                obtain ⟨_, rfl, _, rfl, rfl, rfl⟩ := hq
                show go_W mt_X11_whyNot fr_R 75 [some (pv_r m), some (pv_i x1), some (pv_i x2), some (pv_i x3), some (pv_i x4), some (pv_i x5)] [pv_i (nI (10 + 10 * n20)), pv_r (m + 1)] (mm_si B I) (qi_ (fun x M' => ∃ I', M' = mm_si B I' ∧ P x I'))
                refine go_iconst (v := (3 : Int32)) rfl dX11_whyNot_75 ?_
                refine go_iadd dX11_whyNot_76 ?_
                refine go_ialdN (j := ((10 + 10 * n20) + 3)) ⟨by decide, by decide, by decide⟩ (rf_k1 RK) (nI_ae rfl rfl) (by omega) dX11_whyNot_77 ?_
                refine go_if_ne (tgt := 99) dX11_whyNot_78 (by decide) (fun hc => ?_) (fun hc => ?_)
                · replace H := H.1 hc
                  refine go_bipush (v := (-3 : Int32)) rfl dX11_whyNot_99 ?_
                  exact go_iret rfl rfl dX11_whyNot_101 ⟨_, rfl, _, rfl, H⟩
                · replace H := H.2 hc
                  refine go_iload dX11_whyNot_81 rfl ?_
                  refine go_iconst (v := (-1 : Int32)) rfl dX11_whyNot_83 ?_
                  refine go_icmp_eq (tgt := 102) dX11_whyNot_84 (by decide) (fun hc => ?_) (fun hc => ?_)
                  · replace H := H.1 hc
                    refine go_aload_n dX11_whyNot_102 rfl ?_
                    refine go_iload_n dX11_whyNot_103 rfl ?_
                    refine go_V (av := [pv_i x1]) (st := []) (ci := 11) ok_X11_hasRoom ⟨by decide, by decide⟩ ml_X11_164 rfl (by decide) (fun v hv => by simp only [List.mem_cons, List.not_mem_nil, or_false] at hv; rcases hv with rfl <;> first | exact pv_1i | exact pv_1r) (Nat.le_of_ble_eq_true rfl) (fun _ h => h) (by decide) rfl RK.1 dX11_whyNot_104 H (fun r M' hq _ => ?_)
                    obtain ⟨v22, rfl, I21, rfl, H⟩ := hq
                    show go_W mt_X11_whyNot fr_R 107 [some (pv_r m), some (pv_i x1), some (pv_i x2), some (pv_i x3), some (pv_i x4), some (pv_i x5)] [pv_i v22] (mm_si B I21) (qi_ (fun x M' => ∃ I', M' = mm_si B I' ∧ P x I'))
                    refine go_if_eq (tgt := 125) dX11_whyNot_107 (by decide) (fun hc => ?_) (fun hc => ?_)
                    · replace H := H.1 hc
                      refine go_bipush (v := (-4 : Int32)) rfl dX11_whyNot_125 ?_
                      exact go_iret rfl rfl dX11_whyNot_127 ⟨_, rfl, _, rfl, H⟩
                    · replace H := H.2 hc
                      refine go_aload_n dX11_whyNot_110 rfl ?_
                      refine go_iconst (v := (-1 : Int32)) rfl dX11_whyNot_111 ?_
                      refine go_V (av := [pv_i (-1 : Int32)]) (st := []) (ci := 11) ok_X11_standing ⟨by decide, by decide⟩ ml_X11_115 rfl (by decide) (fun v hv => by simp only [List.mem_cons, List.not_mem_nil, or_false] at hv; rcases hv with rfl <;> first | exact pv_1i | exact pv_1r) (Nat.le_of_ble_eq_true rfl) (fun _ h => h) (by decide) rfl RK.1 dX11_whyNot_112 H (fun r M' hq _ => ?_)
                      obtain ⟨v24, rfl, I23, rfl, H⟩ := hq
                      show go_W mt_X11_whyNot fr_R 115 [some (pv_r m), some (pv_i x1), some (pv_i x2), some (pv_i x3), some (pv_i x4), some (pv_i x5)] [pv_i v24] (mm_si B I23) (qi_ (fun x M' => ∃ I', M' = mm_si B I' ∧ P x I'))
                      refine go_aload_n dX11_whyNot_115 rfl ?_
                      refine go_getRe (k := 0) ⟨by decide, rfl, by decide, Or.inr ⟨_, rfl⟩⟩ RK.1 (rf_r1 RK) fl_X11_7 dX11_whyNot_116 ?_
                      refine go_bipush (v := (8 : Int32)) rfl dX11_whyNot_119 ?_
                      refine go_ialdN (j := 8) ⟨by decide, by decide, by decide⟩ (rf_k1 RK) rfl (by decide) dX11_whyNot_121 ?_
                      refine go_icmp_lt (tgt := 128) dX11_whyNot_122 (by decide) (fun hc => ?_) (fun hc => ?_)
                      · replace H := H.1 hc
                        refine go_aload_n dX11_whyNot_128 rfl ?_
                        refine go_iload dX11_whyNot_129 rfl ?_
                        refine go_V (av := [pv_i x4]) (st := []) (ci := 11) ok_X11_standsWith ⟨by decide, by decide⟩ ml_X11_167 rfl (by decide) (fun v hv => by simp only [List.mem_cons, List.not_mem_nil, or_false] at hv; rcases hv with rfl <;> first | exact pv_1i | exact pv_1r) (Nat.le_of_ble_eq_true rfl) (fun _ h => h) (by decide) rfl RK.1 dX11_whyNot_131 H (fun r M' hq _ => ?_)
                        obtain ⟨v26, rfl, I25, rfl, H⟩ := hq
                        show go_W mt_X11_whyNot fr_R 134 [some (pv_r m), some (pv_i x1), some (pv_i x2), some (pv_i x3), some (pv_i x4), some (pv_i x5)] [pv_i v26] (mm_si B I25) (qi_ (fun x M' => ∃ I', M' = mm_si B I' ∧ P x I'))
                        refine go_iconst (v := (-1 : Int32)) rfl dX11_whyNot_134 ?_
                        refine go_icmp_eq (tgt := 141) dX11_whyNot_135 (by decide) (fun hc => ?_) (fun hc => ?_)
                        · replace H := H.1 hc
                          refine go_aload_n dX11_whyNot_141 rfl ?_
                          refine go_getRe (k := 0) ⟨by decide, rfl, by decide, Or.inr ⟨_, rfl⟩⟩ RK.1 (rf_r1 RK) fl_X11_7 dX11_whyNot_142 ?_
                          refine go_iconst (v := (1 : Int32)) rfl dX11_whyNot_145 ?_
                          refine go_ialdN (j := 1) ⟨by decide, by decide, by decide⟩ (rf_k1 RK) rfl (by decide) dX11_whyNot_146 ?_
                          refine go_sipush (v := (400 : Int32)) rfl dX11_whyNot_147 ?_
                          refine go_icmp_ne (tgt := 156) dX11_whyNot_150 (by decide) (fun hc => ?_) (fun hc => ?_)
                          · replace H := H.1 hc
                            refine go_aload_n dX11_whyNot_156 rfl ?_
                            refine go_iload dX11_whyNot_157 rfl ?_
                            refine go_V (av := [pv_i x4]) (st := []) (ci := 11) ok_X11_isBanned ⟨by decide, by decide⟩ ml_X11_170 rfl (by decide) (fun v hv => by simp only [List.mem_cons, List.not_mem_nil, or_false] at hv; rcases hv with rfl <;> first | exact pv_1i | exact pv_1r) (Nat.le_of_ble_eq_true rfl) (fun _ h => h) (by decide) rfl RK.1 dX11_whyNot_159 H (fun r M' hq _ => ?_)
                            obtain ⟨v28, rfl, I27, rfl, H⟩ := hq
                            show go_W mt_X11_whyNot fr_R 162 [some (pv_r m), some (pv_i x1), some (pv_i x2), some (pv_i x3), some (pv_i x4), some (pv_i x5)] [pv_i v28] (mm_si B I27) (qi_ (fun x M' => ∃ I', M' = mm_si B I' ∧ P x I'))
                            refine go_if_eq (tgt := 170) dX11_whyNot_162 (by decide) (fun hc => ?_) (fun hc => ?_)
                            · replace H := H.1 hc
                              refine go_iconst (v := (0 : Int32)) rfl dX11_whyNot_170 ?_
                              exact go_iret rfl rfl dX11_whyNot_171 ⟨_, rfl, _, rfl, H⟩
                            · replace H := H.2 hc
                              refine go_bipush (v := (-7 : Int32)) rfl dX11_whyNot_165 ?_
                              refine go_goto (tgt := 171) dX11_whyNot_167 (by decide) ?_
                              exact go_iret rfl rfl dX11_whyNot_171 ⟨_, rfl, _, rfl, H⟩
                          · replace H := H.2 hc
                            refine go_bipush (v := (-6 : Int32)) rfl dX11_whyNot_153 ?_
                            exact go_iret rfl rfl dX11_whyNot_155 ⟨_, rfl, _, rfl, H⟩
                        · replace H := H.2 hc
                          refine go_bipush (v := (-5 : Int32)) rfl dX11_whyNot_138 ?_
                          exact go_iret rfl rfl dX11_whyNot_140 ⟨_, rfl, _, rfl, H⟩
                      · replace H := H.2 hc
                        refine go_bipush (v := (-4 : Int32)) rfl dX11_whyNot_125 ?_
                        exact go_iret rfl rfl dX11_whyNot_127 ⟨_, rfl, _, rfl, H⟩
                  · replace H := H.2 hc
                    refine go_aload_n dX11_whyNot_87 rfl ?_
                    refine go_iload dX11_whyNot_88 rfl ?_
                    refine go_bipush (v := (6 : Int32)) rfl dX11_whyNot_90 ?_
                    refine go_V (av := [pv_i x5, pv_i (6 : Int32)]) (st := []) (ci := 11) ok_X11_of ⟨by decide, by decide⟩ ml_X11_94 rfl (by decide) (fun v hv => by simp only [List.mem_cons, List.not_mem_nil, or_false] at hv; rcases hv with rfl | rfl <;> first | exact pv_1i | exact pv_1r) (Nat.le_of_ble_eq_true rfl) (fun _ h => h) (by decide) rfl RK.1 dX11_whyNot_92 (rx_of RK hn19 rfl (by omega) (by decide)) (fun r M' hq _ => ?_)
                    obtain ⟨_, rfl, _, rfl, rfl, rfl⟩ := hq
                    show go_W mt_X11_whyNot fr_R 95 [some (pv_r m), some (pv_i x1), some (pv_i x2), some (pv_i x3), some (pv_i x4), some (pv_i x5)] [pv_i (I (m + 1) (200 + 14 * n19 + 6))] (mm_si B I) (qi_ (fun x M' => ∃ I', M' = mm_si B I' ∧ P x I'))
                    refine go_iconst (v := (5 : Int32)) rfl dX11_whyNot_95 ?_
                    refine go_icmp_ne (tgt := 102) dX11_whyNot_96 (by decide) (fun hc => ?_) (fun hc => ?_)
                    · replace H := H.1 hc
                      refine go_aload_n dX11_whyNot_102 rfl ?_
                      refine go_iload_n dX11_whyNot_103 rfl ?_
                      refine go_V (av := [pv_i x1]) (st := []) (ci := 11) ok_X11_hasRoom ⟨by decide, by decide⟩ ml_X11_164 rfl (by decide) (fun v hv => by simp only [List.mem_cons, List.not_mem_nil, or_false] at hv; rcases hv with rfl <;> first | exact pv_1i | exact pv_1r) (Nat.le_of_ble_eq_true rfl) (fun _ h => h) (by decide) rfl RK.1 dX11_whyNot_104 H (fun r M' hq _ => ?_)
                      obtain ⟨v30, rfl, I29, rfl, H⟩ := hq
                      show go_W mt_X11_whyNot fr_R 107 [some (pv_r m), some (pv_i x1), some (pv_i x2), some (pv_i x3), some (pv_i x4), some (pv_i x5)] [pv_i v30] (mm_si B I29) (qi_ (fun x M' => ∃ I', M' = mm_si B I' ∧ P x I'))
                      refine go_if_eq (tgt := 125) dX11_whyNot_107 (by decide) (fun hc => ?_) (fun hc => ?_)
                      · replace H := H.1 hc
                        refine go_bipush (v := (-4 : Int32)) rfl dX11_whyNot_125 ?_
                        exact go_iret rfl rfl dX11_whyNot_127 ⟨_, rfl, _, rfl, H⟩
                      · replace H := H.2 hc
                        refine go_aload_n dX11_whyNot_110 rfl ?_
                        refine go_iconst (v := (-1 : Int32)) rfl dX11_whyNot_111 ?_
                        refine go_V (av := [pv_i (-1 : Int32)]) (st := []) (ci := 11) ok_X11_standing ⟨by decide, by decide⟩ ml_X11_115 rfl (by decide) (fun v hv => by simp only [List.mem_cons, List.not_mem_nil, or_false] at hv; rcases hv with rfl <;> first | exact pv_1i | exact pv_1r) (Nat.le_of_ble_eq_true rfl) (fun _ h => h) (by decide) rfl RK.1 dX11_whyNot_112 H (fun r M' hq _ => ?_)
                        obtain ⟨v32, rfl, I31, rfl, H⟩ := hq
                        show go_W mt_X11_whyNot fr_R 115 [some (pv_r m), some (pv_i x1), some (pv_i x2), some (pv_i x3), some (pv_i x4), some (pv_i x5)] [pv_i v32] (mm_si B I31) (qi_ (fun x M' => ∃ I', M' = mm_si B I' ∧ P x I'))
                        refine go_aload_n dX11_whyNot_115 rfl ?_
                        refine go_getRe (k := 0) ⟨by decide, rfl, by decide, Or.inr ⟨_, rfl⟩⟩ RK.1 (rf_r1 RK) fl_X11_7 dX11_whyNot_116 ?_
                        refine go_bipush (v := (8 : Int32)) rfl dX11_whyNot_119 ?_
                        refine go_ialdN (j := 8) ⟨by decide, by decide, by decide⟩ (rf_k1 RK) rfl (by decide) dX11_whyNot_121 ?_
                        refine go_icmp_lt (tgt := 128) dX11_whyNot_122 (by decide) (fun hc => ?_) (fun hc => ?_)
                        · replace H := H.1 hc
                          refine go_aload_n dX11_whyNot_128 rfl ?_
                          refine go_iload dX11_whyNot_129 rfl ?_
                          refine go_V (av := [pv_i x4]) (st := []) (ci := 11) ok_X11_standsWith ⟨by decide, by decide⟩ ml_X11_167 rfl (by decide) (fun v hv => by simp only [List.mem_cons, List.not_mem_nil, or_false] at hv; rcases hv with rfl <;> first | exact pv_1i | exact pv_1r) (Nat.le_of_ble_eq_true rfl) (fun _ h => h) (by decide) rfl RK.1 dX11_whyNot_131 H (fun r M' hq _ => ?_)
                          obtain ⟨v34, rfl, I33, rfl, H⟩ := hq
                          show go_W mt_X11_whyNot fr_R 134 [some (pv_r m), some (pv_i x1), some (pv_i x2), some (pv_i x3), some (pv_i x4), some (pv_i x5)] [pv_i v34] (mm_si B I33) (qi_ (fun x M' => ∃ I', M' = mm_si B I' ∧ P x I'))
                          refine go_iconst (v := (-1 : Int32)) rfl dX11_whyNot_134 ?_
                          refine go_icmp_eq (tgt := 141) dX11_whyNot_135 (by decide) (fun hc => ?_) (fun hc => ?_)
                          · replace H := H.1 hc
                            refine go_aload_n dX11_whyNot_141 rfl ?_
                            refine go_getRe (k := 0) ⟨by decide, rfl, by decide, Or.inr ⟨_, rfl⟩⟩ RK.1 (rf_r1 RK) fl_X11_7 dX11_whyNot_142 ?_
                            refine go_iconst (v := (1 : Int32)) rfl dX11_whyNot_145 ?_
                            refine go_ialdN (j := 1) ⟨by decide, by decide, by decide⟩ (rf_k1 RK) rfl (by decide) dX11_whyNot_146 ?_
                            refine go_sipush (v := (400 : Int32)) rfl dX11_whyNot_147 ?_
                            refine go_icmp_ne (tgt := 156) dX11_whyNot_150 (by decide) (fun hc => ?_) (fun hc => ?_)
                            · replace H := H.1 hc
                              refine go_aload_n dX11_whyNot_156 rfl ?_
                              refine go_iload dX11_whyNot_157 rfl ?_
                              refine go_V (av := [pv_i x4]) (st := []) (ci := 11) ok_X11_isBanned ⟨by decide, by decide⟩ ml_X11_170 rfl (by decide) (fun v hv => by simp only [List.mem_cons, List.not_mem_nil, or_false] at hv; rcases hv with rfl <;> first | exact pv_1i | exact pv_1r) (Nat.le_of_ble_eq_true rfl) (fun _ h => h) (by decide) rfl RK.1 dX11_whyNot_159 H (fun r M' hq _ => ?_)
                              obtain ⟨v36, rfl, I35, rfl, H⟩ := hq
                              show go_W mt_X11_whyNot fr_R 162 [some (pv_r m), some (pv_i x1), some (pv_i x2), some (pv_i x3), some (pv_i x4), some (pv_i x5)] [pv_i v36] (mm_si B I35) (qi_ (fun x M' => ∃ I', M' = mm_si B I' ∧ P x I'))
                              refine go_if_eq (tgt := 170) dX11_whyNot_162 (by decide) (fun hc => ?_) (fun hc => ?_)
                              · replace H := H.1 hc
                                refine go_iconst (v := (0 : Int32)) rfl dX11_whyNot_170 ?_
                                exact go_iret rfl rfl dX11_whyNot_171 ⟨_, rfl, _, rfl, H⟩
                              · replace H := H.2 hc
                                refine go_bipush (v := (-7 : Int32)) rfl dX11_whyNot_165 ?_
                                refine go_goto (tgt := 171) dX11_whyNot_167 (by decide) ?_
                                exact go_iret rfl rfl dX11_whyNot_171 ⟨_, rfl, _, rfl, H⟩
                            · replace H := H.2 hc
                              refine go_bipush (v := (-6 : Int32)) rfl dX11_whyNot_153 ?_
                              exact go_iret rfl rfl dX11_whyNot_155 ⟨_, rfl, _, rfl, H⟩
                          · replace H := H.2 hc
                            refine go_bipush (v := (-5 : Int32)) rfl dX11_whyNot_138 ?_
                            exact go_iret rfl rfl dX11_whyNot_140 ⟨_, rfl, _, rfl, H⟩
                        · replace H := H.2 hc
                          refine go_bipush (v := (-4 : Int32)) rfl dX11_whyNot_125 ?_
                          exact go_iret rfl rfl dX11_whyNot_127 ⟨_, rfl, _, rfl, H⟩
                    · replace H := H.2 hc
                      refine go_bipush (v := (-3 : Int32)) rfl dX11_whyNot_99 ?_
                      exact go_iret rfl rfl dX11_whyNot_101 ⟨_, rfl, _, rfl, H⟩
              · replace H := H.2 hc
                refine go_bipush (v := (-2 : Int32)) rfl dX11_whyNot_64 ?_
                exact go_iret rfl rfl dX11_whyNot_66 ⟨_, rfl, _, rfl, H⟩
            · replace H := H.2 hc
              refine go_V (av := [pv_i x5]) (st := []) (ci := 11) ok_X11_isTask ⟨by decide, by decide⟩ ml_X11_161 rfl (by decide) (fun v hv => by simp only [List.mem_cons, List.not_mem_nil, or_false] at hv; rcases hv with rfl <;> first | exact pv_1i | exact pv_1r) (Nat.le_of_ble_eq_true rfl) (fun _ h => h) (by decide) rfl RK.1 dX11_whyNot_45 (rx_isTask_f RK hc) (fun r M' hq _ => ?_)
              obtain ⟨_, rfl, _, rfl, rfl, rfl⟩ := hq
              show go_W mt_X11_whyNot fr_R 48 [some (pv_r m), some (pv_i x1), some (pv_i x2), some (pv_i x3), some (pv_i x4), some (pv_i x5)] [pv_i (0 : Int32)] (mm_si B I) (qi_ (fun x M' => ∃ I', M' = mm_si B I' ∧ P x I'))
              refine go_if_eq (tgt := 64) dX11_whyNot_48 (by decide) (fun _ => ?_) (fun hc => absurd hc (by decide))
              refine go_bipush (v := (-2 : Int32)) rfl dX11_whyNot_64 ?_
              exact go_iret rfl rfl dX11_whyNot_66 ⟨_, rfl, _, rfl, H⟩
        · replace H := H.2 hc
          refine go_St (av := [pv_i x4]) (st := []) ok_X11_isKey ⟨by decide, by decide⟩ ml_X11_158 rfl (by decide) (fun v hv => by simp only [List.mem_cons, List.not_mem_nil, or_false] at hv; rcases hv with rfl <;> first | exact pv_1i | exact pv_1r) (Nat.le_of_ble_eq_true rfl) (fun _ h => h) dX11_whyNot_27 (rx_isKey_f RK hc) (fun r M' hq _ => ?_)
          obtain ⟨_, rfl, _, rfl, rfl, rfl⟩ := hq
          show go_W mt_X11_whyNot fr_R 30 [some (pv_r m), some (pv_i x1), some (pv_i x2), some (pv_i x3), some (pv_i x4), some (pv_i x5)] [pv_i (0 : Int32)] (mm_si B I) (qi_ (fun x M' => ∃ I', M' = mm_si B I' ∧ P x I'))
          refine go_if_ne (tgt := 36) dX11_whyNot_30 (by decide) (fun hc => absurd hc (by decide)) (fun _ => ?_)
          refine go_bipush (v := (-2 : Int32)) rfl dX11_whyNot_33 ?_
          exact go_iret rfl rfl dX11_whyNot_35 ⟨_, rfl, _, rfl, H⟩
      · replace H := H.2 hc
        refine go_St (av := [pv_i x3, pv_i (1 : Int32), pv_i (20 : Int32)]) (st := []) ok_X11_isIn ⟨by decide, by decide⟩ ml_X11_90 rfl (by decide) (fun v hv => by simp only [List.mem_cons, List.not_mem_nil, or_false] at hv; rcases hv with rfl | rfl | rfl <;> first | exact pv_1i | exact pv_1r) (Nat.le_of_ble_eq_true rfl) (fun _ h => h) dX11_whyNot_19 (rx_isIn_f RK hc) (fun r M' hq _ => ?_)
        obtain ⟨_, rfl, _, rfl, rfl, rfl⟩ := hq
        show go_W mt_X11_whyNot fr_R 22 [some (pv_r m), some (pv_i x1), some (pv_i x2), some (pv_i x3), some (pv_i x4), some (pv_i x5)] [pv_i (0 : Int32)] (mm_si B I) (qi_ (fun x M' => ∃ I', M' = mm_si B I' ∧ P x I'))
        refine go_if_eq (tgt := 33) dX11_whyNot_22 (by decide) (fun _ => ?_) (fun hc => absurd hc (by decide))
        refine go_bipush (v := (-2 : Int32)) rfl dX11_whyNot_33 ?_
        exact go_iret rfl rfl dX11_whyNot_35 ⟨_, rfl, _, rfl, H⟩
    · replace H := H.2 hc
      refine go_St (av := [pv_i x2]) (st := []) ok_X11_isPriority ⟨by decide, by decide⟩ ml_X11_155 rfl (by decide) (fun v hv => by simp only [List.mem_cons, List.not_mem_nil, or_false] at hv; rcases hv with rfl <;> first | exact pv_1i | exact pv_1r) (Nat.le_of_ble_eq_true rfl) (fun _ h => h) dX11_whyNot_9 (rx_isPriority_f RK hc) (fun r M' hq _ => ?_)
      obtain ⟨_, rfl, _, rfl, rfl, rfl⟩ := hq
      show go_W mt_X11_whyNot fr_R 12 [some (pv_r m), some (pv_i x1), some (pv_i x2), some (pv_i x3), some (pv_i x4), some (pv_i x5)] [pv_i (0 : Int32)] (mm_si B I) (qi_ (fun x M' => ∃ I', M' = mm_si B I' ∧ P x I'))
      refine go_if_eq (tgt := 33) dX11_whyNot_12 (by decide) (fun _ => ?_) (fun hc => absurd hc (by decide))
      refine go_bipush (v := (-2 : Int32)) rfl dX11_whyNot_33 ?_
      exact go_iret rfl rfl dX11_whyNot_35 ⟨_, rfl, _, rfl, H⟩
  · replace H := H.2 hc
    refine go_V (av := [pv_i x1]) (st := []) (ci := 11) ok_X11_isLane ⟨by decide, by decide⟩ ml_X11_152 rfl (by decide) (fun v hv => by simp only [List.mem_cons, List.not_mem_nil, or_false] at hv; rcases hv with rfl <;> first | exact pv_1i | exact pv_1r) (Nat.le_of_ble_eq_true rfl) (fun _ h => h) (by decide) rfl RK.1 dX11_whyNot_2 (rx_isLane_f RK hc) (fun r M' hq _ => ?_)
    obtain ⟨_, rfl, _, rfl, rfl, rfl⟩ := hq
    show go_W mt_X11_whyNot fr_R 5 [some (pv_r m), some (pv_i x1), some (pv_i x2), some (pv_i x3), some (pv_i x4), some (pv_i x5)] [pv_i (0 : Int32)] (mm_si B I) (qi_ (fun x M' => ∃ I', M' = mm_si B I' ∧ P x I'))
    refine go_if_eq (tgt := 33) dX11_whyNot_5 (by decide) (fun _ => ?_) (fun hc => absurd hc (by decide))
    refine go_bipush (v := (-2 : Int32)) rfl dX11_whyNot_33 ?_
    exact go_iret rfl rfl dX11_whyNot_35 ⟨_, rfl, _, rfl, H⟩
set_option maxRecDepth 20000 in
theorem wq_X11_comesNow_0 {B : mm_T} {I : Nat → Nat → Int32} {m : Nat} (RK : rf_ok B m) {x1 x2 x3 x4 x5 : Int32} {P : Int32 → (Nat → Nat → Int32) → Prop} (H : rs_i mt_X11_whyNot [pv_r m, pv_i x1, pv_i x2, pv_i x3, pv_i x4, pv_i x5] B I (fun v2 I1 => (((v2 = 0) → ∃ n3, (I1 (m + 1) 1 = nI n3 ∧ n3 < 400) ∧ (∀ I4, I4 = i2_u I1 (m + 1) (200 + 14 * n3 + 0) x1 → ∀ I5, I5 = i2_u I4 (m + 1) (200 + 14 * n3 + 1) x2 → ∀ I6, I6 = i2_u I5 (m + 1) (200 + 14 * n3 + 2) x3 → ∀ I7, I7 = i2_u I6 (m + 1) (200 + 14 * n3 + 3) x4 → ∀ I8, I8 = i2_u I7 (m + 1) (200 + 14 * n3 + 4) x5 → ∀ I9, I9 = i2_u I8 (m + 1) (200 + 14 * n3 + 5) (I8 (m + 1) 0) → ∀ I10, I10 = i2_u I9 (m + 1) (200 + 14 * n3 + 7) (0 : Int32) → ∀ I11, I11 = i2_u I10 (m + 1) (200 + 14 * n3 + 6) (1 : Int32) → rw_i mt_X11_comesNow 106 [some (pv_r m), some (pv_i x1), some (pv_i x2), some (pv_i x3), some (pv_i x4), some (pv_i x5), some (pv_i v2), some (pv_i (I1 (m + 1) 1)), some (pv_i (8 : Int32))] [] B I11 P)) ∧ ((¬ v2 = 0) → P v2 I1)))) : rw_i mt_X11_comesNow 0 [some (pv_r m), some (pv_i x1), some (pv_i x2), some (pv_i x3), some (pv_i x4), some (pv_i x5), none, none, none] [] B I P := by
  refine go_aload_n dX11_comesNow_0 rfl ?_
  refine go_iload_n dX11_comesNow_1 rfl ?_
  refine go_iload_n dX11_comesNow_2 rfl ?_
  refine go_iload_n dX11_comesNow_3 rfl ?_
  refine go_iload dX11_comesNow_4 rfl ?_
  refine go_iload dX11_comesNow_6 rfl ?_
  refine go_V (av := [pv_i x1, pv_i x2, pv_i x3, pv_i x4, pv_i x5]) (st := []) (ci := 11) ok_X11_whyNot ⟨by decide, by decide⟩ ml_X11_173 rfl (by decide) (fun v hv => by simp only [List.mem_cons, List.not_mem_nil, or_false] at hv; rcases hv with rfl | rfl | rfl | rfl | rfl <;> first | exact pv_1i | exact pv_1r) (Nat.le_of_ble_eq_true rfl) (fun _ h => h) (by decide) rfl RK.1 dX11_comesNow_8 H (fun r M' hq _ => ?_)
  obtain ⟨v2, rfl, I1, rfl, H⟩ := hq
  show go_W mt_X11_comesNow fr_R 11 [some (pv_r m), some (pv_i x1), some (pv_i x2), some (pv_i x3), some (pv_i x4), some (pv_i x5), none, none, none] [pv_i v2] (mm_si B I1) (qi_ (fun x M' => ∃ I', M' = mm_si B I' ∧ P x I'))
  refine go_istore (by decide) dX11_comesNow_11 ?_
  show go_W mt_X11_comesNow fr_R 13 [some (pv_r m), some (pv_i x1), some (pv_i x2), some (pv_i x3), some (pv_i x4), some (pv_i x5), some (pv_i v2), none, none] [] (mm_si B I1) (qi_ (fun x M' => ∃ I', M' = mm_si B I' ∧ P x I'))
  refine go_iload dX11_comesNow_13 rfl ?_
  refine go_if_eq (tgt := 21) dX11_comesNow_15 (by decide) (fun hc => ?_) (fun hc => ?_)
  · replace H := H.1 hc
    refine go_aload_n dX11_comesNow_21 rfl ?_
    refine go_getRe (k := 0) ⟨by decide, rfl, by decide, Or.inr ⟨_, rfl⟩⟩ RK.1 (rf_r1 RK) fl_X11_7 dX11_comesNow_22 ?_
    refine go_iconst (v := (1 : Int32)) rfl dX11_comesNow_25 ?_
    refine go_ialdN (j := 1) ⟨by decide, by decide, by decide⟩ (rf_k1 RK) rfl (by decide) dX11_comesNow_26 ?_
    refine go_istore (by decide) dX11_comesNow_27 ?_
    show go_W mt_X11_comesNow fr_R 29 [some (pv_r m), some (pv_i x1), some (pv_i x2), some (pv_i x3), some (pv_i x4), some (pv_i x5), some (pv_i v2), some (pv_i (I1 (m + 1) 1)), none] [] (mm_si B I1) (qi_ (fun x M' => ∃ I', M' = mm_si B I' ∧ P x I'))
    refine go_aload_n dX11_comesNow_29 rfl ?_
    refine go_iload dX11_comesNow_30 rfl ?_
    refine go_iconst (v := (0 : Int32)) rfl dX11_comesNow_32 ?_
    refine go_iload_n dX11_comesNow_33 rfl ?_
    obtain ⟨n3, ⟨hn3, hn3b⟩, H⟩ := H
    refine go_V (av := [pv_i (I1 (m + 1) 1), pv_i (0 : Int32), pv_i x1]) (st := []) (ci := 11) ok_X11_is ⟨by decide, by decide⟩ ml_X11_121 rfl (by decide) (fun v hv => by simp only [List.mem_cons, List.not_mem_nil, or_false] at hv; rcases hv with rfl | rfl | rfl <;> first | exact pv_1i | exact pv_1r) (Nat.le_of_ble_eq_true rfl) (fun _ h => h) (by decide) rfl RK.1 dX11_comesNow_34 (rx_is RK hn3 rfl hn3b (by decide)) (fun r M' hq _ => ?_)
    obtain ⟨rfl, _, rfl, rfl⟩ := hq
    show go_W mt_X11_comesNow fr_R 37 [some (pv_r m), some (pv_i x1), some (pv_i x2), some (pv_i x3), some (pv_i x4), some (pv_i x5), some (pv_i v2), some (pv_i (I1 (m + 1) 1)), none] [] (mm_si B (i2_u I1 (m + 1) (200 + 14 * n3 + 0) x1)) (qi_ (fun x M' => ∃ I', M' = mm_si B I' ∧ P x I'))
    obtain ⟨I4, hI4⟩ : ∃ I', I' = i2_u I1 (m + 1) (200 + 14 * n3 + 0) x1 := ⟨_, rfl⟩
    rw [← hI4]
    replace H := H I4 hI4
    refine go_aload_n dX11_comesNow_37 rfl ?_
    refine go_iload dX11_comesNow_38 rfl ?_
    refine go_iconst (v := (1 : Int32)) rfl dX11_comesNow_40 ?_
    refine go_iload_n dX11_comesNow_41 rfl ?_
    refine go_V (av := [pv_i (I1 (m + 1) 1), pv_i (1 : Int32), pv_i x2]) (st := []) (ci := 11) ok_X11_is ⟨by decide, by decide⟩ ml_X11_121 rfl (by decide) (fun v hv => by simp only [List.mem_cons, List.not_mem_nil, or_false] at hv; rcases hv with rfl | rfl | rfl <;> first | exact pv_1i | exact pv_1r) (Nat.le_of_ble_eq_true rfl) (fun _ h => h) (by decide) rfl RK.1 dX11_comesNow_42 (rx_is RK hn3 rfl (by omega) (by decide)) (fun r M' hq _ => ?_)
    obtain ⟨rfl, _, rfl, rfl⟩ := hq
    show go_W mt_X11_comesNow fr_R 45 [some (pv_r m), some (pv_i x1), some (pv_i x2), some (pv_i x3), some (pv_i x4), some (pv_i x5), some (pv_i v2), some (pv_i (I1 (m + 1) 1)), none] [] (mm_si B (i2_u I4 (m + 1) (200 + 14 * n3 + 1) x2)) (qi_ (fun x M' => ∃ I', M' = mm_si B I' ∧ P x I'))
    obtain ⟨I5, hI5⟩ : ∃ I', I' = i2_u I4 (m + 1) (200 + 14 * n3 + 1) x2 := ⟨_, rfl⟩
    rw [← hI5]
    replace H := H I5 hI5
    refine go_aload_n dX11_comesNow_45 rfl ?_
    refine go_iload dX11_comesNow_46 rfl ?_
    refine go_iconst (v := (2 : Int32)) rfl dX11_comesNow_48 ?_
    refine go_iload_n dX11_comesNow_49 rfl ?_
    refine go_V (av := [pv_i (I1 (m + 1) 1), pv_i (2 : Int32), pv_i x3]) (st := []) (ci := 11) ok_X11_is ⟨by decide, by decide⟩ ml_X11_121 rfl (by decide) (fun v hv => by simp only [List.mem_cons, List.not_mem_nil, or_false] at hv; rcases hv with rfl | rfl | rfl <;> first | exact pv_1i | exact pv_1r) (Nat.le_of_ble_eq_true rfl) (fun _ h => h) (by decide) rfl RK.1 dX11_comesNow_50 (rx_is RK hn3 rfl (by omega) (by decide)) (fun r M' hq _ => ?_)
    obtain ⟨rfl, _, rfl, rfl⟩ := hq
    show go_W mt_X11_comesNow fr_R 53 [some (pv_r m), some (pv_i x1), some (pv_i x2), some (pv_i x3), some (pv_i x4), some (pv_i x5), some (pv_i v2), some (pv_i (I1 (m + 1) 1)), none] [] (mm_si B (i2_u I5 (m + 1) (200 + 14 * n3 + 2) x3)) (qi_ (fun x M' => ∃ I', M' = mm_si B I' ∧ P x I'))
    obtain ⟨I6, hI6⟩ : ∃ I', I' = i2_u I5 (m + 1) (200 + 14 * n3 + 2) x3 := ⟨_, rfl⟩
    rw [← hI6]
    replace H := H I6 hI6
    refine go_aload_n dX11_comesNow_53 rfl ?_
    refine go_iload dX11_comesNow_54 rfl ?_
    refine go_iconst (v := (3 : Int32)) rfl dX11_comesNow_56 ?_
    refine go_iload dX11_comesNow_57 rfl ?_
    refine go_V (av := [pv_i (I1 (m + 1) 1), pv_i (3 : Int32), pv_i x4]) (st := []) (ci := 11) ok_X11_is ⟨by decide, by decide⟩ ml_X11_121 rfl (by decide) (fun v hv => by simp only [List.mem_cons, List.not_mem_nil, or_false] at hv; rcases hv with rfl | rfl | rfl <;> first | exact pv_1i | exact pv_1r) (Nat.le_of_ble_eq_true rfl) (fun _ h => h) (by decide) rfl RK.1 dX11_comesNow_59 (rx_is RK hn3 rfl (by omega) (by decide)) (fun r M' hq _ => ?_)
    obtain ⟨rfl, _, rfl, rfl⟩ := hq
    show go_W mt_X11_comesNow fr_R 62 [some (pv_r m), some (pv_i x1), some (pv_i x2), some (pv_i x3), some (pv_i x4), some (pv_i x5), some (pv_i v2), some (pv_i (I1 (m + 1) 1)), none] [] (mm_si B (i2_u I6 (m + 1) (200 + 14 * n3 + 3) x4)) (qi_ (fun x M' => ∃ I', M' = mm_si B I' ∧ P x I'))
    obtain ⟨I7, hI7⟩ : ∃ I', I' = i2_u I6 (m + 1) (200 + 14 * n3 + 3) x4 := ⟨_, rfl⟩
    rw [← hI7]
    replace H := H I7 hI7
    refine go_aload_n dX11_comesNow_62 rfl ?_
    refine go_iload dX11_comesNow_63 rfl ?_
    refine go_iconst (v := (4 : Int32)) rfl dX11_comesNow_65 ?_
    refine go_iload dX11_comesNow_66 rfl ?_
    refine go_V (av := [pv_i (I1 (m + 1) 1), pv_i (4 : Int32), pv_i x5]) (st := []) (ci := 11) ok_X11_is ⟨by decide, by decide⟩ ml_X11_121 rfl (by decide) (fun v hv => by simp only [List.mem_cons, List.not_mem_nil, or_false] at hv; rcases hv with rfl | rfl | rfl <;> first | exact pv_1i | exact pv_1r) (Nat.le_of_ble_eq_true rfl) (fun _ h => h) (by decide) rfl RK.1 dX11_comesNow_68 (rx_is RK hn3 rfl (by omega) (by decide)) (fun r M' hq _ => ?_)
    obtain ⟨rfl, _, rfl, rfl⟩ := hq
    show go_W mt_X11_comesNow fr_R 71 [some (pv_r m), some (pv_i x1), some (pv_i x2), some (pv_i x3), some (pv_i x4), some (pv_i x5), some (pv_i v2), some (pv_i (I1 (m + 1) 1)), none] [] (mm_si B (i2_u I7 (m + 1) (200 + 14 * n3 + 4) x5)) (qi_ (fun x M' => ∃ I', M' = mm_si B I' ∧ P x I'))
    obtain ⟨I8, hI8⟩ : ∃ I', I' = i2_u I7 (m + 1) (200 + 14 * n3 + 4) x5 := ⟨_, rfl⟩
    rw [← hI8]
    replace H := H I8 hI8
    refine go_aload_n dX11_comesNow_71 rfl ?_
    refine go_iload dX11_comesNow_72 rfl ?_
    refine go_iconst (v := (5 : Int32)) rfl dX11_comesNow_74 ?_
    refine go_aload_n dX11_comesNow_75 rfl ?_
    refine go_getRe (k := 0) ⟨by decide, rfl, by decide, Or.inr ⟨_, rfl⟩⟩ RK.1 (rf_r1 RK) fl_X11_7 dX11_comesNow_76 ?_
    refine go_iconst (v := (0 : Int32)) rfl dX11_comesNow_79 ?_
    refine go_ialdN (j := 0) ⟨by decide, by decide, by decide⟩ (rf_k1 RK) rfl (by decide) dX11_comesNow_80 ?_
    refine go_V (av := [pv_i (I1 (m + 1) 1), pv_i (5 : Int32), pv_i (I8 (m + 1) 0)]) (st := []) (ci := 11) ok_X11_is ⟨by decide, by decide⟩ ml_X11_121 rfl (by decide) (fun v hv => by simp only [List.mem_cons, List.not_mem_nil, or_false] at hv; rcases hv with rfl | rfl | rfl <;> first | exact pv_1i | exact pv_1r) (Nat.le_of_ble_eq_true rfl) (fun _ h => h) (by decide) rfl RK.1 dX11_comesNow_81 (rx_is RK hn3 rfl (by omega) (by decide)) (fun r M' hq _ => ?_)
    obtain ⟨rfl, _, rfl, rfl⟩ := hq
    show go_W mt_X11_comesNow fr_R 84 [some (pv_r m), some (pv_i x1), some (pv_i x2), some (pv_i x3), some (pv_i x4), some (pv_i x5), some (pv_i v2), some (pv_i (I1 (m + 1) 1)), none] [] (mm_si B (i2_u I8 (m + 1) (200 + 14 * n3 + 5) (I8 (m + 1) 0))) (qi_ (fun x M' => ∃ I', M' = mm_si B I' ∧ P x I'))
    obtain ⟨I9, hI9⟩ : ∃ I', I' = i2_u I8 (m + 1) (200 + 14 * n3 + 5) (I8 (m + 1) 0) := ⟨_, rfl⟩
    rw [← hI9]
    replace H := H I9 hI9
    refine go_aload_n dX11_comesNow_84 rfl ?_
    refine go_iload dX11_comesNow_85 rfl ?_
    refine go_bipush (v := (7 : Int32)) rfl dX11_comesNow_87 ?_
    refine go_iconst (v := (0 : Int32)) rfl dX11_comesNow_89 ?_
    refine go_V (av := [pv_i (I1 (m + 1) 1), pv_i (7 : Int32), pv_i (0 : Int32)]) (st := []) (ci := 11) ok_X11_is ⟨by decide, by decide⟩ ml_X11_121 rfl (by decide) (fun v hv => by simp only [List.mem_cons, List.not_mem_nil, or_false] at hv; rcases hv with rfl | rfl | rfl <;> first | exact pv_1i | exact pv_1r) (Nat.le_of_ble_eq_true rfl) (fun _ h => h) (by decide) rfl RK.1 dX11_comesNow_90 (rx_is RK hn3 rfl (by omega) (by decide)) (fun r M' hq _ => ?_)
    obtain ⟨rfl, _, rfl, rfl⟩ := hq
    show go_W mt_X11_comesNow fr_R 93 [some (pv_r m), some (pv_i x1), some (pv_i x2), some (pv_i x3), some (pv_i x4), some (pv_i x5), some (pv_i v2), some (pv_i (I1 (m + 1) 1)), none] [] (mm_si B (i2_u I9 (m + 1) (200 + 14 * n3 + 7) (0 : Int32))) (qi_ (fun x M' => ∃ I', M' = mm_si B I' ∧ P x I'))
    obtain ⟨I10, hI10⟩ : ∃ I', I' = i2_u I9 (m + 1) (200 + 14 * n3 + 7) (0 : Int32) := ⟨_, rfl⟩
    rw [← hI10]
    replace H := H I10 hI10
    refine go_aload_n dX11_comesNow_93 rfl ?_
    refine go_iload dX11_comesNow_94 rfl ?_
    refine go_bipush (v := (6 : Int32)) rfl dX11_comesNow_96 ?_
    refine go_iconst (v := (1 : Int32)) rfl dX11_comesNow_98 ?_
    refine go_V (av := [pv_i (I1 (m + 1) 1), pv_i (6 : Int32), pv_i (1 : Int32)]) (st := []) (ci := 11) ok_X11_is ⟨by decide, by decide⟩ ml_X11_121 rfl (by decide) (fun v hv => by simp only [List.mem_cons, List.not_mem_nil, or_false] at hv; rcases hv with rfl | rfl | rfl <;> first | exact pv_1i | exact pv_1r) (Nat.le_of_ble_eq_true rfl) (fun _ h => h) (by decide) rfl RK.1 dX11_comesNow_99 (rx_is RK hn3 rfl (by omega) (by decide)) (fun r M' hq _ => ?_)
    obtain ⟨rfl, _, rfl, rfl⟩ := hq
    show go_W mt_X11_comesNow fr_R 102 [some (pv_r m), some (pv_i x1), some (pv_i x2), some (pv_i x3), some (pv_i x4), some (pv_i x5), some (pv_i v2), some (pv_i (I1 (m + 1) 1)), none] [] (mm_si B (i2_u I10 (m + 1) (200 + 14 * n3 + 6) (1 : Int32))) (qi_ (fun x M' => ∃ I', M' = mm_si B I' ∧ P x I'))
    obtain ⟨I11, hI11⟩ : ∃ I', I' = i2_u I10 (m + 1) (200 + 14 * n3 + 6) (1 : Int32) := ⟨_, rfl⟩
    rw [← hI11]
    replace H := H I11 hI11
    refine go_bipush (v := (8 : Int32)) rfl dX11_comesNow_102 ?_
    refine go_istore (by decide) dX11_comesNow_104 ?_
    show go_W mt_X11_comesNow fr_R 106 [some (pv_r m), some (pv_i x1), some (pv_i x2), some (pv_i x3), some (pv_i x4), some (pv_i x5), some (pv_i v2), some (pv_i (I1 (m + 1) 1)), some (pv_i (8 : Int32))] [] (mm_si B I11) (qi_ (fun x M' => ∃ I', M' = mm_si B I' ∧ P x I'))
    exact H
  · replace H := H.2 hc
    refine go_iload dX11_comesNow_18 rfl ?_
    exact go_iret rfl rfl dX11_comesNow_20 ⟨_, rfl, _, rfl, H⟩
set_option maxRecDepth 20000 in
theorem wq_X11_comesNow_106 {B : mm_T} {I : Nat → Nat → Int32} {m : Nat} (RK : rf_ok B m) {x1 x2 x3 x4 x5 x6 x7 x8 : Int32} {P : Int32 → (Nat → Nat → Int32) → Prop} (H : ((((13 : Int32) < x8) → ∀ I1, I1 = i2_u I (m + 1) 1 (I (m + 1) 1 + (1 : Int32)) → rs_i mt_X11_isHeldBack [pv_r m, pv_i x7] B I1 (fun v3 I2 => (((¬ v3 = 0) → rs_v mt_X11_writes [pv_r m, pv_i (0 : Int32), pv_i x7, pv_i (-1 : Int32), pv_i (0 : Int32)] B I2 (fun I4 => P x7 I4)) ∧ ((v3 = 0) → rs_v mt_X11_waitsNow [pv_r m, pv_i x7] B I2 (fun I5 => rs_v mt_X11_writes [pv_r m, pv_i (0 : Int32), pv_i x7, pv_i (-1 : Int32), pv_i (0 : Int32)] B I5 (fun I6 => P x7 I6)))))) ∧ ((¬ (13 : Int32) < x8) → ∃ n7, (x7 = nI n7 ∧ n7 < 400) ∧ (∃ n8, (x8 = nI n8 ∧ n8 < 14) ∧ (∀ I9, I9 = i2_u I (m + 1) (200 + 14 * n7 + n8) (-1 : Int32) → rw_i mt_X11_comesNow 106 [some (pv_r m), some (pv_i x1), some (pv_i x2), some (pv_i x3), some (pv_i x4), some (pv_i x5), some (pv_i x6), some (pv_i x7), some (pv_i (nI (n8 + 1)))] [] B I9 P))))) : rw_i mt_X11_comesNow 106 [some (pv_r m), some (pv_i x1), some (pv_i x2), some (pv_i x3), some (pv_i x4), some (pv_i x5), some (pv_i x6), some (pv_i x7), some (pv_i x8)] [] B I P := by
  refine go_iload dX11_comesNow_106 rfl ?_
  refine go_bipush (v := (13 : Int32)) rfl dX11_comesNow_108 ?_
  refine go_icmp_gt (tgt := 128) dX11_comesNow_110 (by decide) (fun hc => ?_) (fun hc => ?_)
  · replace H := H.1 hc
    refine go_aload_n dX11_comesNow_128 rfl ?_
    refine go_getRe (k := 0) ⟨by decide, rfl, by decide, Or.inr ⟨_, rfl⟩⟩ RK.1 (rf_r1 RK) fl_X11_7 dX11_comesNow_129 ?_
    refine go_iconst (v := (1 : Int32)) rfl dX11_comesNow_132 ?_
    refine go_dup2 pv_1i pv_1r dX11_comesNow_133 ?_
    refine go_ialdN (j := 1) ⟨by decide, by decide, by decide⟩ (rf_k1 RK) rfl (by decide) dX11_comesNow_134 ?_
    refine go_iconst (v := (1 : Int32)) rfl dX11_comesNow_135 ?_
    refine go_iadd dX11_comesNow_136 ?_
    refine go_iastN (j := 1) ⟨by decide, by decide, by decide⟩ (rf_k1 RK) rfl rfl (by decide) dX11_comesNow_137 ?_
    show go_W mt_X11_comesNow fr_R 138 [some (pv_r m), some (pv_i x1), some (pv_i x2), some (pv_i x3), some (pv_i x4), some (pv_i x5), some (pv_i x6), some (pv_i x7), some (pv_i x8)] [] (mm_si B (i2_u I (m + 1) 1 (I (m + 1) 1 + (1 : Int32)))) (qi_ (fun x M' => ∃ I', M' = mm_si B I' ∧ P x I'))
    obtain ⟨I1, hI1⟩ : ∃ I', I' = i2_u I (m + 1) 1 (I (m + 1) 1 + (1 : Int32)) := ⟨_, rfl⟩
    rw [← hI1]
    replace H := H I1 hI1
    refine go_aload_n dX11_comesNow_138 rfl ?_
    refine go_iload dX11_comesNow_139 rfl ?_
    refine go_V (av := [pv_i x7]) (st := []) (ci := 11) ok_X11_isHeldBack ⟨by decide, by decide⟩ ml_X11_177 rfl (by decide) (fun v hv => by simp only [List.mem_cons, List.not_mem_nil, or_false] at hv; rcases hv with rfl <;> first | exact pv_1i | exact pv_1r) (Nat.le_of_ble_eq_true rfl) (fun _ h => h) (by decide) rfl RK.1 dX11_comesNow_141 H (fun r M' hq _ => ?_)
    obtain ⟨v3, rfl, I2, rfl, H⟩ := hq
    show go_W mt_X11_comesNow fr_R 144 [some (pv_r m), some (pv_i x1), some (pv_i x2), some (pv_i x3), some (pv_i x4), some (pv_i x5), some (pv_i x6), some (pv_i x7), some (pv_i x8)] [pv_i v3] (mm_si B I2) (qi_ (fun x M' => ∃ I', M' = mm_si B I' ∧ P x I'))
    refine go_if_ne (tgt := 153) dX11_comesNow_144 (by decide) (fun hc => ?_) (fun hc => ?_)
    · replace H := H.1 hc
      refine go_aload_n dX11_comesNow_153 rfl ?_
      refine go_iconst (v := (0 : Int32)) rfl dX11_comesNow_154 ?_
      refine go_iload dX11_comesNow_155 rfl ?_
      refine go_iconst (v := (-1 : Int32)) rfl dX11_comesNow_157 ?_
      refine go_iconst (v := (0 : Int32)) rfl dX11_comesNow_158 ?_
      refine go_V (av := [pv_i (0 : Int32), pv_i x7, pv_i (-1 : Int32), pv_i (0 : Int32)]) (st := []) (ci := 11) ok_X11_writes ⟨by decide, by decide⟩ ml_X11_125 rfl (by decide) (fun v hv => by simp only [List.mem_cons, List.not_mem_nil, or_false] at hv; rcases hv with rfl | rfl | rfl | rfl <;> first | exact pv_1i | exact pv_1r) (Nat.le_of_ble_eq_true rfl) (fun _ h => h) (by decide) rfl RK.1 dX11_comesNow_159 H (fun r M' hq _ => ?_)
      obtain ⟨rfl, I4, rfl, H⟩ := hq
      show go_W mt_X11_comesNow fr_R 162 [some (pv_r m), some (pv_i x1), some (pv_i x2), some (pv_i x3), some (pv_i x4), some (pv_i x5), some (pv_i x6), some (pv_i x7), some (pv_i x8)] [] (mm_si B I4) (qi_ (fun x M' => ∃ I', M' = mm_si B I' ∧ P x I'))
      refine go_iload dX11_comesNow_162 rfl ?_
      exact go_iret rfl rfl dX11_comesNow_164 ⟨_, rfl, _, rfl, H⟩
    · replace H := H.2 hc
      refine go_aload_n dX11_comesNow_147 rfl ?_
      refine go_iload dX11_comesNow_148 rfl ?_
      refine go_V (av := [pv_i x7]) (st := []) (ci := 11) ok_X11_waitsNow ⟨by decide, by decide⟩ ml_X11_146 rfl (by decide) (fun v hv => by simp only [List.mem_cons, List.not_mem_nil, or_false] at hv; rcases hv with rfl <;> first | exact pv_1i | exact pv_1r) (Nat.le_of_ble_eq_true rfl) (fun _ h => h) (by decide) rfl RK.1 dX11_comesNow_150 H (fun r M' hq _ => ?_)
      obtain ⟨rfl, I5, rfl, H⟩ := hq
      show go_W mt_X11_comesNow fr_R 153 [some (pv_r m), some (pv_i x1), some (pv_i x2), some (pv_i x3), some (pv_i x4), some (pv_i x5), some (pv_i x6), some (pv_i x7), some (pv_i x8)] [] (mm_si B I5) (qi_ (fun x M' => ∃ I', M' = mm_si B I' ∧ P x I'))
      refine go_aload_n dX11_comesNow_153 rfl ?_
      refine go_iconst (v := (0 : Int32)) rfl dX11_comesNow_154 ?_
      refine go_iload dX11_comesNow_155 rfl ?_
      refine go_iconst (v := (-1 : Int32)) rfl dX11_comesNow_157 ?_
      refine go_iconst (v := (0 : Int32)) rfl dX11_comesNow_158 ?_
      refine go_V (av := [pv_i (0 : Int32), pv_i x7, pv_i (-1 : Int32), pv_i (0 : Int32)]) (st := []) (ci := 11) ok_X11_writes ⟨by decide, by decide⟩ ml_X11_125 rfl (by decide) (fun v hv => by simp only [List.mem_cons, List.not_mem_nil, or_false] at hv; rcases hv with rfl | rfl | rfl | rfl <;> first | exact pv_1i | exact pv_1r) (Nat.le_of_ble_eq_true rfl) (fun _ h => h) (by decide) rfl RK.1 dX11_comesNow_159 H (fun r M' hq _ => ?_)
      obtain ⟨rfl, I6, rfl, H⟩ := hq
      show go_W mt_X11_comesNow fr_R 162 [some (pv_r m), some (pv_i x1), some (pv_i x2), some (pv_i x3), some (pv_i x4), some (pv_i x5), some (pv_i x6), some (pv_i x7), some (pv_i x8)] [] (mm_si B I6) (qi_ (fun x M' => ∃ I', M' = mm_si B I' ∧ P x I'))
      refine go_iload dX11_comesNow_162 rfl ?_
      exact go_iret rfl rfl dX11_comesNow_164 ⟨_, rfl, _, rfl, H⟩
  · replace H := H.2 hc
    refine go_aload_n dX11_comesNow_113 rfl ?_
    refine go_iload dX11_comesNow_114 rfl ?_
    refine go_iload dX11_comesNow_116 rfl ?_
    refine go_iconst (v := (-1 : Int32)) rfl dX11_comesNow_118 ?_
    obtain ⟨n7, ⟨hn7, hn7b⟩, H⟩ := H
    obtain ⟨n8, ⟨hn8, hn8b⟩, H⟩ := H
    refine go_V (av := [pv_i x7, pv_i x8, pv_i (-1 : Int32)]) (st := []) (ci := 11) ok_X11_is ⟨by decide, by decide⟩ ml_X11_121 rfl (by decide) (fun v hv => by simp only [List.mem_cons, List.not_mem_nil, or_false] at hv; rcases hv with rfl | rfl | rfl <;> first | exact pv_1i | exact pv_1r) (Nat.le_of_ble_eq_true rfl) (fun _ h => h) (by decide) rfl RK.1 dX11_comesNow_119 (rx_is RK hn7 hn8 hn7b hn8b) (fun r M' hq _ => ?_)
    obtain ⟨rfl, _, rfl, rfl⟩ := hq
    show go_W mt_X11_comesNow fr_R 122 [some (pv_r m), some (pv_i x1), some (pv_i x2), some (pv_i x3), some (pv_i x4), some (pv_i x5), some (pv_i x6), some (pv_i x7), some (pv_i x8)] [] (mm_si B (i2_u I (m + 1) (200 + 14 * n7 + n8) (-1 : Int32))) (qi_ (fun x M' => ∃ I', M' = mm_si B I' ∧ P x I'))
    obtain ⟨I9, hI9⟩ : ∃ I', I' = i2_u I (m + 1) (200 + 14 * n7 + n8) (-1 : Int32) := ⟨_, rfl⟩
    rw [← hI9]
    replace H := H I9 hI9
    refine go_iincN (n := n8) (k := 1) hn8 (by decide) rfl rfl dX11_comesNow_122 ?_
    show go_W mt_X11_comesNow fr_R 125 [some (pv_r m), some (pv_i x1), some (pv_i x2), some (pv_i x3), some (pv_i x4), some (pv_i x5), some (pv_i x6), some (pv_i x7), some (pv_i (nI (n8 + 1)))] [] (mm_si B I9) (qi_ (fun x M' => ∃ I', M' = mm_si B I' ∧ P x I'))
    refine go_goto (tgt := 106) dX11_comesNow_125 (by decide) ?_
    exact H
set_option maxRecDepth 20000 in
theorem wq_X11_takesNow_0 {B : mm_T} {I : Nat → Nat → Int32} {m : Nat} (RK : rf_ok B m) {x1 x2 : Int32} {P : (Nat → Nat → Int32) → Prop} (H : ∃ n1, (x1 = nI n1 ∧ n1 < 400) ∧ (∃ n2, (I (m + 1) (200 + 14 * n1 + 0) = nI n2 ∧ n2 < 5) ∧ (∀ I3, I3 = i2_u I (m + 1) 2 (I (m + 1) 2 + (1 : Int32)) → ∀ I4, I4 = i2_u I3 (m + 1) (200 + 14 * n1 + 6) (3 : Int32) → ∀ I5, I5 = i2_u I4 (m + 1) (200 + 14 * n1 + 9) x2 → ∀ I6, I6 = i2_u I5 (m + 1) (200 + 14 * n1 + 10) (I5 (m + 1) 2) → ∀ I7, I7 = i2_u I6 (m + 1) (200 + 14 * n1 + 11) (I6 (m + 1) 0 + I6 (m + 1) 5) → ∃ n8, (x2 = nI n8 ∧ n8 < 6) ∧ (∀ I9, I9 = i2_u I7 (m + 1) ((60 + 4 * n8) + 0) x1 → ∀ I10, I10 = i2_u I9 (m + 1) ((60 + 4 * n8) + 1) (I9 (m + 1) ((60 + 4 * n8) + 1) + (1 : Int32)) → rs_v mt_X11_passes [pv_r m, pv_i x1] B I10 (fun I11 => ∀ I12, I12 = i2_u I11 (m + 1) ((10 + 10 * n2) + 5) (I11 (m + 1) ((10 + 10 * n2) + 5) + I11 (m + 1) (200 + 14 * n1 + 2)) → ∀ I13, I13 = i2_u I12 (m + 1) ((10 + 10 * n2) + 6) (I12 (m + 1) ((10 + 10 * n2) + 6) + (1 : Int32)) → ∀ I14, I14 = i2_u I13 (m + 1) ((10 + 10 * n2) + 7) (I13 (m + 1) ((10 + 10 * n2) + 7) + (I13 (m + 1) 0 - I13 (m + 1) (200 + 14 * n1 + 5))) → ((((I13 (m + 1) 0 - I13 (m + 1) (200 + 14 * n1 + 5)) ≤ I14 (m + 1) ((10 + 10 * n2) + 8)) → rs_v mt_X11_writes [pv_r m, pv_i (1 : Int32), pv_i x1, pv_i x2, pv_i (0 : Int32)] B I14 (fun I15 => P I15)) ∧ ((¬ (I13 (m + 1) 0 - I13 (m + 1) (200 + 14 * n1 + 5)) ≤ I14 (m + 1) ((10 + 10 * n2) + 8)) → ∀ I16, I16 = i2_u I14 (m + 1) ((10 + 10 * n2) + 8) (I13 (m + 1) 0 - I13 (m + 1) (200 + 14 * n1 + 5)) → ∀ I17, I17 = i2_u I16 (m + 1) ((10 + 10 * n2) + 9) x1 → rs_v mt_X11_writes [pv_r m, pv_i (1 : Int32), pv_i x1, pv_i x2, pv_i (0 : Int32)] B I17 (fun I18 => P I18)))))))) : rw_v mt_X11_takesNow 0 [some (pv_r m), some (pv_i x1), some (pv_i x2), none, none] [] B I P := by
  refine go_aload_n dX11_takesNow_0 rfl ?_
  refine go_iload_n dX11_takesNow_1 rfl ?_
  refine go_iconst (v := (0 : Int32)) rfl dX11_takesNow_2 ?_
  obtain ⟨n1, ⟨hn1, hn1b⟩, H⟩ := H
  refine go_V (av := [pv_i x1, pv_i (0 : Int32)]) (st := []) (ci := 11) ok_X11_of ⟨by decide, by decide⟩ ml_X11_94 rfl (by decide) (fun v hv => by simp only [List.mem_cons, List.not_mem_nil, or_false] at hv; rcases hv with rfl | rfl <;> first | exact pv_1i | exact pv_1r) (Nat.le_of_ble_eq_true rfl) (fun _ h => h) (by decide) rfl RK.1 dX11_takesNow_3 (rx_of RK hn1 rfl hn1b (by decide)) (fun r M' hq _ => ?_)
  obtain ⟨_, rfl, _, rfl, rfl, rfl⟩ := hq
  show go_W mt_X11_takesNow fr_R 6 [some (pv_r m), some (pv_i x1), some (pv_i x2), none, none] [pv_i (I (m + 1) (200 + 14 * n1 + 0))] (mm_si B I) (qv_ (fun M' => ∃ I', M' = mm_si B I' ∧ P I'))
  obtain ⟨n2, ⟨hn2, hn2b⟩, H⟩ := H
  refine go_St (av := [pv_i (I (m + 1) (200 + 14 * n1 + 0))]) (st := []) ok_X11_at ⟨by decide, by decide⟩ ml_X11_80 rfl (by decide) (fun v hv => by simp only [List.mem_cons, List.not_mem_nil, or_false] at hv; rcases hv with rfl <;> first | exact pv_1i | exact pv_1r) (Nat.le_of_ble_eq_true rfl) (fun _ h => h) dX11_takesNow_6 (rx_at RK hn2) (fun r M' hq _ => ?_)
  obtain ⟨_, rfl, _, rfl, rfl, rfl⟩ := hq
  show go_W mt_X11_takesNow fr_R 9 [some (pv_r m), some (pv_i x1), some (pv_i x2), none, none] [pv_i (nI (10 + 10 * n2))] (mm_si B I) (qv_ (fun M' => ∃ I', M' = mm_si B I' ∧ P I'))
  refine go_istore_n (by decide) dX11_takesNow_9 ?_
  show go_W mt_X11_takesNow fr_R 10 [some (pv_r m), some (pv_i x1), some (pv_i x2), some (pv_i (nI (10 + 10 * n2))), none] [] (mm_si B I) (qv_ (fun M' => ∃ I', M' = mm_si B I' ∧ P I'))
  refine go_aload_n dX11_takesNow_10 rfl ?_
  refine go_getRe (k := 0) ⟨by decide, rfl, by decide, Or.inr ⟨_, rfl⟩⟩ RK.1 (rf_r1 RK) fl_X11_7 dX11_takesNow_11 ?_
  refine go_iconst (v := (2 : Int32)) rfl dX11_takesNow_14 ?_
  refine go_dup2 pv_1i pv_1r dX11_takesNow_15 ?_
  refine go_ialdN (j := 2) ⟨by decide, by decide, by decide⟩ (rf_k1 RK) rfl (by decide) dX11_takesNow_16 ?_
  refine go_iconst (v := (1 : Int32)) rfl dX11_takesNow_17 ?_
  refine go_iadd dX11_takesNow_18 ?_
  refine go_iastN (j := 2) ⟨by decide, by decide, by decide⟩ (rf_k1 RK) rfl rfl (by decide) dX11_takesNow_19 ?_
  show go_W mt_X11_takesNow fr_R 20 [some (pv_r m), some (pv_i x1), some (pv_i x2), some (pv_i (nI (10 + 10 * n2))), none] [] (mm_si B (i2_u I (m + 1) 2 (I (m + 1) 2 + (1 : Int32)))) (qv_ (fun M' => ∃ I', M' = mm_si B I' ∧ P I'))
  obtain ⟨I3, hI3⟩ : ∃ I', I' = i2_u I (m + 1) 2 (I (m + 1) 2 + (1 : Int32)) := ⟨_, rfl⟩
  rw [← hI3]
  replace H := H I3 hI3
  refine go_aload_n dX11_takesNow_20 rfl ?_
  refine go_iload_n dX11_takesNow_21 rfl ?_
  refine go_bipush (v := (6 : Int32)) rfl dX11_takesNow_22 ?_
  refine go_iconst (v := (3 : Int32)) rfl dX11_takesNow_24 ?_
  refine go_V (av := [pv_i x1, pv_i (6 : Int32), pv_i (3 : Int32)]) (st := []) (ci := 11) ok_X11_is ⟨by decide, by decide⟩ ml_X11_121 rfl (by decide) (fun v hv => by simp only [List.mem_cons, List.not_mem_nil, or_false] at hv; rcases hv with rfl | rfl | rfl <;> first | exact pv_1i | exact pv_1r) (Nat.le_of_ble_eq_true rfl) (fun _ h => h) (by decide) rfl RK.1 dX11_takesNow_25 (rx_is RK hn1 rfl (by omega) (by decide)) (fun r M' hq _ => ?_)
  obtain ⟨rfl, _, rfl, rfl⟩ := hq
  show go_W mt_X11_takesNow fr_R 28 [some (pv_r m), some (pv_i x1), some (pv_i x2), some (pv_i (nI (10 + 10 * n2))), none] [] (mm_si B (i2_u I3 (m + 1) (200 + 14 * n1 + 6) (3 : Int32))) (qv_ (fun M' => ∃ I', M' = mm_si B I' ∧ P I'))
  obtain ⟨I4, hI4⟩ : ∃ I', I' = i2_u I3 (m + 1) (200 + 14 * n1 + 6) (3 : Int32) := ⟨_, rfl⟩
  rw [← hI4]
  replace H := H I4 hI4
  refine go_aload_n dX11_takesNow_28 rfl ?_
  refine go_iload_n dX11_takesNow_29 rfl ?_
  refine go_bipush (v := (9 : Int32)) rfl dX11_takesNow_30 ?_
  refine go_iload_n dX11_takesNow_32 rfl ?_
  refine go_V (av := [pv_i x1, pv_i (9 : Int32), pv_i x2]) (st := []) (ci := 11) ok_X11_is ⟨by decide, by decide⟩ ml_X11_121 rfl (by decide) (fun v hv => by simp only [List.mem_cons, List.not_mem_nil, or_false] at hv; rcases hv with rfl | rfl | rfl <;> first | exact pv_1i | exact pv_1r) (Nat.le_of_ble_eq_true rfl) (fun _ h => h) (by decide) rfl RK.1 dX11_takesNow_33 (rx_is RK hn1 rfl (by omega) (by decide)) (fun r M' hq _ => ?_)
  obtain ⟨rfl, _, rfl, rfl⟩ := hq
  show go_W mt_X11_takesNow fr_R 36 [some (pv_r m), some (pv_i x1), some (pv_i x2), some (pv_i (nI (10 + 10 * n2))), none] [] (mm_si B (i2_u I4 (m + 1) (200 + 14 * n1 + 9) x2)) (qv_ (fun M' => ∃ I', M' = mm_si B I' ∧ P I'))
  obtain ⟨I5, hI5⟩ : ∃ I', I' = i2_u I4 (m + 1) (200 + 14 * n1 + 9) x2 := ⟨_, rfl⟩
  rw [← hI5]
  replace H := H I5 hI5
  refine go_aload_n dX11_takesNow_36 rfl ?_
  refine go_iload_n dX11_takesNow_37 rfl ?_
  refine go_bipush (v := (10 : Int32)) rfl dX11_takesNow_38 ?_
  refine go_aload_n dX11_takesNow_40 rfl ?_
  refine go_getRe (k := 0) ⟨by decide, rfl, by decide, Or.inr ⟨_, rfl⟩⟩ RK.1 (rf_r1 RK) fl_X11_7 dX11_takesNow_41 ?_
  refine go_iconst (v := (2 : Int32)) rfl dX11_takesNow_44 ?_
  refine go_ialdN (j := 2) ⟨by decide, by decide, by decide⟩ (rf_k1 RK) rfl (by decide) dX11_takesNow_45 ?_
  refine go_V (av := [pv_i x1, pv_i (10 : Int32), pv_i (I5 (m + 1) 2)]) (st := []) (ci := 11) ok_X11_is ⟨by decide, by decide⟩ ml_X11_121 rfl (by decide) (fun v hv => by simp only [List.mem_cons, List.not_mem_nil, or_false] at hv; rcases hv with rfl | rfl | rfl <;> first | exact pv_1i | exact pv_1r) (Nat.le_of_ble_eq_true rfl) (fun _ h => h) (by decide) rfl RK.1 dX11_takesNow_46 (rx_is RK hn1 rfl (by omega) (by decide)) (fun r M' hq _ => ?_)
  obtain ⟨rfl, _, rfl, rfl⟩ := hq
  show go_W mt_X11_takesNow fr_R 49 [some (pv_r m), some (pv_i x1), some (pv_i x2), some (pv_i (nI (10 + 10 * n2))), none] [] (mm_si B (i2_u I5 (m + 1) (200 + 14 * n1 + 10) (I5 (m + 1) 2))) (qv_ (fun M' => ∃ I', M' = mm_si B I' ∧ P I'))
  obtain ⟨I6, hI6⟩ : ∃ I', I' = i2_u I5 (m + 1) (200 + 14 * n1 + 10) (I5 (m + 1) 2) := ⟨_, rfl⟩
  rw [← hI6]
  replace H := H I6 hI6
  refine go_aload_n dX11_takesNow_49 rfl ?_
  refine go_iload_n dX11_takesNow_50 rfl ?_
  refine go_bipush (v := (11 : Int32)) rfl dX11_takesNow_51 ?_
  refine go_aload_n dX11_takesNow_53 rfl ?_
  refine go_getRe (k := 0) ⟨by decide, rfl, by decide, Or.inr ⟨_, rfl⟩⟩ RK.1 (rf_r1 RK) fl_X11_7 dX11_takesNow_54 ?_
  refine go_iconst (v := (0 : Int32)) rfl dX11_takesNow_57 ?_
  refine go_ialdN (j := 0) ⟨by decide, by decide, by decide⟩ (rf_k1 RK) rfl (by decide) dX11_takesNow_58 ?_
  refine go_aload_n dX11_takesNow_59 rfl ?_
  refine go_getRe (k := 0) ⟨by decide, rfl, by decide, Or.inr ⟨_, rfl⟩⟩ RK.1 (rf_r1 RK) fl_X11_7 dX11_takesNow_60 ?_
  refine go_iconst (v := (5 : Int32)) rfl dX11_takesNow_63 ?_
  refine go_ialdN (j := 5) ⟨by decide, by decide, by decide⟩ (rf_k1 RK) rfl (by decide) dX11_takesNow_64 ?_
  refine go_iadd dX11_takesNow_65 ?_
  refine go_V (av := [pv_i x1, pv_i (11 : Int32), pv_i (I6 (m + 1) 0 + I6 (m + 1) 5)]) (st := []) (ci := 11) ok_X11_is ⟨by decide, by decide⟩ ml_X11_121 rfl (by decide) (fun v hv => by simp only [List.mem_cons, List.not_mem_nil, or_false] at hv; rcases hv with rfl | rfl | rfl <;> first | exact pv_1i | exact pv_1r) (Nat.le_of_ble_eq_true rfl) (fun _ h => h) (by decide) rfl RK.1 dX11_takesNow_66 (rx_is RK hn1 rfl (by omega) (by decide)) (fun r M' hq _ => ?_)
  obtain ⟨rfl, _, rfl, rfl⟩ := hq
  show go_W mt_X11_takesNow fr_R 69 [some (pv_r m), some (pv_i x1), some (pv_i x2), some (pv_i (nI (10 + 10 * n2))), none] [] (mm_si B (i2_u I6 (m + 1) (200 + 14 * n1 + 11) (I6 (m + 1) 0 + I6 (m + 1) 5))) (qv_ (fun M' => ∃ I', M' = mm_si B I' ∧ P I'))
  obtain ⟨I7, hI7⟩ : ∃ I', I' = i2_u I6 (m + 1) (200 + 14 * n1 + 11) (I6 (m + 1) 0 + I6 (m + 1) 5) := ⟨_, rfl⟩
  rw [← hI7]
  replace H := H I7 hI7
  refine go_aload_n dX11_takesNow_69 rfl ?_
  refine go_getRe (k := 0) ⟨by decide, rfl, by decide, Or.inr ⟨_, rfl⟩⟩ RK.1 (rf_r1 RK) fl_X11_7 dX11_takesNow_70 ?_
  refine go_iload_n dX11_takesNow_73 rfl ?_
  obtain ⟨n8, ⟨hn8, hn8b⟩, H⟩ := H
  refine go_St (av := [pv_i x2]) (st := [pv_r (m + 1)]) ok_X11_workerAt ⟨by decide, by decide⟩ ml_X11_84 rfl (by decide) (fun v hv => by simp only [List.mem_cons, List.not_mem_nil, or_false] at hv; rcases hv with rfl <;> first | exact pv_1i | exact pv_1r) (Nat.le_of_ble_eq_true rfl) (fun _ h => h) dX11_takesNow_74 (rx_workerAt RK hn8) (fun r M' hq _ => ?_)
  obtain ⟨_, rfl, _, rfl, rfl, rfl⟩ := hq
  show go_W mt_X11_takesNow fr_R 77 [some (pv_r m), some (pv_i x1), some (pv_i x2), some (pv_i (nI (10 + 10 * n2))), none] [pv_i (nI (60 + 4 * n8)), pv_r (m + 1)] (mm_si B I7) (qv_ (fun M' => ∃ I', M' = mm_si B I' ∧ P I'))
  refine go_iconst (v := (0 : Int32)) rfl dX11_takesNow_77 ?_
  refine go_iadd dX11_takesNow_78 ?_
  refine go_iload_n dX11_takesNow_79 rfl ?_
  refine go_iastN (j := ((60 + 4 * n8) + 0)) ⟨by decide, by decide, by decide⟩ (rf_k1 RK) rfl (nI_ae rfl rfl) (by omega) dX11_takesNow_80 ?_
  show go_W mt_X11_takesNow fr_R 81 [some (pv_r m), some (pv_i x1), some (pv_i x2), some (pv_i (nI (10 + 10 * n2))), none] [] (mm_si B (i2_u I7 (m + 1) ((60 + 4 * n8) + 0) x1)) (qv_ (fun M' => ∃ I', M' = mm_si B I' ∧ P I'))
  obtain ⟨I9, hI9⟩ : ∃ I', I' = i2_u I7 (m + 1) ((60 + 4 * n8) + 0) x1 := ⟨_, rfl⟩
  rw [← hI9]
  replace H := H I9 hI9
  refine go_aload_n dX11_takesNow_81 rfl ?_
  refine go_getRe (k := 0) ⟨by decide, rfl, by decide, Or.inr ⟨_, rfl⟩⟩ RK.1 (rf_r1 RK) fl_X11_7 dX11_takesNow_82 ?_
  refine go_iload_n dX11_takesNow_85 rfl ?_
  refine go_St (av := [pv_i x2]) (st := [pv_r (m + 1)]) ok_X11_workerAt ⟨by decide, by decide⟩ ml_X11_84 rfl (by decide) (fun v hv => by simp only [List.mem_cons, List.not_mem_nil, or_false] at hv; rcases hv with rfl <;> first | exact pv_1i | exact pv_1r) (Nat.le_of_ble_eq_true rfl) (fun _ h => h) dX11_takesNow_86 (rx_workerAt RK hn8) (fun r M' hq _ => ?_)
  obtain ⟨_, rfl, _, rfl, rfl, rfl⟩ := hq
  show go_W mt_X11_takesNow fr_R 89 [some (pv_r m), some (pv_i x1), some (pv_i x2), some (pv_i (nI (10 + 10 * n2))), none] [pv_i (nI (60 + 4 * n8)), pv_r (m + 1)] (mm_si B I9) (qv_ (fun M' => ∃ I', M' = mm_si B I' ∧ P I'))
  refine go_iconst (v := (1 : Int32)) rfl dX11_takesNow_89 ?_
  refine go_iadd dX11_takesNow_90 ?_
  refine go_dup2 pv_1i pv_1r dX11_takesNow_91 ?_
  refine go_ialdN (j := ((60 + 4 * n8) + 1)) ⟨by decide, by decide, by decide⟩ (rf_k1 RK) (nI_ae rfl rfl) (by omega) dX11_takesNow_92 ?_
  refine go_iconst (v := (1 : Int32)) rfl dX11_takesNow_93 ?_
  refine go_iadd dX11_takesNow_94 ?_
  refine go_iastN (j := ((60 + 4 * n8) + 1)) ⟨by decide, by decide, by decide⟩ (rf_k1 RK) rfl (nI_ae rfl rfl) (by omega) dX11_takesNow_95 ?_
  show go_W mt_X11_takesNow fr_R 96 [some (pv_r m), some (pv_i x1), some (pv_i x2), some (pv_i (nI (10 + 10 * n2))), none] [] (mm_si B (i2_u I9 (m + 1) ((60 + 4 * n8) + 1) (I9 (m + 1) ((60 + 4 * n8) + 1) + (1 : Int32)))) (qv_ (fun M' => ∃ I', M' = mm_si B I' ∧ P I'))
  obtain ⟨I10, hI10⟩ : ∃ I', I' = i2_u I9 (m + 1) ((60 + 4 * n8) + 1) (I9 (m + 1) ((60 + 4 * n8) + 1) + (1 : Int32)) := ⟨_, rfl⟩
  rw [← hI10]
  replace H := H I10 hI10
  refine go_aload_n dX11_takesNow_96 rfl ?_
  refine go_iload_n dX11_takesNow_97 rfl ?_
  refine go_V (av := [pv_i x1]) (st := []) (ci := 11) ok_X11_passes ⟨by decide, by decide⟩ ml_X11_180 rfl (by decide) (fun v hv => by simp only [List.mem_cons, List.not_mem_nil, or_false] at hv; rcases hv with rfl <;> first | exact pv_1i | exact pv_1r) (Nat.le_of_ble_eq_true rfl) (fun _ h => h) (by decide) rfl RK.1 dX11_takesNow_98 H (fun r M' hq _ => ?_)
  obtain ⟨rfl, I11, rfl, H⟩ := hq
  show go_W mt_X11_takesNow fr_R 101 [some (pv_r m), some (pv_i x1), some (pv_i x2), some (pv_i (nI (10 + 10 * n2))), none] [] (mm_si B I11) (qv_ (fun M' => ∃ I', M' = mm_si B I' ∧ P I'))
  refine go_aload_n dX11_takesNow_101 rfl ?_
  refine go_getRe (k := 0) ⟨by decide, rfl, by decide, Or.inr ⟨_, rfl⟩⟩ RK.1 (rf_r1 RK) fl_X11_7 dX11_takesNow_102 ?_
  refine go_iload_n dX11_takesNow_105 rfl ?_
  refine go_iconst (v := (5 : Int32)) rfl dX11_takesNow_106 ?_
  refine go_iadd dX11_takesNow_107 ?_
  refine go_dup2 pv_1i pv_1r dX11_takesNow_108 ?_
  refine go_ialdN (j := ((10 + 10 * n2) + 5)) ⟨by decide, by decide, by decide⟩ (rf_k1 RK) (nI_ae rfl rfl) (by omega) dX11_takesNow_109 ?_
  refine go_aload_n dX11_takesNow_110 rfl ?_
  refine go_iload_n dX11_takesNow_111 rfl ?_
  refine go_iconst (v := (2 : Int32)) rfl dX11_takesNow_112 ?_
  refine go_V (av := [pv_i x1, pv_i (2 : Int32)]) (st := [pv_i (I11 (m + 1) ((10 + 10 * n2) + 5)), pv_i ((nI (10 + 10 * n2)) + (5 : Int32)), pv_r (m + 1)]) (ci := 11) ok_X11_of ⟨by decide, by decide⟩ ml_X11_94 rfl (by decide) (fun v hv => by simp only [List.mem_cons, List.not_mem_nil, or_false] at hv; rcases hv with rfl | rfl <;> first | exact pv_1i | exact pv_1r) (Nat.le_of_ble_eq_true rfl) (fun _ h => h) (by decide) rfl RK.1 dX11_takesNow_113 (rx_of RK hn1 rfl (by omega) (by decide)) (fun r M' hq _ => ?_)
  obtain ⟨_, rfl, _, rfl, rfl, rfl⟩ := hq
  show go_W mt_X11_takesNow fr_R 116 [some (pv_r m), some (pv_i x1), some (pv_i x2), some (pv_i (nI (10 + 10 * n2))), none] [pv_i (I11 (m + 1) (200 + 14 * n1 + 2)), pv_i (I11 (m + 1) ((10 + 10 * n2) + 5)), pv_i ((nI (10 + 10 * n2)) + (5 : Int32)), pv_r (m + 1)] (mm_si B I11) (qv_ (fun M' => ∃ I', M' = mm_si B I' ∧ P I'))
  refine go_iadd dX11_takesNow_116 ?_
  refine go_iastN (j := ((10 + 10 * n2) + 5)) ⟨by decide, by decide, by decide⟩ (rf_k1 RK) rfl (nI_ae rfl rfl) (by omega) dX11_takesNow_117 ?_
  show go_W mt_X11_takesNow fr_R 118 [some (pv_r m), some (pv_i x1), some (pv_i x2), some (pv_i (nI (10 + 10 * n2))), none] [] (mm_si B (i2_u I11 (m + 1) ((10 + 10 * n2) + 5) (I11 (m + 1) ((10 + 10 * n2) + 5) + I11 (m + 1) (200 + 14 * n1 + 2)))) (qv_ (fun M' => ∃ I', M' = mm_si B I' ∧ P I'))
  obtain ⟨I12, hI12⟩ : ∃ I', I' = i2_u I11 (m + 1) ((10 + 10 * n2) + 5) (I11 (m + 1) ((10 + 10 * n2) + 5) + I11 (m + 1) (200 + 14 * n1 + 2)) := ⟨_, rfl⟩
  rw [← hI12]
  replace H := H I12 hI12
  refine go_aload_n dX11_takesNow_118 rfl ?_
  refine go_getRe (k := 0) ⟨by decide, rfl, by decide, Or.inr ⟨_, rfl⟩⟩ RK.1 (rf_r1 RK) fl_X11_7 dX11_takesNow_119 ?_
  refine go_iload_n dX11_takesNow_122 rfl ?_
  refine go_bipush (v := (6 : Int32)) rfl dX11_takesNow_123 ?_
  refine go_iadd dX11_takesNow_125 ?_
  refine go_dup2 pv_1i pv_1r dX11_takesNow_126 ?_
  refine go_ialdN (j := ((10 + 10 * n2) + 6)) ⟨by decide, by decide, by decide⟩ (rf_k1 RK) (nI_ae rfl rfl) (by omega) dX11_takesNow_127 ?_
  refine go_iconst (v := (1 : Int32)) rfl dX11_takesNow_128 ?_
  refine go_iadd dX11_takesNow_129 ?_
  refine go_iastN (j := ((10 + 10 * n2) + 6)) ⟨by decide, by decide, by decide⟩ (rf_k1 RK) rfl (nI_ae rfl rfl) (by omega) dX11_takesNow_130 ?_
  show go_W mt_X11_takesNow fr_R 131 [some (pv_r m), some (pv_i x1), some (pv_i x2), some (pv_i (nI (10 + 10 * n2))), none] [] (mm_si B (i2_u I12 (m + 1) ((10 + 10 * n2) + 6) (I12 (m + 1) ((10 + 10 * n2) + 6) + (1 : Int32)))) (qv_ (fun M' => ∃ I', M' = mm_si B I' ∧ P I'))
  obtain ⟨I13, hI13⟩ : ∃ I', I' = i2_u I12 (m + 1) ((10 + 10 * n2) + 6) (I12 (m + 1) ((10 + 10 * n2) + 6) + (1 : Int32)) := ⟨_, rfl⟩
  rw [← hI13]
  replace H := H I13 hI13
  refine go_aload_n dX11_takesNow_131 rfl ?_
  refine go_getRe (k := 0) ⟨by decide, rfl, by decide, Or.inr ⟨_, rfl⟩⟩ RK.1 (rf_r1 RK) fl_X11_7 dX11_takesNow_132 ?_
  refine go_iconst (v := (0 : Int32)) rfl dX11_takesNow_135 ?_
  refine go_ialdN (j := 0) ⟨by decide, by decide, by decide⟩ (rf_k1 RK) rfl (by decide) dX11_takesNow_136 ?_
  refine go_aload_n dX11_takesNow_137 rfl ?_
  refine go_iload_n dX11_takesNow_138 rfl ?_
  refine go_iconst (v := (5 : Int32)) rfl dX11_takesNow_139 ?_
  refine go_V (av := [pv_i x1, pv_i (5 : Int32)]) (st := [pv_i (I13 (m + 1) 0)]) (ci := 11) ok_X11_of ⟨by decide, by decide⟩ ml_X11_94 rfl (by decide) (fun v hv => by simp only [List.mem_cons, List.not_mem_nil, or_false] at hv; rcases hv with rfl | rfl <;> first | exact pv_1i | exact pv_1r) (Nat.le_of_ble_eq_true rfl) (fun _ h => h) (by decide) rfl RK.1 dX11_takesNow_140 (rx_of RK hn1 rfl (by omega) (by decide)) (fun r M' hq _ => ?_)
  obtain ⟨_, rfl, _, rfl, rfl, rfl⟩ := hq
  show go_W mt_X11_takesNow fr_R 143 [some (pv_r m), some (pv_i x1), some (pv_i x2), some (pv_i (nI (10 + 10 * n2))), none] [pv_i (I13 (m + 1) (200 + 14 * n1 + 5)), pv_i (I13 (m + 1) 0)] (mm_si B I13) (qv_ (fun M' => ∃ I', M' = mm_si B I' ∧ P I'))
  refine go_isub dX11_takesNow_143 ?_
  refine go_istore (by decide) dX11_takesNow_144 ?_
  show go_W mt_X11_takesNow fr_R 146 [some (pv_r m), some (pv_i x1), some (pv_i x2), some (pv_i (nI (10 + 10 * n2))), some (pv_i (I13 (m + 1) 0 - I13 (m + 1) (200 + 14 * n1 + 5)))] [] (mm_si B I13) (qv_ (fun M' => ∃ I', M' = mm_si B I' ∧ P I'))
  refine go_aload_n dX11_takesNow_146 rfl ?_
  refine go_getRe (k := 0) ⟨by decide, rfl, by decide, Or.inr ⟨_, rfl⟩⟩ RK.1 (rf_r1 RK) fl_X11_7 dX11_takesNow_147 ?_
  refine go_iload_n dX11_takesNow_150 rfl ?_
  refine go_bipush (v := (7 : Int32)) rfl dX11_takesNow_151 ?_
  refine go_iadd dX11_takesNow_153 ?_
  refine go_dup2 pv_1i pv_1r dX11_takesNow_154 ?_
  refine go_ialdN (j := ((10 + 10 * n2) + 7)) ⟨by decide, by decide, by decide⟩ (rf_k1 RK) (nI_ae rfl rfl) (by omega) dX11_takesNow_155 ?_
  refine go_iload dX11_takesNow_156 rfl ?_
  refine go_iadd dX11_takesNow_158 ?_
  refine go_iastN (j := ((10 + 10 * n2) + 7)) ⟨by decide, by decide, by decide⟩ (rf_k1 RK) rfl (nI_ae rfl rfl) (by omega) dX11_takesNow_159 ?_
  show go_W mt_X11_takesNow fr_R 160 [some (pv_r m), some (pv_i x1), some (pv_i x2), some (pv_i (nI (10 + 10 * n2))), some (pv_i (I13 (m + 1) 0 - I13 (m + 1) (200 + 14 * n1 + 5)))] [] (mm_si B (i2_u I13 (m + 1) ((10 + 10 * n2) + 7) (I13 (m + 1) ((10 + 10 * n2) + 7) + (I13 (m + 1) 0 - I13 (m + 1) (200 + 14 * n1 + 5))))) (qv_ (fun M' => ∃ I', M' = mm_si B I' ∧ P I'))
  obtain ⟨I14, hI14⟩ : ∃ I', I' = i2_u I13 (m + 1) ((10 + 10 * n2) + 7) (I13 (m + 1) ((10 + 10 * n2) + 7) + (I13 (m + 1) 0 - I13 (m + 1) (200 + 14 * n1 + 5))) := ⟨_, rfl⟩
  rw [← hI14]
  replace H := H I14 hI14
  refine go_iload dX11_takesNow_160 rfl ?_
  refine go_aload_n dX11_takesNow_162 rfl ?_
  refine go_getRe (k := 0) ⟨by decide, rfl, by decide, Or.inr ⟨_, rfl⟩⟩ RK.1 (rf_r1 RK) fl_X11_7 dX11_takesNow_163 ?_
  refine go_iload_n dX11_takesNow_166 rfl ?_
  refine go_bipush (v := (8 : Int32)) rfl dX11_takesNow_167 ?_
  refine go_iadd dX11_takesNow_169 ?_
  refine go_ialdN (j := ((10 + 10 * n2) + 8)) ⟨by decide, by decide, by decide⟩ (rf_k1 RK) (nI_ae rfl rfl) (by omega) dX11_takesNow_170 ?_
  refine go_icmp_le (tgt := 195) dX11_takesNow_171 (by decide) (fun hc => ?_) (fun hc => ?_)
  · replace H := H.1 hc
    refine go_aload_n dX11_takesNow_195 rfl ?_
    refine go_iconst (v := (1 : Int32)) rfl dX11_takesNow_196 ?_
    refine go_iload_n dX11_takesNow_197 rfl ?_
    refine go_iload_n dX11_takesNow_198 rfl ?_
    refine go_iconst (v := (0 : Int32)) rfl dX11_takesNow_199 ?_
    refine go_V (av := [pv_i (1 : Int32), pv_i x1, pv_i x2, pv_i (0 : Int32)]) (st := []) (ci := 11) ok_X11_writes ⟨by decide, by decide⟩ ml_X11_125 rfl (by decide) (fun v hv => by simp only [List.mem_cons, List.not_mem_nil, or_false] at hv; rcases hv with rfl | rfl | rfl | rfl <;> first | exact pv_1i | exact pv_1r) (Nat.le_of_ble_eq_true rfl) (fun _ h => h) (by decide) rfl RK.1 dX11_takesNow_200 H (fun r M' hq _ => ?_)
    obtain ⟨rfl, I15, rfl, H⟩ := hq
    show go_W mt_X11_takesNow fr_R 203 [some (pv_r m), some (pv_i x1), some (pv_i x2), some (pv_i (nI (10 + 10 * n2))), some (pv_i (I13 (m + 1) 0 - I13 (m + 1) (200 + 14 * n1 + 5)))] [] (mm_si B I15) (qv_ (fun M' => ∃ I', M' = mm_si B I' ∧ P I'))
    exact go_vret rfl dX11_takesNow_203 ⟨rfl, _, rfl, H⟩
  · replace H := H.2 hc
    refine go_aload_n dX11_takesNow_174 rfl ?_
    refine go_getRe (k := 0) ⟨by decide, rfl, by decide, Or.inr ⟨_, rfl⟩⟩ RK.1 (rf_r1 RK) fl_X11_7 dX11_takesNow_175 ?_
    refine go_iload_n dX11_takesNow_178 rfl ?_
    refine go_bipush (v := (8 : Int32)) rfl dX11_takesNow_179 ?_
    refine go_iadd dX11_takesNow_181 ?_
    refine go_iload dX11_takesNow_182 rfl ?_
    refine go_iastN (j := ((10 + 10 * n2) + 8)) ⟨by decide, by decide, by decide⟩ (rf_k1 RK) rfl (nI_ae rfl rfl) (by omega) dX11_takesNow_184 ?_
    show go_W mt_X11_takesNow fr_R 185 [some (pv_r m), some (pv_i x1), some (pv_i x2), some (pv_i (nI (10 + 10 * n2))), some (pv_i (I13 (m + 1) 0 - I13 (m + 1) (200 + 14 * n1 + 5)))] [] (mm_si B (i2_u I14 (m + 1) ((10 + 10 * n2) + 8) (I13 (m + 1) 0 - I13 (m + 1) (200 + 14 * n1 + 5)))) (qv_ (fun M' => ∃ I', M' = mm_si B I' ∧ P I'))
    obtain ⟨I16, hI16⟩ : ∃ I', I' = i2_u I14 (m + 1) ((10 + 10 * n2) + 8) (I13 (m + 1) 0 - I13 (m + 1) (200 + 14 * n1 + 5)) := ⟨_, rfl⟩
    rw [← hI16]
    replace H := H I16 hI16
    refine go_aload_n dX11_takesNow_185 rfl ?_
    refine go_getRe (k := 0) ⟨by decide, rfl, by decide, Or.inr ⟨_, rfl⟩⟩ RK.1 (rf_r1 RK) fl_X11_7 dX11_takesNow_186 ?_
    refine go_iload_n dX11_takesNow_189 rfl ?_
    refine go_bipush (v := (9 : Int32)) rfl dX11_takesNow_190 ?_
    refine go_iadd dX11_takesNow_192 ?_
    refine go_iload_n dX11_takesNow_193 rfl ?_
    refine go_iastN (j := ((10 + 10 * n2) + 9)) ⟨by decide, by decide, by decide⟩ (rf_k1 RK) rfl (nI_ae rfl rfl) (by omega) dX11_takesNow_194 ?_
    show go_W mt_X11_takesNow fr_R 195 [some (pv_r m), some (pv_i x1), some (pv_i x2), some (pv_i (nI (10 + 10 * n2))), some (pv_i (I13 (m + 1) 0 - I13 (m + 1) (200 + 14 * n1 + 5)))] [] (mm_si B (i2_u I16 (m + 1) ((10 + 10 * n2) + 9) x1)) (qv_ (fun M' => ∃ I', M' = mm_si B I' ∧ P I'))
    obtain ⟨I17, hI17⟩ : ∃ I', I' = i2_u I16 (m + 1) ((10 + 10 * n2) + 9) x1 := ⟨_, rfl⟩
    rw [← hI17]
    replace H := H I17 hI17
    refine go_aload_n dX11_takesNow_195 rfl ?_
    refine go_iconst (v := (1 : Int32)) rfl dX11_takesNow_196 ?_
    refine go_iload_n dX11_takesNow_197 rfl ?_
    refine go_iload_n dX11_takesNow_198 rfl ?_
    refine go_iconst (v := (0 : Int32)) rfl dX11_takesNow_199 ?_
    refine go_V (av := [pv_i (1 : Int32), pv_i x1, pv_i x2, pv_i (0 : Int32)]) (st := []) (ci := 11) ok_X11_writes ⟨by decide, by decide⟩ ml_X11_125 rfl (by decide) (fun v hv => by simp only [List.mem_cons, List.not_mem_nil, or_false] at hv; rcases hv with rfl | rfl | rfl | rfl <;> first | exact pv_1i | exact pv_1r) (Nat.le_of_ble_eq_true rfl) (fun _ h => h) (by decide) rfl RK.1 dX11_takesNow_200 H (fun r M' hq _ => ?_)
    obtain ⟨rfl, I18, rfl, H⟩ := hq
    show go_W mt_X11_takesNow fr_R 203 [some (pv_r m), some (pv_i x1), some (pv_i x2), some (pv_i (nI (10 + 10 * n2))), some (pv_i (I13 (m + 1) 0 - I13 (m + 1) (200 + 14 * n1 + 5)))] [] (mm_si B I18) (qv_ (fun M' => ∃ I', M' = mm_si B I' ∧ P I'))
    exact go_vret rfl dX11_takesNow_203 ⟨rfl, _, rfl, H⟩
set_option maxRecDepth 20000 in
theorem wq_X11_passes_0 {B : mm_T} {I : Nat → Nat → Int32} {m : Nat} (RK : rf_ok B m) {x1 : Int32} {P : (Nat → Nat → Int32) → Prop} (H : ∃ n1, (x1 = nI n1 ∧ n1 < 400) ∧ (∃ n2, (I (m + 1) (200 + 14 * n1 + 0) = nI n2 ∧ n2 < 5) ∧ (¬ I (m + 1) ((10 + 10 * n2) + 0) = 0 ∧ (∀ I3, I3 = i2_u I (m + 1) ((10 + 10 * n2) + 4) (I (m + 1) ((10 + 10 * n2) + 4) + (((2520 : Int32) / I (m + 1) ((10 + 10 * n2) + 0)) * I (m + 1) (200 + 14 * n1 + 2))) → P I3)))) : rw_v mt_X11_passes 0 [some (pv_r m), some (pv_i x1), none] [] B I P := by
  refine go_aload_n dX11_passes_0 rfl ?_
  refine go_iload_n dX11_passes_1 rfl ?_
  refine go_iconst (v := (0 : Int32)) rfl dX11_passes_2 ?_
  obtain ⟨n1, ⟨hn1, hn1b⟩, H⟩ := H
  refine go_V (av := [pv_i x1, pv_i (0 : Int32)]) (st := []) (ci := 11) ok_X11_of ⟨by decide, by decide⟩ ml_X11_94 rfl (by decide) (fun v hv => by simp only [List.mem_cons, List.not_mem_nil, or_false] at hv; rcases hv with rfl | rfl <;> first | exact pv_1i | exact pv_1r) (Nat.le_of_ble_eq_true rfl) (fun _ h => h) (by decide) rfl RK.1 dX11_passes_3 (rx_of RK hn1 rfl hn1b (by decide)) (fun r M' hq _ => ?_)
  obtain ⟨_, rfl, _, rfl, rfl, rfl⟩ := hq
  show go_W mt_X11_passes fr_R 6 [some (pv_r m), some (pv_i x1), none] [pv_i (I (m + 1) (200 + 14 * n1 + 0))] (mm_si B I) (qv_ (fun M' => ∃ I', M' = mm_si B I' ∧ P I'))
  obtain ⟨n2, ⟨hn2, hn2b⟩, H⟩ := H
  refine go_St (av := [pv_i (I (m + 1) (200 + 14 * n1 + 0))]) (st := []) ok_X11_at ⟨by decide, by decide⟩ ml_X11_80 rfl (by decide) (fun v hv => by simp only [List.mem_cons, List.not_mem_nil, or_false] at hv; rcases hv with rfl <;> first | exact pv_1i | exact pv_1r) (Nat.le_of_ble_eq_true rfl) (fun _ h => h) dX11_passes_6 (rx_at RK hn2) (fun r M' hq _ => ?_)
  obtain ⟨_, rfl, _, rfl, rfl, rfl⟩ := hq
  show go_W mt_X11_passes fr_R 9 [some (pv_r m), some (pv_i x1), none] [pv_i (nI (10 + 10 * n2))] (mm_si B I) (qv_ (fun M' => ∃ I', M' = mm_si B I' ∧ P I'))
  refine go_istore_n (by decide) dX11_passes_9 ?_
  show go_W mt_X11_passes fr_R 10 [some (pv_r m), some (pv_i x1), some (pv_i (nI (10 + 10 * n2)))] [] (mm_si B I) (qv_ (fun M' => ∃ I', M' = mm_si B I' ∧ P I'))
  refine go_aload_n dX11_passes_10 rfl ?_
  refine go_getRe (k := 0) ⟨by decide, rfl, by decide, Or.inr ⟨_, rfl⟩⟩ RK.1 (rf_r1 RK) fl_X11_7 dX11_passes_11 ?_
  refine go_iload_n dX11_passes_14 rfl ?_
  refine go_iconst (v := (4 : Int32)) rfl dX11_passes_15 ?_
  refine go_iadd dX11_passes_16 ?_
  refine go_dup2 pv_1i pv_1r dX11_passes_17 ?_
  refine go_ialdN (j := ((10 + 10 * n2) + 4)) ⟨by decide, by decide, by decide⟩ (rf_k1 RK) (nI_ae rfl rfl) (by omega) dX11_passes_18 ?_
  refine go_sipush (v := (2520 : Int32)) rfl dX11_passes_19 ?_
  refine go_aload_n dX11_passes_22 rfl ?_
  refine go_getRe (k := 0) ⟨by decide, rfl, by decide, Or.inr ⟨_, rfl⟩⟩ RK.1 (rf_r1 RK) fl_X11_7 dX11_passes_23 ?_
  refine go_iload_n dX11_passes_26 rfl ?_
  refine go_iconst (v := (0 : Int32)) rfl dX11_passes_27 ?_
  refine go_iadd dX11_passes_28 ?_
  refine go_ialdN (j := ((10 + 10 * n2) + 0)) ⟨by decide, by decide, by decide⟩ (rf_k1 RK) (nI_ae rfl rfl) (by omega) dX11_passes_29 ?_
  refine go_idiv H.1 dX11_passes_30 ?_
  replace H := H.2
  refine go_aload_n dX11_passes_31 rfl ?_
  refine go_iload_n dX11_passes_32 rfl ?_
  refine go_iconst (v := (2 : Int32)) rfl dX11_passes_33 ?_
  refine go_V (av := [pv_i x1, pv_i (2 : Int32)]) (st := [pv_i ((2520 : Int32) / I (m + 1) ((10 + 10 * n2) + 0)), pv_i (I (m + 1) ((10 + 10 * n2) + 4)), pv_i ((nI (10 + 10 * n2)) + (4 : Int32)), pv_r (m + 1)]) (ci := 11) ok_X11_of ⟨by decide, by decide⟩ ml_X11_94 rfl (by decide) (fun v hv => by simp only [List.mem_cons, List.not_mem_nil, or_false] at hv; rcases hv with rfl | rfl <;> first | exact pv_1i | exact pv_1r) (Nat.le_of_ble_eq_true rfl) (fun _ h => h) (by decide) rfl RK.1 dX11_passes_34 (rx_of RK hn1 rfl (by omega) (by decide)) (fun r M' hq _ => ?_)
  obtain ⟨_, rfl, _, rfl, rfl, rfl⟩ := hq
  show go_W mt_X11_passes fr_R 37 [some (pv_r m), some (pv_i x1), some (pv_i (nI (10 + 10 * n2)))] [pv_i (I (m + 1) (200 + 14 * n1 + 2)), pv_i ((2520 : Int32) / I (m + 1) ((10 + 10 * n2) + 0)), pv_i (I (m + 1) ((10 + 10 * n2) + 4)), pv_i ((nI (10 + 10 * n2)) + (4 : Int32)), pv_r (m + 1)] (mm_si B I) (qv_ (fun M' => ∃ I', M' = mm_si B I' ∧ P I'))
  refine go_imul dX11_passes_37 ?_
  refine go_iadd dX11_passes_38 ?_
  refine go_iastN (j := ((10 + 10 * n2) + 4)) ⟨by decide, by decide, by decide⟩ (rf_k1 RK) rfl (nI_ae rfl rfl) (by omega) dX11_passes_39 ?_
  show go_W mt_X11_passes fr_R 40 [some (pv_r m), some (pv_i x1), some (pv_i (nI (10 + 10 * n2)))] [] (mm_si B (i2_u I (m + 1) ((10 + 10 * n2) + 4) (I (m + 1) ((10 + 10 * n2) + 4) + (((2520 : Int32) / I (m + 1) ((10 + 10 * n2) + 0)) * I (m + 1) (200 + 14 * n1 + 2))))) (qv_ (fun M' => ∃ I', M' = mm_si B I' ∧ P I'))
  obtain ⟨I3, hI3⟩ : ∃ I', I' = i2_u I (m + 1) ((10 + 10 * n2) + 4) (I (m + 1) ((10 + 10 * n2) + 4) + (((2520 : Int32) / I (m + 1) ((10 + 10 * n2) + 0)) * I (m + 1) (200 + 14 * n1 + 2))) := ⟨_, rfl⟩
  rw [← hI3]
  replace H := H I3 hI3
  exact go_vret rfl dX11_passes_40 ⟨rfl, _, rfl, H⟩
set_option maxRecDepth 20000 in
theorem wq_X11_restingAt_0 {B : mm_T} {I : Nat → Nat → Int32} {m : Nat} (RK : rf_ok B m) {x1 : Int32} {P : Int32 → (Nat → Nat → Int32) → Prop} (H : rw_i mt_X11_restingAt 2 [some (pv_r m), some (pv_i x1), some (pv_i (0 : Int32)), none, none] [] B I P) : rw_i mt_X11_restingAt 0 [some (pv_r m), some (pv_i x1), none, none, none] [] B I P := by
  refine go_iconst (v := (0 : Int32)) rfl dX11_restingAt_0 ?_
  refine go_istore_n (by decide) dX11_restingAt_1 ?_
  show go_W mt_X11_restingAt fr_R 2 [some (pv_r m), some (pv_i x1), some (pv_i (0 : Int32)), none, none] [] (mm_si B I) (qi_ (fun x M' => ∃ I', M' = mm_si B I' ∧ P x I'))
  exact H
set_option maxRecDepth 20000 in
theorem wq_X11_restingAt_2 {B : mm_T} {I : Nat → Nat → Int32} {m : Nat} (RK : rf_ok B m) {x1 x2 : Int32} {P : Int32 → (Nat → Nat → Int32) → Prop} (H : (((I (m + 1) 1 ≤ x2) → P (-1 : Int32) I) ∧ ((¬ I (m + 1) 1 ≤ x2) → ∃ n1, (x2 = nI n1 ∧ n1 < 400) ∧ ((((I (m + 1) (200 + 14 * n1 + 6) = (2 : Int32)) → rw_i mt_X11_restingAt 31 [some (pv_r m), some (pv_i x1), some (pv_i x2), some (pv_i (0 : Int32)), some (pv_i (0 : Int32))] [] B I P) ∧ ((¬ I (m + 1) (200 + 14 * n1 + 6) = (2 : Int32)) → rw_i mt_X11_restingAt 2 [some (pv_r m), some (pv_i x1), some (pv_i (nI (n1 + 1))), none, none] [] B I P)))))) : rw_i mt_X11_restingAt 2 [some (pv_r m), some (pv_i x1), some (pv_i x2), none, none] [] B I P := by
  refine go_iload_n dX11_restingAt_2 rfl ?_
  refine go_aload_n dX11_restingAt_3 rfl ?_
  refine go_getRe (k := 0) ⟨by decide, rfl, by decide, Or.inr ⟨_, rfl⟩⟩ RK.1 (rf_r1 RK) fl_X11_7 dX11_restingAt_4 ?_
  refine go_iconst (v := (1 : Int32)) rfl dX11_restingAt_7 ?_
  refine go_ialdN (j := 1) ⟨by decide, by decide, by decide⟩ (rf_k1 RK) rfl (by decide) dX11_restingAt_8 ?_
  refine go_icmp_ge (tgt := 123) dX11_restingAt_9 (by decide) (fun hc => ?_) (fun hc => ?_)
  · replace H := H.1 hc
    refine go_iconst (v := (-1 : Int32)) rfl dX11_restingAt_123 ?_
    exact go_iret rfl rfl dX11_restingAt_124 ⟨_, rfl, _, rfl, H⟩
  · replace H := H.2 hc
    refine go_aload_n dX11_restingAt_12 rfl ?_
    refine go_iload_n dX11_restingAt_13 rfl ?_
    refine go_bipush (v := (6 : Int32)) rfl dX11_restingAt_14 ?_
    obtain ⟨n1, ⟨hn1, hn1b⟩, H⟩ := H
    refine go_V (av := [pv_i x2, pv_i (6 : Int32)]) (st := []) (ci := 11) ok_X11_of ⟨by decide, by decide⟩ ml_X11_94 rfl (by decide) (fun v hv => by simp only [List.mem_cons, List.not_mem_nil, or_false] at hv; rcases hv with rfl | rfl <;> first | exact pv_1i | exact pv_1r) (Nat.le_of_ble_eq_true rfl) (fun _ h => h) (by decide) rfl RK.1 dX11_restingAt_16 (rx_of RK hn1 rfl hn1b (by decide)) (fun r M' hq _ => ?_)
    obtain ⟨_, rfl, _, rfl, rfl, rfl⟩ := hq
    show go_W mt_X11_restingAt fr_R 19 [some (pv_r m), some (pv_i x1), some (pv_i x2), none, none] [pv_i (I (m + 1) (200 + 14 * n1 + 6))] (mm_si B I) (qi_ (fun x M' => ∃ I', M' = mm_si B I' ∧ P x I'))
    refine go_iconst (v := (2 : Int32)) rfl dX11_restingAt_19 ?_
    refine go_icmp_eq (tgt := 26) dX11_restingAt_20 (by decide) (fun hc => ?_) (fun hc => ?_)
    · replace H := H.1 hc
      refine go_iconst (v := (0 : Int32)) rfl dX11_restingAt_26 ?_
      refine go_istore_n (by decide) dX11_restingAt_27 ?_
      show go_W mt_X11_restingAt fr_R 28 [some (pv_r m), some (pv_i x1), some (pv_i x2), some (pv_i (0 : Int32)), none] [] (mm_si B I) (qi_ (fun x M' => ∃ I', M' = mm_si B I' ∧ P x I'))
      refine go_iconst (v := (0 : Int32)) rfl dX11_restingAt_28 ?_
      refine go_istore (by decide) dX11_restingAt_29 ?_
      show go_W mt_X11_restingAt fr_R 31 [some (pv_r m), some (pv_i x1), some (pv_i x2), some (pv_i (0 : Int32)), some (pv_i (0 : Int32))] [] (mm_si B I) (qi_ (fun x M' => ∃ I', M' = mm_si B I' ∧ P x I'))
      exact H
    · replace H := H.2 hc
      refine go_goto (tgt := 117) dX11_restingAt_23 (by decide) ?_
      refine go_iincN (n := n1) (k := 1) hn1 (by decide) rfl rfl dX11_restingAt_117 ?_
      show go_W mt_X11_restingAt fr_R 120 [some (pv_r m), some (pv_i x1), some (pv_i (nI (n1 + 1))), none, none] [] (mm_si B I) (qi_ (fun x M' => ∃ I', M' = mm_si B I' ∧ P x I'))
      refine go_goto (tgt := 2) dX11_restingAt_120 (by decide) ?_
      exact H
set_option maxRecDepth 20000 in
theorem wq_X11_restingAt_31 {B : mm_T} {I : Nat → Nat → Int32} {m : Nat} (RK : rf_ok B m) {x1 x2 x3 x4 : Int32} {P : Int32 → (Nat → Nat → Int32) → Prop} (H : (((I (m + 1) 1 ≤ x4) → (((¬ x3 = x1) → rw_i mt_X11_restingAt 2 [some (pv_r m), some (pv_i x1), some (pv_i (x2 + (1 : Int32))), none, none] [] B I P) ∧ ((x3 = x1) → P x2 I))) ∧ ((¬ I (m + 1) 1 ≤ x4) → ∃ n1, (x4 = nI n1 ∧ n1 < 400) ∧ ((((¬ I (m + 1) (200 + 14 * n1 + 6) = (2 : Int32)) → rw_i mt_X11_restingAt 31 [some (pv_r m), some (pv_i x1), some (pv_i x2), some (pv_i (x3 + (0 : Int32))), some (pv_i (nI (n1 + 1)))] [] B I P) ∧ ((I (m + 1) (200 + 14 * n1 + 6) = (2 : Int32)) → ∃ n2, (x2 = nI n2 ∧ n2 < 400) ∧ ((((I (m + 1) (200 + 14 * n1 + 8) < I (m + 1) (200 + 14 * n2 + 8)) → rw_i mt_X11_restingAt 31 [some (pv_r m), some (pv_i x1), some (pv_i x2), some (pv_i (x3 + (1 : Int32))), some (pv_i (nI (n1 + 1)))] [] B I P) ∧ ((¬ I (m + 1) (200 + 14 * n1 + 8) < I (m + 1) (200 + 14 * n2 + 8)) → (((¬ I (m + 1) (200 + 14 * n1 + 8) = I (m + 1) (200 + 14 * n2 + 8)) → rw_i mt_X11_restingAt 31 [some (pv_r m), some (pv_i x1), some (pv_i x2), some (pv_i (x3 + (0 : Int32))), some (pv_i (nI (n1 + 1)))] [] B I P) ∧ ((I (m + 1) (200 + 14 * n1 + 8) = I (m + 1) (200 + 14 * n2 + 8)) → (((x2 ≤ x4) → rw_i mt_X11_restingAt 31 [some (pv_r m), some (pv_i x1), some (pv_i x2), some (pv_i (x3 + (0 : Int32))), some (pv_i (nI (n1 + 1)))] [] B I P) ∧ ((¬ x2 ≤ x4) → rw_i mt_X11_restingAt 31 [some (pv_r m), some (pv_i x1), some (pv_i x2), some (pv_i (x3 + (1 : Int32))), some (pv_i (nI (n1 + 1)))] [] B I P))))))))))))) : rw_i mt_X11_restingAt 31 [some (pv_r m), some (pv_i x1), some (pv_i x2), some (pv_i x3), some (pv_i x4)] [] B I P := by
  refine go_iload dX11_restingAt_31 rfl ?_
  refine go_aload_n dX11_restingAt_33 rfl ?_
  refine go_getRe (k := 0) ⟨by decide, rfl, by decide, Or.inr ⟨_, rfl⟩⟩ RK.1 (rf_r1 RK) fl_X11_7 dX11_restingAt_34 ?_
  refine go_iconst (v := (1 : Int32)) rfl dX11_restingAt_37 ?_
  refine go_ialdN (j := 1) ⟨by decide, by decide, by decide⟩ (rf_k1 RK) rfl (by decide) dX11_restingAt_38 ?_
  refine go_icmp_ge (tgt := 110) dX11_restingAt_39 (by decide) (fun hc => ?_) (fun hc => ?_)
  · replace H := H.1 hc
    refine go_iload_n dX11_restingAt_110 rfl ?_
    refine go_iload_n dX11_restingAt_111 rfl ?_
    refine go_icmp_ne (tgt := 117) dX11_restingAt_112 (by decide) (fun hc => ?_) (fun hc => ?_)
    · replace H := H.1 hc
      refine go_iinc (v := (1 : Int32)) (by decide) rfl rfl dX11_restingAt_117 ?_
      show go_W mt_X11_restingAt fr_R 120 [some (pv_r m), some (pv_i x1), some (pv_i (x2 + (1 : Int32))), some (pv_i x3), some (pv_i x4)] [] (mm_si B I) (qi_ (fun x M' => ∃ I', M' = mm_si B I' ∧ P x I'))
      refine go_goto (tgt := 2) dX11_restingAt_120 (by decide) ?_
      exact go_fg (ls' := [some (pv_r m), some (pv_i x1), some (pv_i (x2 + (1 : Int32))), none, none]) ⟨rfl, ⟨rfl, ⟨rfl, trivial⟩⟩⟩ H
    · replace H := H.2 hc
      refine go_iload_n dX11_restingAt_115 rfl ?_
      exact go_iret rfl rfl dX11_restingAt_116 ⟨_, rfl, _, rfl, H⟩
  · replace H := H.2 hc
    refine go_iload_n dX11_restingAt_42 rfl ?_
    refine go_aload_n dX11_restingAt_43 rfl ?_
    refine go_iload dX11_restingAt_44 rfl ?_
    refine go_bipush (v := (6 : Int32)) rfl dX11_restingAt_46 ?_
    obtain ⟨n1, ⟨hn1, hn1b⟩, H⟩ := H
    refine go_V (av := [pv_i x4, pv_i (6 : Int32)]) (st := [pv_i x3]) (ci := 11) ok_X11_of ⟨by decide, by decide⟩ ml_X11_94 rfl (by decide) (fun v hv => by simp only [List.mem_cons, List.not_mem_nil, or_false] at hv; rcases hv with rfl | rfl <;> first | exact pv_1i | exact pv_1r) (Nat.le_of_ble_eq_true rfl) (fun _ h => h) (by decide) rfl RK.1 dX11_restingAt_48 (rx_of RK hn1 rfl hn1b (by decide)) (fun r M' hq _ => ?_)
    obtain ⟨_, rfl, _, rfl, rfl, rfl⟩ := hq
    show go_W mt_X11_restingAt fr_R 51 [some (pv_r m), some (pv_i x1), some (pv_i x2), some (pv_i x3), some (pv_i x4)] [pv_i (I (m + 1) (200 + 14 * n1 + 6)), pv_i x3] (mm_si B I) (qi_ (fun x M' => ∃ I', M' = mm_si B I' ∧ P x I'))
    refine go_iconst (v := (2 : Int32)) rfl dX11_restingAt_51 ?_
    refine go_icmp_ne (tgt := 101) dX11_restingAt_52 (by decide) (fun hc => ?_) (fun hc => ?_)
    · replace H := H.1 hc
      refine go_iconst (v := (0 : Int32)) rfl dX11_restingAt_101 ?_
      refine go_iadd dX11_restingAt_102 ?_
      refine go_istore_n (by decide) dX11_restingAt_103 ?_
      show go_W mt_X11_restingAt fr_R 104 [some (pv_r m), some (pv_i x1), some (pv_i x2), some (pv_i (x3 + (0 : Int32))), some (pv_i x4)] [] (mm_si B I) (qi_ (fun x M' => ∃ I', M' = mm_si B I' ∧ P x I'))
      refine go_iincN (n := n1) (k := 1) hn1 (by decide) rfl rfl dX11_restingAt_104 ?_
      show go_W mt_X11_restingAt fr_R 107 [some (pv_r m), some (pv_i x1), some (pv_i x2), some (pv_i (x3 + (0 : Int32))), some (pv_i (nI (n1 + 1)))] [] (mm_si B I) (qi_ (fun x M' => ∃ I', M' = mm_si B I' ∧ P x I'))
      refine go_goto (tgt := 31) dX11_restingAt_107 (by decide) ?_
      exact H
    · replace H := H.2 hc
      refine go_aload_n dX11_restingAt_55 rfl ?_
      refine go_iload dX11_restingAt_56 rfl ?_
      refine go_bipush (v := (8 : Int32)) rfl dX11_restingAt_58 ?_
      refine go_V (av := [pv_i x4, pv_i (8 : Int32)]) (st := [pv_i x3]) (ci := 11) ok_X11_of ⟨by decide, by decide⟩ ml_X11_94 rfl (by decide) (fun v hv => by simp only [List.mem_cons, List.not_mem_nil, or_false] at hv; rcases hv with rfl | rfl <;> first | exact pv_1i | exact pv_1r) (Nat.le_of_ble_eq_true rfl) (fun _ h => h) (by decide) rfl RK.1 dX11_restingAt_60 (rx_of RK hn1 rfl (by omega) (by decide)) (fun r M' hq _ => ?_)
      obtain ⟨_, rfl, _, rfl, rfl, rfl⟩ := hq
      show go_W mt_X11_restingAt fr_R 63 [some (pv_r m), some (pv_i x1), some (pv_i x2), some (pv_i x3), some (pv_i x4)] [pv_i (I (m + 1) (200 + 14 * n1 + 8)), pv_i x3] (mm_si B I) (qi_ (fun x M' => ∃ I', M' = mm_si B I' ∧ P x I'))
      refine go_aload_n dX11_restingAt_63 rfl ?_
      refine go_iload_n dX11_restingAt_64 rfl ?_
      refine go_bipush (v := (8 : Int32)) rfl dX11_restingAt_65 ?_
      obtain ⟨n2, ⟨hn2, hn2b⟩, H⟩ := H
      refine go_V (av := [pv_i x2, pv_i (8 : Int32)]) (st := [pv_i (I (m + 1) (200 + 14 * n1 + 8)), pv_i x3]) (ci := 11) ok_X11_of ⟨by decide, by decide⟩ ml_X11_94 rfl (by decide) (fun v hv => by simp only [List.mem_cons, List.not_mem_nil, or_false] at hv; rcases hv with rfl | rfl <;> first | exact pv_1i | exact pv_1r) (Nat.le_of_ble_eq_true rfl) (fun _ h => h) (by decide) rfl RK.1 dX11_restingAt_67 (rx_of RK hn2 rfl hn2b (by decide)) (fun r M' hq _ => ?_)
      obtain ⟨_, rfl, _, rfl, rfl, rfl⟩ := hq
      show go_W mt_X11_restingAt fr_R 70 [some (pv_r m), some (pv_i x1), some (pv_i x2), some (pv_i x3), some (pv_i x4)] [pv_i (I (m + 1) (200 + 14 * n2 + 8)), pv_i (I (m + 1) (200 + 14 * n1 + 8)), pv_i x3] (mm_si B I) (qi_ (fun x M' => ∃ I', M' = mm_si B I' ∧ P x I'))
      refine go_icmp_lt (tgt := 97) dX11_restingAt_70 (by decide) (fun hc => ?_) (fun hc => ?_)
      · replace H := H.1 hc
        refine go_iconst (v := (1 : Int32)) rfl dX11_restingAt_97 ?_
        refine go_goto (tgt := 102) dX11_restingAt_98 (by decide) ?_
        refine go_iadd dX11_restingAt_102 ?_
        refine go_istore_n (by decide) dX11_restingAt_103 ?_
        show go_W mt_X11_restingAt fr_R 104 [some (pv_r m), some (pv_i x1), some (pv_i x2), some (pv_i (x3 + (1 : Int32))), some (pv_i x4)] [] (mm_si B I) (qi_ (fun x M' => ∃ I', M' = mm_si B I' ∧ P x I'))
        refine go_iincN (n := n1) (k := 1) hn1 (by decide) rfl rfl dX11_restingAt_104 ?_
        show go_W mt_X11_restingAt fr_R 107 [some (pv_r m), some (pv_i x1), some (pv_i x2), some (pv_i (x3 + (1 : Int32))), some (pv_i (nI (n1 + 1)))] [] (mm_si B I) (qi_ (fun x M' => ∃ I', M' = mm_si B I' ∧ P x I'))
        refine go_goto (tgt := 31) dX11_restingAt_107 (by decide) ?_
        exact H
      · replace H := H.2 hc
        refine go_aload_n dX11_restingAt_73 rfl ?_
        refine go_iload dX11_restingAt_74 rfl ?_
        refine go_bipush (v := (8 : Int32)) rfl dX11_restingAt_76 ?_
        refine go_V (av := [pv_i x4, pv_i (8 : Int32)]) (st := [pv_i x3]) (ci := 11) ok_X11_of ⟨by decide, by decide⟩ ml_X11_94 rfl (by decide) (fun v hv => by simp only [List.mem_cons, List.not_mem_nil, or_false] at hv; rcases hv with rfl | rfl <;> first | exact pv_1i | exact pv_1r) (Nat.le_of_ble_eq_true rfl) (fun _ h => h) (by decide) rfl RK.1 dX11_restingAt_78 (rx_of RK hn1 rfl (by omega) (by decide)) (fun r M' hq _ => ?_)
        obtain ⟨_, rfl, _, rfl, rfl, rfl⟩ := hq
        show go_W mt_X11_restingAt fr_R 81 [some (pv_r m), some (pv_i x1), some (pv_i x2), some (pv_i x3), some (pv_i x4)] [pv_i (I (m + 1) (200 + 14 * n1 + 8)), pv_i x3] (mm_si B I) (qi_ (fun x M' => ∃ I', M' = mm_si B I' ∧ P x I'))
        refine go_aload_n dX11_restingAt_81 rfl ?_
        refine go_iload_n dX11_restingAt_82 rfl ?_
        refine go_bipush (v := (8 : Int32)) rfl dX11_restingAt_83 ?_
        refine go_V (av := [pv_i x2, pv_i (8 : Int32)]) (st := [pv_i (I (m + 1) (200 + 14 * n1 + 8)), pv_i x3]) (ci := 11) ok_X11_of ⟨by decide, by decide⟩ ml_X11_94 rfl (by decide) (fun v hv => by simp only [List.mem_cons, List.not_mem_nil, or_false] at hv; rcases hv with rfl | rfl <;> first | exact pv_1i | exact pv_1r) (Nat.le_of_ble_eq_true rfl) (fun _ h => h) (by decide) rfl RK.1 dX11_restingAt_85 (rx_of RK hn2 rfl (by omega) (by decide)) (fun r M' hq _ => ?_)
        obtain ⟨_, rfl, _, rfl, rfl, rfl⟩ := hq
        show go_W mt_X11_restingAt fr_R 88 [some (pv_r m), some (pv_i x1), some (pv_i x2), some (pv_i x3), some (pv_i x4)] [pv_i (I (m + 1) (200 + 14 * n2 + 8)), pv_i (I (m + 1) (200 + 14 * n1 + 8)), pv_i x3] (mm_si B I) (qi_ (fun x M' => ∃ I', M' = mm_si B I' ∧ P x I'))
        refine go_icmp_ne (tgt := 101) dX11_restingAt_88 (by decide) (fun hc => ?_) (fun hc => ?_)
        · replace H := H.1 hc
          refine go_iconst (v := (0 : Int32)) rfl dX11_restingAt_101 ?_
          refine go_iadd dX11_restingAt_102 ?_
          refine go_istore_n (by decide) dX11_restingAt_103 ?_
          show go_W mt_X11_restingAt fr_R 104 [some (pv_r m), some (pv_i x1), some (pv_i x2), some (pv_i (x3 + (0 : Int32))), some (pv_i x4)] [] (mm_si B I) (qi_ (fun x M' => ∃ I', M' = mm_si B I' ∧ P x I'))
          refine go_iincN (n := n1) (k := 1) hn1 (by decide) rfl rfl dX11_restingAt_104 ?_
          show go_W mt_X11_restingAt fr_R 107 [some (pv_r m), some (pv_i x1), some (pv_i x2), some (pv_i (x3 + (0 : Int32))), some (pv_i (nI (n1 + 1)))] [] (mm_si B I) (qi_ (fun x M' => ∃ I', M' = mm_si B I' ∧ P x I'))
          refine go_goto (tgt := 31) dX11_restingAt_107 (by decide) ?_
          exact H
        · replace H := H.2 hc
          refine go_iload dX11_restingAt_91 rfl ?_
          refine go_iload_n dX11_restingAt_93 rfl ?_
          refine go_icmp_ge (tgt := 101) dX11_restingAt_94 (by decide) (fun hc => ?_) (fun hc => ?_)
          · replace H := H.1 hc
            refine go_iconst (v := (0 : Int32)) rfl dX11_restingAt_101 ?_
            refine go_iadd dX11_restingAt_102 ?_
            refine go_istore_n (by decide) dX11_restingAt_103 ?_
            show go_W mt_X11_restingAt fr_R 104 [some (pv_r m), some (pv_i x1), some (pv_i x2), some (pv_i (x3 + (0 : Int32))), some (pv_i x4)] [] (mm_si B I) (qi_ (fun x M' => ∃ I', M' = mm_si B I' ∧ P x I'))
            refine go_iincN (n := n1) (k := 1) hn1 (by decide) rfl rfl dX11_restingAt_104 ?_
            show go_W mt_X11_restingAt fr_R 107 [some (pv_r m), some (pv_i x1), some (pv_i x2), some (pv_i (x3 + (0 : Int32))), some (pv_i (nI (n1 + 1)))] [] (mm_si B I) (qi_ (fun x M' => ∃ I', M' = mm_si B I' ∧ P x I'))
            refine go_goto (tgt := 31) dX11_restingAt_107 (by decide) ?_
            exact H
          · replace H := H.2 hc
            refine go_iconst (v := (1 : Int32)) rfl dX11_restingAt_97 ?_
            refine go_goto (tgt := 102) dX11_restingAt_98 (by decide) ?_
            refine go_iadd dX11_restingAt_102 ?_
            refine go_istore_n (by decide) dX11_restingAt_103 ?_
            show go_W mt_X11_restingAt fr_R 104 [some (pv_r m), some (pv_i x1), some (pv_i x2), some (pv_i (x3 + (1 : Int32))), some (pv_i x4)] [] (mm_si B I) (qi_ (fun x M' => ∃ I', M' = mm_si B I' ∧ P x I'))
            refine go_iincN (n := n1) (k := 1) hn1 (by decide) rfl rfl dX11_restingAt_104 ?_
            show go_W mt_X11_restingAt fr_R 107 [some (pv_r m), some (pv_i x1), some (pv_i x2), some (pv_i (x3 + (1 : Int32))), some (pv_i (nI (n1 + 1)))] [] (mm_si B I) (qi_ (fun x M' => ∃ I', M' = mm_si B I' ∧ P x I'))
            refine go_goto (tgt := 31) dX11_restingAt_107 (by decide) ?_
            exact H
set_option maxRecDepth 20000 in
theorem wq_X11_nextResting_0 {B : mm_T} {I : Nat → Nat → Int32} {m : Nat} (RK : rf_ok B m)  {P : Int32 → (Nat → Nat → Int32) → Prop} (H : rw_i mt_X11_nextResting 4 [some (pv_r m), some (pv_i (-1 : Int32)), some (pv_i (0 : Int32))] [] B I P) : rw_i mt_X11_nextResting 0 [some (pv_r m), none, none] [] B I P := by
  refine go_iconst (v := (-1 : Int32)) rfl dX11_nextResting_0 ?_
  refine go_istore_n (by decide) dX11_nextResting_1 ?_
  show go_W mt_X11_nextResting fr_R 2 [some (pv_r m), some (pv_i (-1 : Int32)), none] [] (mm_si B I) (qi_ (fun x M' => ∃ I', M' = mm_si B I' ∧ P x I'))
  refine go_iconst (v := (0 : Int32)) rfl dX11_nextResting_2 ?_
  refine go_istore_n (by decide) dX11_nextResting_3 ?_
  show go_W mt_X11_nextResting fr_R 4 [some (pv_r m), some (pv_i (-1 : Int32)), some (pv_i (0 : Int32))] [] (mm_si B I) (qi_ (fun x M' => ∃ I', M' = mm_si B I' ∧ P x I'))
  exact H
set_option maxRecDepth 20000 in
theorem wq_X11_nextResting_4 {B : mm_T} {I : Nat → Nat → Int32} {m : Nat} (RK : rf_ok B m) {x1 x2 : Int32} {P : Int32 → (Nat → Nat → Int32) → Prop} (H : (((I (m + 1) 1 ≤ x2) → P x1 I) ∧ ((¬ I (m + 1) 1 ≤ x2) → ∃ n1, (x2 = nI n1 ∧ n1 < 400) ∧ ((((¬ I (m + 1) (200 + 14 * n1 + 6) = (2 : Int32)) → rw_i mt_X11_nextResting 4 [some (pv_r m), some (pv_i x1), some (pv_i (nI (n1 + 1)))] [] B I P) ∧ ((I (m + 1) (200 + 14 * n1 + 6) = (2 : Int32)) → (((x1 = (-1 : Int32)) → rw_i mt_X11_nextResting 4 [some (pv_r m), some (pv_i x2), some (pv_i (nI (n1 + 1)))] [] B I P) ∧ ((¬ x1 = (-1 : Int32)) → ∃ n2, (x1 = nI n2 ∧ n2 < 400) ∧ ((((I (m + 1) (200 + 14 * n2 + 8) ≤ I (m + 1) (200 + 14 * n1 + 8)) → rw_i mt_X11_nextResting 4 [some (pv_r m), some (pv_i x1), some (pv_i (nI (n1 + 1)))] [] B I P) ∧ ((¬ I (m + 1) (200 + 14 * n2 + 8) ≤ I (m + 1) (200 + 14 * n1 + 8)) → rw_i mt_X11_nextResting 4 [some (pv_r m), some (pv_i x2), some (pv_i (nI (n1 + 1)))] [] B I P))))))))))) : rw_i mt_X11_nextResting 4 [some (pv_r m), some (pv_i x1), some (pv_i x2)] [] B I P := by
  refine go_iload_n dX11_nextResting_4 rfl ?_
  refine go_aload_n dX11_nextResting_5 rfl ?_
  refine go_getRe (k := 0) ⟨by decide, rfl, by decide, Or.inr ⟨_, rfl⟩⟩ RK.1 (rf_r1 RK) fl_X11_7 dX11_nextResting_6 ?_
  refine go_iconst (v := (1 : Int32)) rfl dX11_nextResting_9 ?_
  refine go_ialdN (j := 1) ⟨by decide, by decide, by decide⟩ (rf_k1 RK) rfl (by decide) dX11_nextResting_10 ?_
  refine go_icmp_ge (tgt := 55) dX11_nextResting_11 (by decide) (fun hc => ?_) (fun hc => ?_)
  · replace H := H.1 hc
    refine go_iload_n dX11_nextResting_55 rfl ?_
    exact go_iret rfl rfl dX11_nextResting_56 ⟨_, rfl, _, rfl, H⟩
  · replace H := H.2 hc
    refine go_aload_n dX11_nextResting_14 rfl ?_
    refine go_iload_n dX11_nextResting_15 rfl ?_
    refine go_bipush (v := (6 : Int32)) rfl dX11_nextResting_16 ?_
    obtain ⟨n1, ⟨hn1, hn1b⟩, H⟩ := H
    refine go_V (av := [pv_i x2, pv_i (6 : Int32)]) (st := []) (ci := 11) ok_X11_of ⟨by decide, by decide⟩ ml_X11_94 rfl (by decide) (fun v hv => by simp only [List.mem_cons, List.not_mem_nil, or_false] at hv; rcases hv with rfl | rfl <;> first | exact pv_1i | exact pv_1r) (Nat.le_of_ble_eq_true rfl) (fun _ h => h) (by decide) rfl RK.1 dX11_nextResting_18 (rx_of RK hn1 rfl hn1b (by decide)) (fun r M' hq _ => ?_)
    obtain ⟨_, rfl, _, rfl, rfl, rfl⟩ := hq
    show go_W mt_X11_nextResting fr_R 21 [some (pv_r m), some (pv_i x1), some (pv_i x2)] [pv_i (I (m + 1) (200 + 14 * n1 + 6))] (mm_si B I) (qi_ (fun x M' => ∃ I', M' = mm_si B I' ∧ P x I'))
    refine go_iconst (v := (2 : Int32)) rfl dX11_nextResting_21 ?_
    refine go_icmp_ne (tgt := 49) dX11_nextResting_22 (by decide) (fun hc => ?_) (fun hc => ?_)
    · replace H := H.1 hc
      refine go_iincN (n := n1) (k := 1) hn1 (by decide) rfl rfl dX11_nextResting_49 ?_
      show go_W mt_X11_nextResting fr_R 52 [some (pv_r m), some (pv_i x1), some (pv_i (nI (n1 + 1)))] [] (mm_si B I) (qi_ (fun x M' => ∃ I', M' = mm_si B I' ∧ P x I'))
      refine go_goto (tgt := 4) dX11_nextResting_52 (by decide) ?_
      exact H
    · replace H := H.2 hc
      refine go_iload_n dX11_nextResting_25 rfl ?_
      refine go_iconst (v := (-1 : Int32)) rfl dX11_nextResting_26 ?_
      refine go_icmp_eq (tgt := 47) dX11_nextResting_27 (by decide) (fun hc => ?_) (fun hc => ?_)
      · replace H := H.1 hc
        refine go_iload_n dX11_nextResting_47 rfl ?_
        refine go_istore_n (by decide) dX11_nextResting_48 ?_
        show go_W mt_X11_nextResting fr_R 49 [some (pv_r m), some (pv_i x2), some (pv_i x2)] [] (mm_si B I) (qi_ (fun x M' => ∃ I', M' = mm_si B I' ∧ P x I'))
        refine go_iincN (n := n1) (k := 1) hn1 (by decide) rfl rfl dX11_nextResting_49 ?_
        show go_W mt_X11_nextResting fr_R 52 [some (pv_r m), some (pv_i x2), some (pv_i (nI (n1 + 1)))] [] (mm_si B I) (qi_ (fun x M' => ∃ I', M' = mm_si B I' ∧ P x I'))
        refine go_goto (tgt := 4) dX11_nextResting_52 (by decide) ?_
        exact H
      · replace H := H.2 hc
        refine go_aload_n dX11_nextResting_30 rfl ?_
        refine go_iload_n dX11_nextResting_31 rfl ?_
        refine go_bipush (v := (8 : Int32)) rfl dX11_nextResting_32 ?_
        refine go_V (av := [pv_i x2, pv_i (8 : Int32)]) (st := []) (ci := 11) ok_X11_of ⟨by decide, by decide⟩ ml_X11_94 rfl (by decide) (fun v hv => by simp only [List.mem_cons, List.not_mem_nil, or_false] at hv; rcases hv with rfl | rfl <;> first | exact pv_1i | exact pv_1r) (Nat.le_of_ble_eq_true rfl) (fun _ h => h) (by decide) rfl RK.1 dX11_nextResting_34 (rx_of RK hn1 rfl (by omega) (by decide)) (fun r M' hq _ => ?_)
        obtain ⟨_, rfl, _, rfl, rfl, rfl⟩ := hq
        show go_W mt_X11_nextResting fr_R 37 [some (pv_r m), some (pv_i x1), some (pv_i x2)] [pv_i (I (m + 1) (200 + 14 * n1 + 8))] (mm_si B I) (qi_ (fun x M' => ∃ I', M' = mm_si B I' ∧ P x I'))
        refine go_aload_n dX11_nextResting_37 rfl ?_
        refine go_iload_n dX11_nextResting_38 rfl ?_
        refine go_bipush (v := (8 : Int32)) rfl dX11_nextResting_39 ?_
        obtain ⟨n2, ⟨hn2, hn2b⟩, H⟩ := H
        refine go_V (av := [pv_i x1, pv_i (8 : Int32)]) (st := [pv_i (I (m + 1) (200 + 14 * n1 + 8))]) (ci := 11) ok_X11_of ⟨by decide, by decide⟩ ml_X11_94 rfl (by decide) (fun v hv => by simp only [List.mem_cons, List.not_mem_nil, or_false] at hv; rcases hv with rfl | rfl <;> first | exact pv_1i | exact pv_1r) (Nat.le_of_ble_eq_true rfl) (fun _ h => h) (by decide) rfl RK.1 dX11_nextResting_41 (rx_of RK hn2 rfl hn2b (by decide)) (fun r M' hq _ => ?_)
        obtain ⟨_, rfl, _, rfl, rfl, rfl⟩ := hq
        show go_W mt_X11_nextResting fr_R 44 [some (pv_r m), some (pv_i x1), some (pv_i x2)] [pv_i (I (m + 1) (200 + 14 * n2 + 8)), pv_i (I (m + 1) (200 + 14 * n1 + 8))] (mm_si B I) (qi_ (fun x M' => ∃ I', M' = mm_si B I' ∧ P x I'))
        refine go_icmp_ge (tgt := 49) dX11_nextResting_44 (by decide) (fun hc => ?_) (fun hc => ?_)
        · replace H := H.1 hc
          refine go_iincN (n := n1) (k := 1) hn1 (by decide) rfl rfl dX11_nextResting_49 ?_
          show go_W mt_X11_nextResting fr_R 52 [some (pv_r m), some (pv_i x1), some (pv_i (nI (n1 + 1)))] [] (mm_si B I) (qi_ (fun x M' => ∃ I', M' = mm_si B I' ∧ P x I'))
          refine go_goto (tgt := 4) dX11_nextResting_52 (by decide) ?_
          exact H
        · replace H := H.2 hc
          refine go_iload_n dX11_nextResting_47 rfl ?_
          refine go_istore_n (by decide) dX11_nextResting_48 ?_
          show go_W mt_X11_nextResting fr_R 49 [some (pv_r m), some (pv_i x2), some (pv_i x2)] [] (mm_si B I) (qi_ (fun x M' => ∃ I', M' = mm_si B I' ∧ P x I'))
          refine go_iincN (n := n1) (k := 1) hn1 (by decide) rfl rfl dX11_nextResting_49 ?_
          show go_W mt_X11_nextResting fr_R 52 [some (pv_r m), some (pv_i x2), some (pv_i (nI (n1 + 1)))] [] (mm_si B I) (qi_ (fun x M' => ∃ I', M' = mm_si B I' ∧ P x I'))
          refine go_goto (tgt := 4) dX11_nextResting_52 (by decide) ?_
          exact H
set_option maxRecDepth 20000 in
theorem wq_X11_wakes_0 {B : mm_T} {I : Nat → Nat → Int32} {m : Nat} (RK : rf_ok B m)  {P : (Nat → Nat → Int32) → Prop} (H : rs_i mt_X11_nextResting [pv_r m] B I (fun v2 I1 => rw_v mt_X11_wakes 5 [some (pv_r m), some (pv_i v2)] [] B I1 P)) : rw_v mt_X11_wakes 0 [some (pv_r m), none] [] B I P := by
  refine go_aload_n dX11_wakes_0 rfl ?_
  refine go_V (av := []) (st := []) (ci := 11) ok_X11_nextResting ⟨by decide, by decide⟩ ml_X11_183 rfl (by decide) (fun v hv => absurd hv List.not_mem_nil) (Nat.le_of_ble_eq_true rfl) (fun _ h => h) (by decide) rfl RK.1 dX11_wakes_1 H (fun r M' hq _ => ?_)
  obtain ⟨v2, rfl, I1, rfl, H⟩ := hq
  show go_W mt_X11_wakes fr_R 4 [some (pv_r m), none] [pv_i v2] (mm_si B I1) (qv_ (fun M' => ∃ I', M' = mm_si B I' ∧ P I'))
  refine go_istore_n (by decide) dX11_wakes_4 ?_
  show go_W mt_X11_wakes fr_R 5 [some (pv_r m), some (pv_i v2)] [] (mm_si B I1) (qv_ (fun M' => ∃ I', M' = mm_si B I' ∧ P I'))
  exact H
set_option maxRecDepth 20000 in
theorem wq_X11_wakes_5 {B : mm_T} {I : Nat → Nat → Int32} {m : Nat} (RK : rf_ok B m) {x1 : Int32} {P : (Nat → Nat → Int32) → Prop} (H : (((x1 = (-1 : Int32)) → P I) ∧ ((¬ x1 = (-1 : Int32)) → ∃ n1, (x1 = nI n1 ∧ n1 < 400) ∧ ((((I (m + 1) 0 < I (m + 1) (200 + 14 * n1 + 8)) → P I) ∧ ((¬ I (m + 1) 0 < I (m + 1) (200 + 14 * n1 + 8)) → ∀ I2, I2 = i2_u I (m + 1) (200 + 14 * n1 + 8) (-1 : Int32) → rs_v mt_X11_waitsNow [pv_r m, pv_i x1] B I2 (fun I3 => ∀ I4, I4 = i2_u I3 m 11 (I3 m 11 + (1 : Int32)) → rs_v mt_X11_writes [pv_r m, pv_i (5 : Int32), pv_i x1, pv_i (-1 : Int32), pv_i (0 : Int32)] B I4 (fun I5 => rs_i mt_X11_nextResting [pv_r m] B I5 (fun v7 I6 => rw_v mt_X11_wakes 5 [some (pv_r m), some (pv_i v7)] [] B I6 P))))))))) : rw_v mt_X11_wakes 5 [some (pv_r m), some (pv_i x1)] [] B I P := by
  refine go_iload_n dX11_wakes_5 rfl ?_
  refine go_iconst (v := (-1 : Int32)) rfl dX11_wakes_6 ?_
  refine go_icmp_eq (tgt := 65) dX11_wakes_7 (by decide) (fun hc => ?_) (fun hc => ?_)
  · replace H := H.1 hc
    exact go_vret rfl dX11_wakes_65 ⟨rfl, _, rfl, H⟩
  · replace H := H.2 hc
    refine go_aload_n dX11_wakes_10 rfl ?_
    refine go_iload_n dX11_wakes_11 rfl ?_
    refine go_bipush (v := (8 : Int32)) rfl dX11_wakes_12 ?_
    obtain ⟨n1, ⟨hn1, hn1b⟩, H⟩ := H
    refine go_V (av := [pv_i x1, pv_i (8 : Int32)]) (st := []) (ci := 11) ok_X11_of ⟨by decide, by decide⟩ ml_X11_94 rfl (by decide) (fun v hv => by simp only [List.mem_cons, List.not_mem_nil, or_false] at hv; rcases hv with rfl | rfl <;> first | exact pv_1i | exact pv_1r) (Nat.le_of_ble_eq_true rfl) (fun _ h => h) (by decide) rfl RK.1 dX11_wakes_14 (rx_of RK hn1 rfl hn1b (by decide)) (fun r M' hq _ => ?_)
    obtain ⟨_, rfl, _, rfl, rfl, rfl⟩ := hq
    show go_W mt_X11_wakes fr_R 17 [some (pv_r m), some (pv_i x1)] [pv_i (I (m + 1) (200 + 14 * n1 + 8))] (mm_si B I) (qv_ (fun M' => ∃ I', M' = mm_si B I' ∧ P I'))
    refine go_aload_n dX11_wakes_17 rfl ?_
    refine go_getRe (k := 0) ⟨by decide, rfl, by decide, Or.inr ⟨_, rfl⟩⟩ RK.1 (rf_r1 RK) fl_X11_7 dX11_wakes_18 ?_
    refine go_iconst (v := (0 : Int32)) rfl dX11_wakes_21 ?_
    refine go_ialdN (j := 0) ⟨by decide, by decide, by decide⟩ (rf_k1 RK) rfl (by decide) dX11_wakes_22 ?_
    refine go_icmp_gt (tgt := 65) dX11_wakes_23 (by decide) (fun hc => ?_) (fun hc => ?_)
    · replace H := H.1 hc
      exact go_vret rfl dX11_wakes_65 ⟨rfl, _, rfl, H⟩
    · replace H := H.2 hc
      refine go_aload_n dX11_wakes_26 rfl ?_
      refine go_iload_n dX11_wakes_27 rfl ?_
      refine go_bipush (v := (8 : Int32)) rfl dX11_wakes_28 ?_
      refine go_iconst (v := (-1 : Int32)) rfl dX11_wakes_30 ?_
      refine go_V (av := [pv_i x1, pv_i (8 : Int32), pv_i (-1 : Int32)]) (st := []) (ci := 11) ok_X11_is ⟨by decide, by decide⟩ ml_X11_121 rfl (by decide) (fun v hv => by simp only [List.mem_cons, List.not_mem_nil, or_false] at hv; rcases hv with rfl | rfl | rfl <;> first | exact pv_1i | exact pv_1r) (Nat.le_of_ble_eq_true rfl) (fun _ h => h) (by decide) rfl RK.1 dX11_wakes_31 (rx_is RK hn1 rfl (by omega) (by decide)) (fun r M' hq _ => ?_)
      obtain ⟨rfl, _, rfl, rfl⟩ := hq
      show go_W mt_X11_wakes fr_R 34 [some (pv_r m), some (pv_i x1)] [] (mm_si B (i2_u I (m + 1) (200 + 14 * n1 + 8) (-1 : Int32))) (qv_ (fun M' => ∃ I', M' = mm_si B I' ∧ P I'))
      obtain ⟨I2, hI2⟩ : ∃ I', I' = i2_u I (m + 1) (200 + 14 * n1 + 8) (-1 : Int32) := ⟨_, rfl⟩
      rw [← hI2]
      replace H := H I2 hI2
      refine go_aload_n dX11_wakes_34 rfl ?_
      refine go_iload_n dX11_wakes_35 rfl ?_
      refine go_V (av := [pv_i x1]) (st := []) (ci := 11) ok_X11_waitsNow ⟨by decide, by decide⟩ ml_X11_146 rfl (by decide) (fun v hv => by simp only [List.mem_cons, List.not_mem_nil, or_false] at hv; rcases hv with rfl <;> first | exact pv_1i | exact pv_1r) (Nat.le_of_ble_eq_true rfl) (fun _ h => h) (by decide) rfl RK.1 dX11_wakes_36 H (fun r M' hq _ => ?_)
      obtain ⟨rfl, I3, rfl, H⟩ := hq
      show go_W mt_X11_wakes fr_R 39 [some (pv_r m), some (pv_i x1)] [] (mm_si B I3) (qv_ (fun M' => ∃ I', M' = mm_si B I' ∧ P I'))
      refine go_aload_n dX11_wakes_39 rfl ?_
      refine go_dup pv_1r dX11_wakes_40 ?_
      refine go_getI (k := 11) ⟨by decide, rfl, by decide, rfl⟩ RK.1 fl_X11_45 dX11_wakes_41 ?_
      refine go_iconst (v := (1 : Int32)) rfl dX11_wakes_44 ?_
      refine go_iadd dX11_wakes_45 ?_
      refine go_putI (k := 11) ⟨by decide, rfl, by decide, rfl⟩ RK.1 rfl (Or.inl rfl) fl_X11_45 dX11_wakes_46 ?_
      show go_W mt_X11_wakes fr_R 49 [some (pv_r m), some (pv_i x1)] [] (mm_si B (i2_u I3 m 11 (I3 m 11 + (1 : Int32)))) (qv_ (fun M' => ∃ I', M' = mm_si B I' ∧ P I'))
      obtain ⟨I4, hI4⟩ : ∃ I', I' = i2_u I3 m 11 (I3 m 11 + (1 : Int32)) := ⟨_, rfl⟩
      rw [← hI4]
      replace H := H I4 hI4
      refine go_aload_n dX11_wakes_49 rfl ?_
      refine go_iconst (v := (5 : Int32)) rfl dX11_wakes_50 ?_
      refine go_iload_n dX11_wakes_51 rfl ?_
      refine go_iconst (v := (-1 : Int32)) rfl dX11_wakes_52 ?_
      refine go_iconst (v := (0 : Int32)) rfl dX11_wakes_53 ?_
      refine go_V (av := [pv_i (5 : Int32), pv_i x1, pv_i (-1 : Int32), pv_i (0 : Int32)]) (st := []) (ci := 11) ok_X11_writes ⟨by decide, by decide⟩ ml_X11_125 rfl (by decide) (fun v hv => by simp only [List.mem_cons, List.not_mem_nil, or_false] at hv; rcases hv with rfl | rfl | rfl | rfl <;> first | exact pv_1i | exact pv_1r) (Nat.le_of_ble_eq_true rfl) (fun _ h => h) (by decide) rfl RK.1 dX11_wakes_54 H (fun r M' hq _ => ?_)
      obtain ⟨rfl, I5, rfl, H⟩ := hq
      show go_W mt_X11_wakes fr_R 57 [some (pv_r m), some (pv_i x1)] [] (mm_si B I5) (qv_ (fun M' => ∃ I', M' = mm_si B I' ∧ P I'))
      refine go_aload_n dX11_wakes_57 rfl ?_
      refine go_V (av := []) (st := []) (ci := 11) ok_X11_nextResting ⟨by decide, by decide⟩ ml_X11_183 rfl (by decide) (fun v hv => absurd hv List.not_mem_nil) (Nat.le_of_ble_eq_true rfl) (fun _ h => h) (by decide) rfl RK.1 dX11_wakes_58 H (fun r M' hq _ => ?_)
      obtain ⟨v7, rfl, I6, rfl, H⟩ := hq
      show go_W mt_X11_wakes fr_R 61 [some (pv_r m), some (pv_i x1)] [pv_i v7] (mm_si B I6) (qv_ (fun M' => ∃ I', M' = mm_si B I' ∧ P I'))
      refine go_istore_n (by decide) dX11_wakes_61 ?_
      show go_W mt_X11_wakes fr_R 62 [some (pv_r m), some (pv_i v7)] [] (mm_si B I6) (qv_ (fun M' => ∃ I', M' = mm_si B I' ∧ P I'))
      refine go_goto (tgt := 5) dX11_wakes_62 (by decide) ?_
      exact H
