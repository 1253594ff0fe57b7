/-! the walks of the reference, by program (wip/whole/walk2.py) -/
set_option maxRecDepth 20000 in
theorem wq_X11_begins_0 {B : mm_T} {I : Nat → Nat → Int32} {m : Nat} (RK : rf_ok B m)  {P : (Nat → Nat → Int32) → Prop} (H : rw_v mt_X11_begins 2 [some (pv_r m), some (pv_i (0 : Int32))] [] B I P) : rw_v mt_X11_begins 0 [some (pv_r m), none] [] B I P := by
  refine go_iconst (v := (0 : Int32)) rfl dX11_begins_0 ?_
  refine go_istore_n (by decide) dX11_begins_1 ?_
  show go_W mt_X11_begins fr_R 2 [some (pv_r m), some (pv_i (0 : Int32))] [] (mm_si B I) (qv_ (fun M' => ∃ I', M' = mm_si B I' ∧ P I'))
  exact H
set_option maxRecDepth 20000 in
theorem wq_X11_begins_2 {B : mm_T} {I : Nat → Nat → Int32} {m : Nat} (RK : rf_ok B m) {x1 : Int32} {P : (Nat → Nat → Int32) → Prop} (H : ((((6200 : Int32) ≤ x1) → ∀ I1, I1 = i2_u I m 8 (1 : Int32) → ∀ I2, I2 = i2_u I1 m 9 (0 : Int32) → ∀ I3, I3 = i2_u I2 m 10 (0 : Int32) → ∀ I4, I4 = i2_u I3 m 11 (0 : Int32) → P I4) ∧ ((¬ (6200 : Int32) ≤ x1) → ∃ n5, (x1 = nI n5 ∧ n5 < 6200) ∧ (∀ I6, I6 = i2_u I (m + 2) n5 (I (m + 1) n5) → rw_v mt_X11_begins 2 [some (pv_r m), some (pv_i (nI (n5 + 1)))] [] B I6 P)))) : rw_v mt_X11_begins 2 [some (pv_r m), some (pv_i x1)] [] B I P := by
  refine go_iload_n dX11_begins_2 rfl ?_
  refine go_sipush (v := (6200 : Int32)) rfl dX11_begins_3 ?_
  refine go_icmp_ge (tgt := 27) dX11_begins_6 (by decide) (fun hc => ?_) (fun hc => ?_)
  · replace H := H.1 hc
    refine go_aload_n dX11_begins_27 rfl ?_
    refine go_iconst (v := (1 : Int32)) rfl dX11_begins_28 ?_
    refine go_putZ (k := 8) (Or.inr rfl) ⟨by decide, rfl, by decide, rfl⟩ RK.1 rfl (Or.inl rfl) fl_X11_35 dX11_begins_29 ?_
    show go_W mt_X11_begins fr_R 32 [some (pv_r m), some (pv_i x1)] [] (mm_si B (i2_u I m 8 (1 : Int32))) (qv_ (fun M' => ∃ I', M' = mm_si B I' ∧ P I'))
    obtain ⟨I1, hI1⟩ : ∃ I', I' = i2_u I m 8 (1 : Int32) := ⟨_, rfl⟩
    rw [← hI1]
    replace H := H I1 hI1
    refine go_aload_n dX11_begins_32 rfl ?_
    refine go_iconst (v := (0 : Int32)) rfl dX11_begins_33 ?_
    refine go_putI (k := 9) ⟨by decide, rfl, by decide, rfl⟩ RK.1 rfl (Or.inl rfl) fl_X11_39 dX11_begins_34 ?_
    show go_W mt_X11_begins fr_R 37 [some (pv_r m), some (pv_i x1)] [] (mm_si B (i2_u I1 m 9 (0 : Int32))) (qv_ (fun M' => ∃ I', M' = mm_si B I' ∧ P I'))
    obtain ⟨I2, hI2⟩ : ∃ I', I' = i2_u I1 m 9 (0 : Int32) := ⟨_, rfl⟩
    rw [← hI2]
    replace H := H I2 hI2
    refine go_aload_n dX11_begins_37 rfl ?_
    refine go_iconst (v := (0 : Int32)) rfl dX11_begins_38 ?_
    refine go_putI (k := 10) ⟨by decide, rfl, by decide, rfl⟩ RK.1 rfl (Or.inl rfl) fl_X11_42 dX11_begins_39 ?_
    show go_W mt_X11_begins fr_R 42 [some (pv_r m), some (pv_i x1)] [] (mm_si B (i2_u I2 m 10 (0 : Int32))) (qv_ (fun M' => ∃ I', M' = mm_si B I' ∧ P I'))
    obtain ⟨I3, hI3⟩ : ∃ I', I' = i2_u I2 m 10 (0 : Int32) := ⟨_, rfl⟩
    rw [← hI3]
    replace H := H I3 hI3
    refine go_aload_n dX11_begins_42 rfl ?_
    refine go_iconst (v := (0 : Int32)) rfl dX11_begins_43 ?_
    refine go_putI (k := 11) ⟨by decide, rfl, by decide, rfl⟩ RK.1 rfl (Or.inl rfl) fl_X11_45 dX11_begins_44 ?_
    show go_W mt_X11_begins fr_R 47 [some (pv_r m), some (pv_i x1)] [] (mm_si B (i2_u I3 m 11 (0 : Int32))) (qv_ (fun M' => ∃ I', M' = mm_si B I' ∧ P I'))
    obtain ⟨I4, hI4⟩ : ∃ I', I' = i2_u I3 m 11 (0 : Int32) := ⟨_, rfl⟩
    rw [← hI4]
    replace H := H I4 hI4
    exact go_vret rfl dX11_begins_47 ⟨rfl, _, rfl, H⟩
  · replace H := H.2 hc
    refine go_aload_n dX11_begins_9 rfl ?_
    refine go_getRe (k := 1) ⟨by decide, rfl, by decide, Or.inr ⟨_, rfl⟩⟩ RK.1 (rf_r2 RK) fl_X11_13 dX11_begins_10 ?_
    refine go_iload_n dX11_begins_13 rfl ?_
    refine go_aload_n dX11_begins_14 rfl ?_
    refine go_getRe (k := 0) ⟨by decide, rfl, by decide, Or.inr ⟨_, rfl⟩⟩ RK.1 (rf_r1 RK) fl_X11_7 dX11_begins_15 ?_
    refine go_iload_n dX11_begins_18 rfl ?_
    obtain ⟨n5, ⟨hn5, hn5b⟩, H⟩ := H
    refine go_ialdN (j := n5) ⟨by decide, by decide, by decide⟩ (rf_k1 RK) hn5 hn5b dX11_begins_19 ?_
    refine go_iastN (j := n5) ⟨by decide, by decide, by decide⟩ (rf_k2 RK) rfl hn5 (by omega) dX11_begins_20 ?_
    show go_W mt_X11_begins fr_R 21 [some (pv_r m), some (pv_i x1)] [] (mm_si B (i2_u I (m + 2) n5 (I (m + 1) n5))) (qv_ (fun M' => ∃ I', M' = mm_si B I' ∧ P I'))
    obtain ⟨I6, hI6⟩ : ∃ I', I' = i2_u I (m + 2) n5 (I (m + 1) n5) := ⟨_, rfl⟩
    rw [← hI6]
    replace H := H I6 hI6
    refine go_iincN (n := n5) (k := 1) hn5 (by decide) rfl rfl dX11_begins_21 ?_
    show go_W mt_X11_begins fr_R 24 [some (pv_r m), some (pv_i (nI (n5 + 1)))] [] (mm_si B I6) (qv_ (fun M' => ∃ I', M' = mm_si B I' ∧ P I'))
    refine go_goto (tgt := 2) dX11_begins_24 (by decide) ?_
    exact H
set_option maxRecDepth 20000 in
theorem wq_X11_ends_0 {B : mm_T} {I : Nat → Nat → Int32} {m : Nat} (RK : rf_ok B m)  {P : (Nat → Nat → Int32) → Prop} (H : rw_v mt_X11_ends 2 [some (pv_r m), some (pv_i (0 : Int32))] [] B I P) : rw_v mt_X11_ends 0 [some (pv_r m), none] [] B I P := by
  refine go_iconst (v := (0 : Int32)) rfl dX11_ends_0 ?_
  refine go_istore_n (by decide) dX11_ends_1 ?_
  show go_W mt_X11_ends fr_R 2 [some (pv_r m), some (pv_i (0 : Int32))] [] (mm_si B I) (qv_ (fun M' => ∃ I', M' = mm_si B I' ∧ P I'))
  exact H
set_option maxRecDepth 20000 in
theorem wq_X11_ends_2 {B : mm_T} {I : Nat → Nat → Int32} {m : Nat} (RK : rf_ok B m) {x1 : Int32} {P : (Nat → Nat → Int32) → Prop} (H : ((((6200 : Int32) ≤ x1) → ∀ I1, I1 = i2_u I m 8 (0 : Int32) → P I1) ∧ ((¬ (6200 : Int32) ≤ x1) → ∃ n2, (x1 = nI n2 ∧ n2 < 6200) ∧ (∀ I3, I3 = i2_u I (m + 1) n2 (I (m + 2) n2) → rw_v mt_X11_ends 2 [some (pv_r m), some (pv_i (nI (n2 + 1)))] [] B I3 P)))) : rw_v mt_X11_ends 2 [some (pv_r m), some (pv_i x1)] [] B I P := by
  refine go_iload_n dX11_ends_2 rfl ?_
  refine go_sipush (v := (6200 : Int32)) rfl dX11_ends_3 ?_
  refine go_icmp_ge (tgt := 27) dX11_ends_6 (by decide) (fun hc => ?_) (fun hc => ?_)
  · replace H := H.1 hc
    refine go_aload_n dX11_ends_27 rfl ?_
    refine go_iconst (v := (0 : Int32)) rfl dX11_ends_28 ?_
    refine go_putZ (k := 8) (Or.inl rfl) ⟨by decide, rfl, by decide, rfl⟩ RK.1 rfl (Or.inl rfl) fl_X11_35 dX11_ends_29 ?_
    show go_W mt_X11_ends fr_R 32 [some (pv_r m), some (pv_i x1)] [] (mm_si B (i2_u I m 8 (0 : Int32))) (qv_ (fun M' => ∃ I', M' = mm_si B I' ∧ P I'))
    obtain ⟨I1, hI1⟩ : ∃ I', I' = i2_u I m 8 (0 : Int32) := ⟨_, rfl⟩
    rw [← hI1]
    replace H := H I1 hI1
    exact go_vret rfl dX11_ends_32 ⟨rfl, _, rfl, H⟩
  · replace H := H.2 hc
    refine go_aload_n dX11_ends_9 rfl ?_
    refine go_getRe (k := 0) ⟨by decide, rfl, by decide, Or.inr ⟨_, rfl⟩⟩ RK.1 (rf_r1 RK) fl_X11_7 dX11_ends_10 ?_
    refine go_iload_n dX11_ends_13 rfl ?_
    refine go_aload_n dX11_ends_14 rfl ?_
    refine go_getRe (k := 1) ⟨by decide, rfl, by decide, Or.inr ⟨_, rfl⟩⟩ RK.1 (rf_r2 RK) fl_X11_13 dX11_ends_15 ?_
    refine go_iload_n dX11_ends_18 rfl ?_
    obtain ⟨n2, ⟨hn2, hn2b⟩, H⟩ := H
    refine go_ialdN (j := n2) ⟨by decide, by decide, by decide⟩ (rf_k2 RK) hn2 hn2b dX11_ends_19 ?_
    refine go_iastN (j := n2) ⟨by decide, by decide, by decide⟩ (rf_k1 RK) rfl hn2 (by omega) dX11_ends_20 ?_
    show go_W mt_X11_ends fr_R 21 [some (pv_r m), some (pv_i x1)] [] (mm_si B (i2_u I (m + 1) n2 (I (m + 2) n2))) (qv_ (fun M' => ∃ I', M' = mm_si B I' ∧ P I'))
    obtain ⟨I3, hI3⟩ : ∃ I', I' = i2_u I (m + 1) n2 (I (m + 2) n2) := ⟨_, rfl⟩
    rw [← hI3]
    replace H := H I3 hI3
    refine go_iincN (n := n2) (k := 1) hn2 (by decide) rfl rfl dX11_ends_21 ?_
    show go_W mt_X11_ends fr_R 24 [some (pv_r m), some (pv_i (nI (n2 + 1)))] [] (mm_si B I3) (qv_ (fun M' => ∃ I', M' = mm_si B I' ∧ P I'))
    refine go_goto (tgt := 2) dX11_ends_24 (by decide) ?_
    exact H
set_option maxRecDepth 20000 in
theorem wq_X11_writes_0 {B : mm_T} {I : Nat → Nat → Int32} {m : Nat} (RK : rf_ok B m) {x1 x2 x3 x4 : Int32} {P : (Nat → Nat → Int32) → Prop} (H : (((I m 8 = 0) → ∃ n1, (((6 : Int32) * (I m 6 - I m 6 / (64 : Int32) * (64 : Int32))) = nI n1 ∧ n1 < 384) ∧ (∀ I2, I2 = i2_u I (m + 6) n1 (I (m + 1) 0) → (n1 + 1) < 384 ∧ (∀ I4, I4 = i2_u I2 (m + 6) (n1 + 1) x1 → (n1 + 2) < 384 ∧ (∀ I6, I6 = i2_u I4 (m + 6) (n1 + 2) x2 → ∃ n7, (x2 = nI n7 ∧ n7 < 400) ∧ ((n1 + 3) < 384 ∧ (∀ I9, I9 = i2_u I6 (m + 6) (n1 + 3) (I6 (m + 1) (200 + 14 * n7 + 0)) → (n1 + 4) < 384 ∧ (∀ I11, I11 = i2_u I9 (m + 6) (n1 + 4) x3 → (n1 + 5) < 384 ∧ (∀ I13, I13 = i2_u I11 (m + 6) (n1 + 5) x4 → ∀ I14, I14 = i2_u I13 m 6 (I13 m 6 + (1 : Int32)) → P I14)))))))) ∧ ((¬ I m 8 = 0) → P I))) : rw_v mt_X11_writes 0 [some (pv_r m), some (pv_i x1), some (pv_i x2), some (pv_i x3), some (pv_i x4), none] [] B I P := by
  refine go_aload_n dX11_writes_0 rfl ?_
  refine go_getZ (k := 8) ⟨by decide, rfl, by decide, rfl⟩ RK.1 fl_X11_35 dX11_writes_1 ?_
  refine go_if_eq (tgt := 8) dX11_writes_4 (by decide) (fun hc => ?_) (fun hc => ?_)
  · replace H := H.1 hc
    refine go_bipush (v := (6 : Int32)) rfl dX11_writes_8 ?_
    refine go_aload_n dX11_writes_10 rfl ?_
    refine go_getI (k := 6) ⟨by decide, rfl, by decide, rfl⟩ RK.1 fl_X11_28 dX11_writes_11 ?_
    refine go_bipush (v := (64 : Int32)) rfl dX11_writes_14 ?_
    refine go_irem (by decide) dX11_writes_16 ?_
    refine go_imul dX11_writes_17 ?_
    refine go_istore (by decide) dX11_writes_18 ?_
    show go_W mt_X11_writes fr_R 20 [some (pv_r m), some (pv_i x1), some (pv_i x2), some (pv_i x3), some (pv_i x4), some (pv_i ((6 : Int32) * (I m 6 - I m 6 / (64 : Int32) * (64 : Int32))))] [] (mm_si B I) (qv_ (fun M' => ∃ I', M' = mm_si B I' ∧ P I'))
    refine go_aload_n dX11_writes_20 rfl ?_
    refine go_getRe (k := 5) ⟨by decide, rfl, by decide, Or.inr ⟨_, rfl⟩⟩ RK.1 (rf_r6 RK) fl_X11_25 dX11_writes_21 ?_
    refine go_iload dX11_writes_24 rfl ?_
    refine go_aload_n dX11_writes_26 rfl ?_
    refine go_getRe (k := 0) ⟨by decide, rfl, by decide, Or.inr ⟨_, rfl⟩⟩ RK.1 (rf_r1 RK) fl_X11_7 dX11_writes_27 ?_
    refine go_iconst (v := (0 : Int32)) rfl dX11_writes_30 ?_
    refine go_ialdN (j := 0) ⟨by decide, by decide, by decide⟩ (rf_k1 RK) rfl (by decide) dX11_writes_31 ?_
    obtain ⟨n1, ⟨hn1, hn1b⟩, H⟩ := H
    refine go_iastN (j := n1) ⟨by decide, by decide, by decide⟩ (rf_k6 RK) rfl hn1 hn1b dX11_writes_32 ?_
    show go_W mt_X11_writes fr_R 33 [some (pv_r m), some (pv_i x1), some (pv_i x2), some (pv_i x3), some (pv_i x4), some (pv_i ((6 : Int32) * (I m 6 - I m 6 / (64 : Int32) * (64 : Int32))))] [] (mm_si B (i2_u I (m + 6) n1 (I (m + 1) 0))) (qv_ (fun M' => ∃ I', M' = mm_si B I' ∧ P I'))
    obtain ⟨I2, hI2⟩ : ∃ I', I' = i2_u I (m + 6) n1 (I (m + 1) 0) := ⟨_, rfl⟩
    rw [← hI2]
    replace H := H I2 hI2
    refine go_aload_n dX11_writes_33 rfl ?_
    refine go_getRe (k := 5) ⟨by decide, rfl, by decide, Or.inr ⟨_, rfl⟩⟩ RK.1 (rf_r6 RK) fl_X11_25 dX11_writes_34 ?_
    refine go_iload dX11_writes_37 rfl ?_
    refine go_iconst (v := (1 : Int32)) rfl dX11_writes_39 ?_
    refine go_iadd dX11_writes_40 ?_
    refine go_iload_n dX11_writes_41 rfl ?_
    obtain ⟨hb3, H⟩ := H
    refine go_iastN (j := (n1 + 1)) ⟨by decide, by decide, by decide⟩ (rf_k6 RK) rfl (nI_ae hn1 rfl) hb3 dX11_writes_42 ?_
    show go_W mt_X11_writes fr_R 43 [some (pv_r m), some (pv_i x1), some (pv_i x2), some (pv_i x3), some (pv_i x4), some (pv_i ((6 : Int32) * (I m 6 - I m 6 / (64 : Int32) * (64 : Int32))))] [] (mm_si B (i2_u I2 (m + 6) (n1 + 1) x1)) (qv_ (fun M' => ∃ I', M' = mm_si B I' ∧ P I'))
    obtain ⟨I4, hI4⟩ : ∃ I', I' = i2_u I2 (m + 6) (n1 + 1) x1 := ⟨_, rfl⟩
    rw [← hI4]
    replace H := H I4 hI4
    refine go_aload_n dX11_writes_43 rfl ?_
    refine go_getRe (k := 5) ⟨by decide, rfl, by decide, Or.inr ⟨_, rfl⟩⟩ RK.1 (rf_r6 RK) fl_X11_25 dX11_writes_44 ?_
    refine go_iload dX11_writes_47 rfl ?_
    refine go_iconst (v := (2 : Int32)) rfl dX11_writes_49 ?_
    refine go_iadd dX11_writes_50 ?_
    refine go_iload_n dX11_writes_51 rfl ?_
    obtain ⟨hb5, H⟩ := H
    refine go_iastN (j := (n1 + 2)) ⟨by decide, by decide, by decide⟩ (rf_k6 RK) rfl (nI_ae hn1 rfl) hb5 dX11_writes_52 ?_
    show go_W mt_X11_writes fr_R 53 [some (pv_r m), some (pv_i x1), some (pv_i x2), some (pv_i x3), some (pv_i x4), some (pv_i ((6 : Int32) * (I m 6 - I m 6 / (64 : Int32) * (64 : Int32))))] [] (mm_si B (i2_u I4 (m + 6) (n1 + 2) x2)) (qv_ (fun M' => ∃ I', M' = mm_si B I' ∧ P I'))
    obtain ⟨I6, hI6⟩ : ∃ I', I' = i2_u I4 (m + 6) (n1 + 2) x2 := ⟨_, rfl⟩
    rw [← hI6]
    replace H := H I6 hI6
    refine go_aload_n dX11_writes_53 rfl ?_
    refine go_getRe (k := 5) ⟨by decide, rfl, by decide, Or.inr ⟨_, rfl⟩⟩ RK.1 (rf_r6 RK) fl_X11_25 dX11_writes_54 ?_
    refine go_iload dX11_writes_57 rfl ?_
    refine go_iconst (v := (3 : Int32)) rfl dX11_writes_59 ?_
    refine go_iadd dX11_writes_60 ?_
    refine go_aload_n dX11_writes_61 rfl ?_
    refine go_iload_n dX11_writes_62 rfl ?_
    refine go_iconst (v := (0 : Int32)) rfl dX11_writes_63 ?_
    obtain ⟨n7, ⟨hn7, hn7b⟩, H⟩ := H
    refine go_V (av := [pv_i x2, pv_i (0 : Int32)]) (st := [pv_i (((6 : Int32) * (I m 6 - I m 6 / (64 : Int32) * (64 : Int32))) + (3 : Int32)), pv_r (m + 6)]) (ci := 11) ok_X11_of ⟨by decide, by decide⟩ ml_X11_94 rfl (by decide) (fun v hv => by simp only [List.mem_cons, List.not_mem_nil, or_false] at hv; rcases hv with rfl | rfl <;> first | exact pv_1i | exact pv_1r) (Nat.le_of_ble_eq_true rfl) (fun _ h => h) (by decide) rfl RK.1 dX11_writes_64 (rx_of RK hn7 rfl hn7b (by decide)) (fun r M' hq _ => ?_)
    obtain ⟨_, rfl, _, rfl, rfl, rfl⟩ := hq
    show go_W mt_X11_writes fr_R 67 [some (pv_r m), some (pv_i x1), some (pv_i x2), some (pv_i x3), some (pv_i x4), some (pv_i ((6 : Int32) * (I m 6 - I m 6 / (64 : Int32) * (64 : Int32))))] [pv_i (I6 (m + 1) (200 + 14 * n7 + 0)), pv_i (((6 : Int32) * (I m 6 - I m 6 / (64 : Int32) * (64 : Int32))) + (3 : Int32)), pv_r (m + 6)] (mm_si B I6) (qv_ (fun M' => ∃ I', M' = mm_si B I' ∧ P I'))
    obtain ⟨hb8, H⟩ := H
    refine go_iastN (j := (n1 + 3)) ⟨by decide, by decide, by decide⟩ (rf_k6 RK) rfl (nI_ae hn1 rfl) hb8 dX11_writes_67 ?_
    show go_W mt_X11_writes fr_R 68 [some (pv_r m), some (pv_i x1), some (pv_i x2), some (pv_i x3), some (pv_i x4), some (pv_i ((6 : Int32) * (I m 6 - I m 6 / (64 : Int32) * (64 : Int32))))] [] (mm_si B (i2_u I6 (m + 6) (n1 + 3) (I6 (m + 1) (200 + 14 * n7 + 0)))) (qv_ (fun M' => ∃ I', M' = mm_si B I' ∧ P I'))
    obtain ⟨I9, hI9⟩ : ∃ I', I' = i2_u I6 (m + 6) (n1 + 3) (I6 (m + 1) (200 + 14 * n7 + 0)) := ⟨_, rfl⟩
    rw [← hI9]
    replace H := H I9 hI9
    refine go_aload_n dX11_writes_68 rfl ?_
    refine go_getRe (k := 5) ⟨by decide, rfl, by decide, Or.inr ⟨_, rfl⟩⟩ RK.1 (rf_r6 RK) fl_X11_25 dX11_writes_69 ?_
    refine go_iload dX11_writes_72 rfl ?_
    refine go_iconst (v := (4 : Int32)) rfl dX11_writes_74 ?_
    refine go_iadd dX11_writes_75 ?_
    refine go_iload_n dX11_writes_76 rfl ?_
    obtain ⟨hb10, H⟩ := H
    refine go_iastN (j := (n1 + 4)) ⟨by decide, by decide, by decide⟩ (rf_k6 RK) rfl (nI_ae hn1 rfl) hb10 dX11_writes_77 ?_
    show go_W mt_X11_writes fr_R 78 [some (pv_r m), some (pv_i x1), some (pv_i x2), some (pv_i x3), some (pv_i x4), some (pv_i ((6 : Int32) * (I m 6 - I m 6 / (64 : Int32) * (64 : Int32))))] [] (mm_si B (i2_u I9 (m + 6) (n1 + 4) x3)) (qv_ (fun M' => ∃ I', M' = mm_si B I' ∧ P I'))
    obtain ⟨I11, hI11⟩ : ∃ I', I' = i2_u I9 (m + 6) (n1 + 4) x3 := ⟨_, rfl⟩
    rw [← hI11]
    replace H := H I11 hI11
    refine go_aload_n dX11_writes_78 rfl ?_
    refine go_getRe (k := 5) ⟨by decide, rfl, by decide, Or.inr ⟨_, rfl⟩⟩ RK.1 (rf_r6 RK) fl_X11_25 dX11_writes_79 ?_
    refine go_iload dX11_writes_82 rfl ?_
    refine go_iconst (v := (5 : Int32)) rfl dX11_writes_84 ?_
    refine go_iadd dX11_writes_85 ?_
    refine go_iload dX11_writes_86 rfl ?_
    obtain ⟨hb12, H⟩ := H
    refine go_iastN (j := (n1 + 5)) ⟨by decide, by decide, by decide⟩ (rf_k6 RK) rfl (nI_ae hn1 rfl) hb12 dX11_writes_88 ?_
    show go_W mt_X11_writes fr_R 89 [some (pv_r m), some (pv_i x1), some (pv_i x2), some (pv_i x3), some (pv_i x4), some (pv_i ((6 : Int32) * (I m 6 - I m 6 / (64 : Int32) * (64 : Int32))))] [] (mm_si B (i2_u I11 (m + 6) (n1 + 5) x4)) (qv_ (fun M' => ∃ I', M' = mm_si B I' ∧ P I'))
    obtain ⟨I13, hI13⟩ : ∃ I', I' = i2_u I11 (m + 6) (n1 + 5) x4 := ⟨_, rfl⟩
    rw [← hI13]
    replace H := H I13 hI13
    refine go_aload_n dX11_writes_89 rfl ?_
    refine go_dup pv_1r dX11_writes_90 ?_
    refine go_getI (k := 6) ⟨by decide, rfl, by decide, rfl⟩ RK.1 fl_X11_28 dX11_writes_91 ?_
    refine go_iconst (v := (1 : Int32)) rfl dX11_writes_94 ?_
    refine go_iadd dX11_writes_95 ?_
    refine go_putI (k := 6) ⟨by decide, rfl, by decide, rfl⟩ RK.1 rfl (Or.inl rfl) fl_X11_28 dX11_writes_96 ?_
    show go_W mt_X11_writes fr_R 99 [some (pv_r m), some (pv_i x1), some (pv_i x2), some (pv_i x3), some (pv_i x4), some (pv_i ((6 : Int32) * (I m 6 - I m 6 / (64 : Int32) * (64 : Int32))))] [] (mm_si B (i2_u I13 m 6 (I13 m 6 + (1 : Int32)))) (qv_ (fun M' => ∃ I', M' = mm_si B I' ∧ P I'))
    obtain ⟨I14, hI14⟩ : ∃ I', I' = i2_u I13 m 6 (I13 m 6 + (1 : Int32)) := ⟨_, rfl⟩
    rw [← hI14]
    replace H := H I14 hI14
    exact go_vret rfl dX11_writes_99 ⟨rfl, _, rfl, H⟩
  · replace H := H.2 hc
    exact go_vret rfl dX11_writes_7 ⟨rfl, _, rfl, H⟩
set_option maxRecDepth 20000 in
theorem wq_X11_manyOf_0 {B : mm_T} {I : Nat → Nat → Int32} {m : Nat} (RK : rf_ok B m) {x1 x2 : Int32} {P : Int32 → (Nat → Nat → Int32) → Prop} (H : rw_i mt_X11_manyOf 5 [some (pv_r m), some (pv_i x1), some (pv_i x2), some (pv_i (0 : Int32)), some (pv_i (0 : Int32))] [] B I P) : rw_i mt_X11_manyOf 0 [some (pv_r m), some (pv_i x1), some (pv_i x2), none, none] [] B I P := by
  refine go_iconst (v := (0 : Int32)) rfl dX11_manyOf_0 ?_
  refine go_istore_n (by decide) dX11_manyOf_1 ?_
  show go_W mt_X11_manyOf fr_R 2 [some (pv_r m), some (pv_i x1), some (pv_i x2), some (pv_i (0 : Int32)), none] [] (mm_si B I) (qi_ (fun x M' => ∃ I', M' = mm_si B I' ∧ P x I'))
  refine go_iconst (v := (0 : Int32)) rfl dX11_manyOf_2 ?_
  refine go_istore (by decide) dX11_manyOf_3 ?_
  show go_W mt_X11_manyOf fr_R 5 [some (pv_r m), some (pv_i x1), some (pv_i x2), some (pv_i (0 : Int32)), some (pv_i (0 : Int32))] [] (mm_si B I) (qi_ (fun x M' => ∃ I', M' = mm_si B I' ∧ P x I'))
  exact H
set_option maxRecDepth 20000 in
theorem wq_X11_manyOf_5 {B : mm_T} {I : Nat → Nat → Int32} {m : Nat} (RK : rf_ok B m) {x1 x2 x3 x4 : Int32} {P : Int32 → (Nat → Nat → Int32) → Prop} (H : (((I (m + 1) 1 ≤ x4) → P x3 I) ∧ ((¬ I (m + 1) 1 ≤ x4) → (((x1 = (-1 : Int32)) → ∃ n1, (x4 = nI n1 ∧ n1 < 400) ∧ ((((¬ I (m + 1) (200 + 14 * n1 + 6) = x2) → rw_i mt_X11_manyOf 5 [some (pv_r m), some (pv_i x1), some (pv_i x2), some (pv_i (x3 + (0 : Int32))), some (pv_i (nI (n1 + 1)))] [] B I P) ∧ ((I (m + 1) (200 + 14 * n1 + 6) = x2) → rw_i mt_X11_manyOf 5 [some (pv_r m), some (pv_i x1), some (pv_i x2), some (pv_i (x3 + (1 : Int32))), some (pv_i (nI (n1 + 1)))] [] B I P)))) ∧ ((¬ x1 = (-1 : Int32)) → ∃ n2, (x4 = nI n2 ∧ n2 < 400) ∧ ((((¬ I (m + 1) (200 + 14 * n2 + 0) = x1) → rw_i mt_X11_manyOf 5 [some (pv_r m), some (pv_i x1), some (pv_i x2), some (pv_i (x3 + (0 : Int32))), some (pv_i (nI (n2 + 1)))] [] B I P) ∧ ((I (m + 1) (200 + 14 * n2 + 0) = x1) → (((¬ I (m + 1) (200 + 14 * n2 + 6) = x2) → rw_i mt_X11_manyOf 5 [some (pv_r m), some (pv_i x1), some (pv_i x2), some (pv_i (x3 + (0 : Int32))), some (pv_i (nI (n2 + 1)))] [] B I P) ∧ ((I (m + 1) (200 + 14 * n2 + 6) = x2) → rw_i mt_X11_manyOf 5 [some (pv_r m), some (pv_i x1), some (pv_i x2), some (pv_i (x3 + (1 : Int32))), some (pv_i (nI (n2 + 1)))] [] B I P)))))))))) : rw_i mt_X11_manyOf 5 [some (pv_r m), some (pv_i x1), some (pv_i x2), some (pv_i x3), some (pv_i x4)] [] B I P := by
  refine go_iload dX11_manyOf_5 rfl ?_
  refine go_aload_n dX11_manyOf_7 rfl ?_
  refine go_getRe (k := 0) ⟨by decide, rfl, by decide, Or.inr ⟨_, rfl⟩⟩ RK.1 (rf_r1 RK) fl_X11_7 dX11_manyOf_8 ?_
  refine go_iconst (v := (1 : Int32)) rfl dX11_manyOf_11 ?_
  refine go_ialdN (j := 1) ⟨by decide, by decide, by decide⟩ (rf_k1 RK) rfl (by decide) dX11_manyOf_12 ?_
  refine go_icmp_ge (tgt := 58) dX11_manyOf_13 (by decide) (fun hc => ?_) (fun hc => ?_)
  · replace H := H.1 hc
    refine go_iload_n dX11_manyOf_58 rfl ?_
    exact go_iret rfl rfl dX11_manyOf_59 ⟨_, rfl, _, rfl, H⟩
  · replace H := H.2 hc
    refine go_iload_n dX11_manyOf_16 rfl ?_
    refine go_iload_n dX11_manyOf_17 rfl ?_
    refine go_iconst (v := (-1 : Int32)) rfl dX11_manyOf_18 ?_
    refine go_icmp_eq (tgt := 33) dX11_manyOf_19 (by decide) (fun hc => ?_) (fun hc => ?_)
    · replace H := H.1 hc
      refine go_aload_n dX11_manyOf_33 rfl ?_
      refine go_iload dX11_manyOf_34 rfl ?_
      refine go_bipush (v := (6 : Int32)) rfl dX11_manyOf_36 ?_
      obtain ⟨n1, ⟨hn1, hn1b⟩, H⟩ := H
      refine go_V (av := [pv_i x4, pv_i (6 : Int32)]) (st := [pv_i x3]) (ci := 11) ok_X11_of ⟨by decide, by decide⟩ ml_X11_94 rfl (by decide) (fun v hv => by simp only [List.mem_cons, List.not_mem_nil, or_false] at hv; rcases hv with rfl | rfl <;> first | exact pv_1i | exact pv_1r) (Nat.le_of_ble_eq_true rfl) (fun _ h => h) (by decide) rfl RK.1 dX11_manyOf_38 (rx_of RK hn1 rfl hn1b (by decide)) (fun r M' hq _ => ?_)
      obtain ⟨_, rfl, _, rfl, rfl, rfl⟩ := hq
      show go_W mt_X11_manyOf fr_R 41 [some (pv_r m), some (pv_i x1), some (pv_i x2), some (pv_i x3), some (pv_i x4)] [pv_i (I (m + 1) (200 + 14 * n1 + 6)), pv_i x3] (mm_si B I) (qi_ (fun x M' => ∃ I', M' = mm_si B I' ∧ P x I'))
      refine go_iload_n dX11_manyOf_41 rfl ?_
      refine go_icmp_ne (tgt := 49) dX11_manyOf_42 (by decide) (fun hc => ?_) (fun hc => ?_)
      · replace H := H.1 hc
        refine go_iconst (v := (0 : Int32)) rfl dX11_manyOf_49 ?_
        refine go_iadd dX11_manyOf_50 ?_
        refine go_istore_n (by decide) dX11_manyOf_51 ?_
        show go_W mt_X11_manyOf fr_R 52 [some (pv_r m), some (pv_i x1), some (pv_i x2), some (pv_i (x3 + (0 : Int32))), some (pv_i x4)] [] (mm_si B I) (qi_ (fun x M' => ∃ I', M' = mm_si B I' ∧ P x I'))
        refine go_iincN (n := n1) (k := 1) hn1 (by decide) rfl rfl dX11_manyOf_52 ?_
        show go_W mt_X11_manyOf fr_R 55 [some (pv_r m), some (pv_i x1), some (pv_i x2), some (pv_i (x3 + (0 : Int32))), some (pv_i (nI (n1 + 1)))] [] (mm_si B I) (qi_ (fun x M' => ∃ I', M' = mm_si B I' ∧ P x I'))
        refine go_goto (tgt := 5) dX11_manyOf_55 (by decide) ?_
        exact H
      · replace H := H.2 hc
        refine go_iconst (v := (1 : Int32)) rfl dX11_manyOf_45 ?_
        refine go_goto (tgt := 50) dX11_manyOf_46 (by decide) ?_
        refine go_iadd dX11_manyOf_50 ?_
        refine go_istore_n (by decide) dX11_manyOf_51 ?_
        show go_W mt_X11_manyOf fr_R 52 [some (pv_r m), some (pv_i x1), some (pv_i x2), some (pv_i (x3 + (1 : Int32))), some (pv_i x4)] [] (mm_si B I) (qi_ (fun x M' => ∃ I', M' = mm_si B I' ∧ P x I'))
        refine go_iincN (n := n1) (k := 1) hn1 (by decide) rfl rfl dX11_manyOf_52 ?_
        show go_W mt_X11_manyOf fr_R 55 [some (pv_r m), some (pv_i x1), some (pv_i x2), some (pv_i (x3 + (1 : Int32))), some (pv_i (nI (n1 + 1)))] [] (mm_si B I) (qi_ (fun x M' => ∃ I', M' = mm_si B I' ∧ P x I'))
        refine go_goto (tgt := 5) dX11_manyOf_55 (by decide) ?_
        exact H
    · replace H := H.2 hc
      refine go_aload_n dX11_manyOf_22 rfl ?_
      refine go_iload dX11_manyOf_23 rfl ?_
      refine go_iconst (v := (0 : Int32)) rfl dX11_manyOf_25 ?_
      obtain ⟨n2, ⟨hn2, hn2b⟩, H⟩ := H
      refine go_V (av := [pv_i x4, pv_i (0 : Int32)]) (st := [pv_i x3]) (ci := 11) ok_X11_of ⟨by decide, by decide⟩ ml_X11_94 rfl (by decide) (fun v hv => by simp only [List.mem_cons, List.not_mem_nil, or_false] at hv; rcases hv with rfl | rfl <;> first | exact pv_1i | exact pv_1r) (Nat.le_of_ble_eq_true rfl) (fun _ h => h) (by decide) rfl RK.1 dX11_manyOf_26 (rx_of RK hn2 rfl hn2b (by decide)) (fun r M' hq _ => ?_)
      obtain ⟨_, rfl, _, rfl, rfl, rfl⟩ := hq
      show go_W mt_X11_manyOf fr_R 29 [some (pv_r m), some (pv_i x1), some (pv_i x2), some (pv_i x3), some (pv_i x4)] [pv_i (I (m + 1) (200 + 14 * n2 + 0)), pv_i x3] (mm_si B I) (qi_ (fun x M' => ∃ I', M' = mm_si B I' ∧ P x I'))
      refine go_iload_n dX11_manyOf_29 rfl ?_
      refine go_icmp_ne (tgt := 49) dX11_manyOf_30 (by decide) (fun hc => ?_) (fun hc => ?_)
      · replace H := H.1 hc
        refine go_iconst (v := (0 : Int32)) rfl dX11_manyOf_49 ?_
        refine go_iadd dX11_manyOf_50 ?_
        refine go_istore_n (by decide) dX11_manyOf_51 ?_
        show go_W mt_X11_manyOf fr_R 52 [some (pv_r m), some (pv_i x1), some (pv_i x2), some (pv_i (x3 + (0 : Int32))), some (pv_i x4)] [] (mm_si B I) (qi_ (fun x M' => ∃ I', M' = mm_si B I' ∧ P x I'))
        refine go_iincN (n := n2) (k := 1) hn2 (by decide) rfl rfl dX11_manyOf_52 ?_
        show go_W mt_X11_manyOf fr_R 55 [some (pv_r m), some (pv_i x1), some (pv_i x2), some (pv_i (x3 + (0 : Int32))), some (pv_i (nI (n2 + 1)))] [] (mm_si B I) (qi_ (fun x M' => ∃ I', M' = mm_si B I' ∧ P x I'))
        refine go_goto (tgt := 5) dX11_manyOf_55 (by decide) ?_
        exact H
      · replace H := H.2 hc
        refine go_aload_n dX11_manyOf_33 rfl ?_
        refine go_iload dX11_manyOf_34 rfl ?_
        refine go_bipush (v := (6 : Int32)) rfl dX11_manyOf_36 ?_
        refine go_V (av := [pv_i x4, pv_i (6 : Int32)]) (st := [pv_i x3]) (ci := 11) ok_X11_of ⟨by decide, by decide⟩ ml_X11_94 rfl (by decide) (fun v hv => by simp only [List.mem_cons, List.not_mem_nil, or_false] at hv; rcases hv with rfl | rfl <;> first | exact pv_1i | exact pv_1r) (Nat.le_of_ble_eq_true rfl) (fun _ h => h) (by decide) rfl RK.1 dX11_manyOf_38 (rx_of RK hn2 rfl (by omega) (by decide)) (fun r M' hq _ => ?_)
        obtain ⟨_, rfl, _, rfl, rfl, rfl⟩ := hq
        show go_W mt_X11_manyOf fr_R 41 [some (pv_r m), some (pv_i x1), some (pv_i x2), some (pv_i x3), some (pv_i x4)] [pv_i (I (m + 1) (200 + 14 * n2 + 6)), pv_i x3] (mm_si B I) (qi_ (fun x M' => ∃ I', M' = mm_si B I' ∧ P x I'))
        refine go_iload_n dX11_manyOf_41 rfl ?_
        refine go_icmp_ne (tgt := 49) dX11_manyOf_42 (by decide) (fun hc => ?_) (fun hc => ?_)
        · replace H := H.1 hc
          refine go_iconst (v := (0 : Int32)) rfl dX11_manyOf_49 ?_
          refine go_iadd dX11_manyOf_50 ?_
          refine go_istore_n (by decide) dX11_manyOf_51 ?_
          show go_W mt_X11_manyOf fr_R 52 [some (pv_r m), some (pv_i x1), some (pv_i x2), some (pv_i (x3 + (0 : Int32))), some (pv_i x4)] [] (mm_si B I) (qi_ (fun x M' => ∃ I', M' = mm_si B I' ∧ P x I'))
          refine go_iincN (n := n2) (k := 1) hn2 (by decide) rfl rfl dX11_manyOf_52 ?_
          show go_W mt_X11_manyOf fr_R 55 [some (pv_r m), some (pv_i x1), some (pv_i x2), some (pv_i (x3 + (0 : Int32))), some (pv_i (nI (n2 + 1)))] [] (mm_si B I) (qi_ (fun x M' => ∃ I', M' = mm_si B I' ∧ P x I'))
          refine go_goto (tgt := 5) dX11_manyOf_55 (by decide) ?_
          exact H
        · replace H := H.2 hc
          refine go_iconst (v := (1 : Int32)) rfl dX11_manyOf_45 ?_
          refine go_goto (tgt := 50) dX11_manyOf_46 (by decide) ?_
          refine go_iadd dX11_manyOf_50 ?_
          refine go_istore_n (by decide) dX11_manyOf_51 ?_
          show go_W mt_X11_manyOf fr_R 52 [some (pv_r m), some (pv_i x1), some (pv_i x2), some (pv_i (x3 + (1 : Int32))), some (pv_i x4)] [] (mm_si B I) (qi_ (fun x M' => ∃ I', M' = mm_si B I' ∧ P x I'))
          refine go_iincN (n := n2) (k := 1) hn2 (by decide) rfl rfl dX11_manyOf_52 ?_
          show go_W mt_X11_manyOf fr_R 55 [some (pv_r m), some (pv_i x1), some (pv_i x2), some (pv_i (x3 + (1 : Int32))), some (pv_i (nI (n2 + 1)))] [] (mm_si B I) (qi_ (fun x M' => ∃ I', M' = mm_si B I' ∧ P x I'))
          refine go_goto (tgt := 5) dX11_manyOf_55 (by decide) ?_
          exact H
set_option maxRecDepth 20000 in
theorem wq_X11_standing_0 {B : mm_T} {I : Nat → Nat → Int32} {m : Nat} (RK : rf_ok B m) {x1 : Int32} {P : Int32 → (Nat → Nat → Int32) → Prop} (H : rw_i mt_X11_standing 4 [some (pv_r m), some (pv_i x1), some (pv_i (0 : Int32)), some (pv_i (0 : Int32))] [] B I P) : rw_i mt_X11_standing 0 [some (pv_r m), some (pv_i x1), none, none] [] B I P := by
  refine go_iconst (v := (0 : Int32)) rfl dX11_standing_0 ?_
  refine go_istore_n (by decide) dX11_standing_1 ?_
  show go_W mt_X11_standing fr_R 2 [some (pv_r m), some (pv_i x1), some (pv_i (0 : Int32)), none] [] (mm_si B I) (qi_ (fun x M' => ∃ I', M' = mm_si B I' ∧ P x I'))
  refine go_iconst (v := (0 : Int32)) rfl dX11_standing_2 ?_
  refine go_istore_n (by decide) dX11_standing_3 ?_
  show go_W mt_X11_standing fr_R 4 [some (pv_r m), some (pv_i x1), some (pv_i (0 : Int32)), some (pv_i (0 : Int32))] [] (mm_si B I) (qi_ (fun x M' => ∃ I', M' = mm_si B I' ∧ P x I'))
  exact H
set_option maxRecDepth 20000 in
theorem wq_X11_standing_4 {B : mm_T} {I : Nat → Nat → Int32} {m : Nat} (RK : rf_ok B m) {x1 x2 x3 : Int32} {P : Int32 → (Nat → Nat → Int32) → Prop} (H : (((I (m + 1) 1 ≤ x3) → P x2 I) ∧ ((¬ I (m + 1) 1 ≤ x3) → (((x1 = (-1 : Int32)) → ∃ n1, (x3 = nI n1 ∧ n1 < 400) ∧ (((((I (m + 1) (200 + 14 * n1 + 6) ≤ 3)) → rw_i mt_X11_standing 4 [some (pv_r m), some (pv_i x1), some (pv_i (x2 + (1 : Int32))), some (pv_i (nI (n1 + 1)))] [] B I P) ∧ ((¬ (I (m + 1) (200 + 14 * n1 + 6) ≤ 3)) → rw_i mt_X11_standing 4 [some (pv_r m), some (pv_i x1), some (pv_i (x2 + (0 : Int32))), some (pv_i (nI (n1 + 1)))] [] B I P)))) ∧ ((¬ x1 = (-1 : Int32)) → ∃ n2, (x3 = nI n2 ∧ n2 < 400) ∧ ((((¬ I (m + 1) (200 + 14 * n2 + 0) = x1) → rw_i mt_X11_standing 4 [some (pv_r m), some (pv_i x1), some (pv_i (x2 + (0 : Int32))), some (pv_i (nI (n2 + 1)))] [] B I P) ∧ ((I (m + 1) (200 + 14 * n2 + 0) = x1) → ((((I (m + 1) (200 + 14 * n2 + 6) ≤ 3)) → rw_i mt_X11_standing 4 [some (pv_r m), some (pv_i x1), some (pv_i (x2 + (1 : Int32))), some (pv_i (nI (n2 + 1)))] [] B I P) ∧ ((¬ (I (m + 1) (200 + 14 * n2 + 6) ≤ 3)) → rw_i mt_X11_standing 4 [some (pv_r m), some (pv_i x1), some (pv_i (x2 + (0 : Int32))), some (pv_i (nI (n2 + 1)))] [] B I P)))))))))) : rw_i mt_X11_standing 4 [some (pv_r m), some (pv_i x1), some (pv_i x2), some (pv_i x3)] [] B I P := by
  refine go_iload_n dX11_standing_4 rfl ?_
  refine go_aload_n dX11_standing_5 rfl ?_
  refine go_getRe (k := 0) ⟨by decide, rfl, by decide, Or.inr ⟨_, rfl⟩⟩ RK.1 (rf_r1 RK) fl_X11_7 dX11_standing_6 ?_
  refine go_iconst (v := (1 : Int32)) rfl dX11_standing_9 ?_
  refine go_ialdN (j := 1) ⟨by decide, by decide, by decide⟩ (rf_k1 RK) rfl (by decide) dX11_standing_10 ?_
  refine go_icmp_ge (tgt := 51) dX11_standing_11 (by decide) (fun hc => ?_) (fun hc => ?_)
  · replace H := H.1 hc
    refine go_iload_n dX11_standing_51 rfl ?_
    exact go_iret rfl rfl dX11_standing_52 ⟨_, rfl, _, rfl, H⟩
  · replace H := H.2 hc
    refine go_iload_n dX11_standing_14 rfl ?_
    refine go_iload_n dX11_standing_15 rfl ?_
    refine go_iconst (v := (-1 : Int32)) rfl dX11_standing_16 ?_
    refine go_icmp_eq (tgt := 30) dX11_standing_17 (by decide) (fun hc => ?_) (fun hc => ?_)
    · replace H := H.1 hc
      refine go_aload_n dX11_standing_30 rfl ?_
      refine go_iload_n dX11_standing_31 rfl ?_
      obtain ⟨n1, ⟨hn1, hn1b⟩, H⟩ := H
      by_cases hc : (I (m + 1) (200 + 14 * n1 + 6) ≤ 3)
      · replace H := H.1 hc
        refine go_V (av := [pv_i x3]) (st := [pv_i x2]) (ci := 11) ok_X11_stands ⟨by decide, by decide⟩ ml_X11_98 rfl (by decide) (fun v hv => by simp only [List.mem_cons, List.not_mem_nil, or_false] at hv; rcases hv with rfl <;> first | exact pv_1i | exact pv_1r) (Nat.le_of_ble_eq_true rfl) (fun _ h => h) (by decide) rfl RK.1 dX11_standing_32 (rx_stands_t RK hn1 hn1b hc) (fun r M' hq _ => ?_)
        obtain ⟨_, rfl, _, rfl, rfl, rfl⟩ := hq
        show go_W mt_X11_standing fr_R 35 [some (pv_r m), some (pv_i x1), some (pv_i x2), some (pv_i x3)] [pv_i (1 : Int32), pv_i x2] (mm_si B I) (qi_ (fun x M' => ∃ I', M' = mm_si B I' ∧ P x I'))
        refine go_if_eq (tgt := 42) dX11_standing_35 (by decide) (fun hc => absurd hc (by decide)) (fun _ => ?_)
        refine go_iconst (v := (1 : Int32)) rfl dX11_standing_38 ?_
        refine go_goto (tgt := 43) dX11_standing_39 (by decide) ?_
        refine go_iadd dX11_standing_43 ?_
        refine go_istore_n (by decide) dX11_standing_44 ?_
        show go_W mt_X11_standing fr_R 45 [some (pv_r m), some (pv_i x1), some (pv_i (x2 + (1 : Int32))), some (pv_i x3)] [] (mm_si B I) (qi_ (fun x M' => ∃ I', M' = mm_si B I' ∧ P x I'))
        refine go_iincN (n := n1) (k := 1) hn1 (by decide) rfl rfl dX11_standing_45 ?_
        show go_W mt_X11_standing fr_R 48 [some (pv_r m), some (pv_i x1), some (pv_i (x2 + (1 : Int32))), some (pv_i (nI (n1 + 1)))] [] (mm_si B I) (qi_ (fun x M' => ∃ I', M' = mm_si B I' ∧ P x I'))
        refine go_goto (tgt := 4) dX11_standing_48 (by decide) ?_
        exact H
      · replace H := H.2 hc
        refine go_V (av := [pv_i x3]) (st := [pv_i x2]) (ci := 11) ok_X11_stands ⟨by decide, by decide⟩ ml_X11_98 rfl (by decide) (fun v hv => by simp only [List.mem_cons, List.not_mem_nil, or_false] at hv; rcases hv with rfl <;> first | exact pv_1i | exact pv_1r) (Nat.le_of_ble_eq_true rfl) (fun _ h => h) (by decide) rfl RK.1 dX11_standing_32 (rx_stands_f RK hn1 hn1b hc) (fun r M' hq _ => ?_)
        obtain ⟨_, rfl, _, rfl, rfl, rfl⟩ := hq
        show go_W mt_X11_standing fr_R 35 [some (pv_r m), some (pv_i x1), some (pv_i x2), some (pv_i x3)] [pv_i (0 : Int32), pv_i x2] (mm_si B I) (qi_ (fun x M' => ∃ I', M' = mm_si B I' ∧ P x I'))
        refine go_if_eq (tgt := 42) dX11_standing_35 (by decide) (fun _ => ?_) (fun hc => absurd hc (by decide))
        refine go_iconst (v := (0 : Int32)) rfl dX11_standing_42 ?_
        refine go_iadd dX11_standing_43 ?_
        refine go_istore_n (by decide) dX11_standing_44 ?_
        show go_W mt_X11_standing fr_R 45 [some (pv_r m), some (pv_i x1), some (pv_i (x2 + (0 : Int32))), some (pv_i x3)] [] (mm_si B I) (qi_ (fun x M' => ∃ I', M' = mm_si B I' ∧ P x I'))
        refine go_iincN (n := n1) (k := 1) hn1 (by decide) rfl rfl dX11_standing_45 ?_
        show go_W mt_X11_standing fr_R 48 [some (pv_r m), some (pv_i x1), some (pv_i (x2 + (0 : Int32))), some (pv_i (nI (n1 + 1)))] [] (mm_si B I) (qi_ (fun x M' => ∃ I', M' = mm_si B I' ∧ P x I'))
        refine go_goto (tgt := 4) dX11_standing_48 (by decide) ?_
        exact H
    · replace H := H.2 hc
      refine go_aload_n dX11_standing_20 rfl ?_
      refine go_iload_n dX11_standing_21 rfl ?_
      refine go_iconst (v := (0 : Int32)) rfl dX11_standing_22 ?_
      obtain ⟨n2, ⟨hn2, hn2b⟩, H⟩ := H
      refine go_V (av := [pv_i x3, pv_i (0 : Int32)]) (st := [pv_i x2]) (ci := 11) ok_X11_of ⟨by decide, by decide⟩ ml_X11_94 rfl (by decide) (fun v hv => by simp only [List.mem_cons, List.not_mem_nil, or_false] at hv; rcases hv with rfl | rfl <;> first | exact pv_1i | exact pv_1r) (Nat.le_of_ble_eq_true rfl) (fun _ h => h) (by decide) rfl RK.1 dX11_standing_23 (rx_of RK hn2 rfl hn2b (by decide)) (fun r M' hq _ => ?_)
      obtain ⟨_, rfl, _, rfl, rfl, rfl⟩ := hq
      show go_W mt_X11_standing fr_R 26 [some (pv_r m), some (pv_i x1), some (pv_i x2), some (pv_i x3)] [pv_i (I (m + 1) (200 + 14 * n2 + 0)), pv_i x2] (mm_si B I) (qi_ (fun x M' => ∃ I', M' = mm_si B I' ∧ P x I'))
      refine go_iload_n dX11_standing_26 rfl ?_
      refine go_icmp_ne (tgt := 42) dX11_standing_27 (by decide) (fun hc => ?_) (fun hc => ?_)
      · replace H := H.1 hc
        refine go_iconst (v := (0 : Int32)) rfl dX11_standing_42 ?_
        refine go_iadd dX11_standing_43 ?_
        refine go_istore_n (by decide) dX11_standing_44 ?_
        show go_W mt_X11_standing fr_R 45 [some (pv_r m), some (pv_i x1), some (pv_i (x2 + (0 : Int32))), some (pv_i x3)] [] (mm_si B I) (qi_ (fun x M' => ∃ I', M' = mm_si B I' ∧ P x I'))
        refine go_iincN (n := n2) (k := 1) hn2 (by decide) rfl rfl dX11_standing_45 ?_
        show go_W mt_X11_standing fr_R 48 [some (pv_r m), some (pv_i x1), some (pv_i (x2 + (0 : Int32))), some (pv_i (nI (n2 + 1)))] [] (mm_si B I) (qi_ (fun x M' => ∃ I', M' = mm_si B I' ∧ P x I'))
        refine go_goto (tgt := 4) dX11_standing_48 (by decide) ?_
        exact H
      · replace H := H.2 hc
        refine go_aload_n dX11_standing_30 rfl ?_
        refine go_iload_n dX11_standing_31 rfl ?_
        by_cases hc : (I (m + 1) (200 + 14 * n2 + 6) ≤ 3)
        · replace H := H.1 hc
          refine go_V (av := [pv_i x3]) (st := [pv_i x2]) (ci := 11) ok_X11_stands ⟨by decide, by decide⟩ ml_X11_98 rfl (by decide) (fun v hv => by simp only [List.mem_cons, List.not_mem_nil, or_false] at hv; rcases hv with rfl <;> first | exact pv_1i | exact pv_1r) (Nat.le_of_ble_eq_true rfl) (fun _ h => h) (by decide) rfl RK.1 dX11_standing_32 (rx_stands_t RK hn2 (by omega) hc) (fun r M' hq _ => ?_)
          obtain ⟨_, rfl, _, rfl, rfl, rfl⟩ := hq
          show go_W mt_X11_standing fr_R 35 [some (pv_r m), some (pv_i x1), some (pv_i x2), some (pv_i x3)] [pv_i (1 : Int32), pv_i x2] (mm_si B I) (qi_ (fun x M' => ∃ I', M' = mm_si B I' ∧ P x I'))
          refine go_if_eq (tgt := 42) dX11_standing_35 (by decide) (fun hc => absurd hc (by decide)) (fun _ => ?_)
          refine go_iconst (v := (1 : Int32)) rfl dX11_standing_38 ?_
          refine go_goto (tgt := 43) dX11_standing_39 (by decide) ?_
          refine go_iadd dX11_standing_43 ?_
          refine go_istore_n (by decide) dX11_standing_44 ?_
          show go_W mt_X11_standing fr_R 45 [some (pv_r m), some (pv_i x1), some (pv_i (x2 + (1 : Int32))), some (pv_i x3)] [] (mm_si B I) (qi_ (fun x M' => ∃ I', M' = mm_si B I' ∧ P x I'))
          refine go_iincN (n := n2) (k := 1) hn2 (by decide) rfl rfl dX11_standing_45 ?_
          show go_W mt_X11_standing fr_R 48 [some (pv_r m), some (pv_i x1), some (pv_i (x2 + (1 : Int32))), some (pv_i (nI (n2 + 1)))] [] (mm_si B I) (qi_ (fun x M' => ∃ I', M' = mm_si B I' ∧ P x I'))
          refine go_goto (tgt := 4) dX11_standing_48 (by decide) ?_
          exact H
        · replace H := H.2 hc
          refine go_V (av := [pv_i x3]) (st := [pv_i x2]) (ci := 11) ok_X11_stands ⟨by decide, by decide⟩ ml_X11_98 rfl (by decide) (fun v hv => by simp only [List.mem_cons, List.not_mem_nil, or_false] at hv; rcases hv with rfl <;> first | exact pv_1i | exact pv_1r) (Nat.le_of_ble_eq_true rfl) (fun _ h => h) (by decide) rfl RK.1 dX11_standing_32 (rx_stands_f RK hn2 (by omega) hc) (fun r M' hq _ => ?_)
          obtain ⟨_, rfl, _, rfl, rfl, rfl⟩ := hq
          show go_W mt_X11_standing fr_R 35 [some (pv_r m), some (pv_i x1), some (pv_i x2), some (pv_i x3)] [pv_i (0 : Int32), pv_i x2] (mm_si B I) (qi_ (fun x M' => ∃ I', M' = mm_si B I' ∧ P x I'))
          refine go_if_eq (tgt := 42) dX11_standing_35 (by decide) (fun _ => ?_) (fun hc => absurd hc (by decide))
          refine go_iconst (v := (0 : Int32)) rfl dX11_standing_42 ?_
          refine go_iadd dX11_standing_43 ?_
          refine go_istore_n (by decide) dX11_standing_44 ?_
          show go_W mt_X11_standing fr_R 45 [some (pv_r m), some (pv_i x1), some (pv_i (x2 + (0 : Int32))), some (pv_i x3)] [] (mm_si B I) (qi_ (fun x M' => ∃ I', M' = mm_si B I' ∧ P x I'))
          refine go_iincN (n := n2) (k := 1) hn2 (by decide) rfl rfl dX11_standing_45 ?_
          show go_W mt_X11_standing fr_R 48 [some (pv_r m), some (pv_i x1), some (pv_i (x2 + (0 : Int32))), some (pv_i (nI (n2 + 1)))] [] (mm_si B I) (qi_ (fun x M' => ∃ I', M' = mm_si B I' ∧ P x I'))
          refine go_goto (tgt := 4) dX11_standing_48 (by decide) ?_
          exact H
set_option maxRecDepth 20000 in
theorem wq_X11_isLive_0 {B : mm_T} {I : Nat → Nat → Int32} {m : Nat} (RK : rf_ok B m) {x1 : Int32} {P : Int32 → (Nat → Nat → Int32) → Prop} (H : rw_i mt_X11_isLive 2 [some (pv_r m), some (pv_i x1), some (pv_i (0 : Int32))] [] B I P) : rw_i mt_X11_isLive 0 [some (pv_r m), some (pv_i x1), none] [] B I P := by
  refine go_iconst (v := (0 : Int32)) rfl dX11_isLive_0 ?_
  refine go_istore_n (by decide) dX11_isLive_1 ?_
  show go_W mt_X11_isLive fr_R 2 [some (pv_r m), some (pv_i x1), some (pv_i (0 : Int32))] [] (mm_si B I) (qi_ (fun x M' => ∃ I', M' = mm_si B I' ∧ P x I'))
  exact H
set_option maxRecDepth 20000 in
theorem wq_X11_isLive_2 {B : mm_T} {I : Nat → Nat → Int32} {m : Nat} (RK : rf_ok B m) {x1 x2 : Int32} {P : Int32 → (Nat → Nat → Int32) → Prop} (H : (((I (m + 1) 1 ≤ x2) → P (0 : Int32) I) ∧ ((¬ I (m + 1) 1 ≤ x2) → ∃ n1, (x2 = nI n1 ∧ n1 < 400) ∧ ((((¬ I (m + 1) (200 + 14 * n1 + 0) = x1) → rw_i mt_X11_isLive 2 [some (pv_r m), some (pv_i x1), some (pv_i (nI (n1 + 1)))] [] B I P) ∧ ((I (m + 1) (200 + 14 * n1 + 0) = x1) → (((¬ I (m + 1) (200 + 14 * n1 + 6) = 0) → rw_i mt_X11_isLive 2 [some (pv_r m), some (pv_i x1), some (pv_i (nI (n1 + 1)))] [] B I P) ∧ ((I (m + 1) (200 + 14 * n1 + 6) = 0) → P (1 : Int32) I)))))))) : rw_i mt_X11_isLive 2 [some (pv_r m), some (pv_i x1), some (pv_i x2)] [] B I P := by
  refine go_iload_n dX11_isLive_2 rfl ?_
  refine go_aload_n dX11_isLive_3 rfl ?_
  refine go_getRe (k := 0) ⟨by decide, rfl, by decide, Or.inr ⟨_, rfl⟩⟩ RK.1 (rf_r1 RK) fl_X11_7 dX11_isLive_4 ?_
  refine go_iconst (v := (1 : Int32)) rfl dX11_isLive_7 ?_
  refine go_ialdN (j := 1) ⟨by decide, by decide, by decide⟩ (rf_k1 RK) rfl (by decide) dX11_isLive_8 ?_
  refine go_icmp_ge (tgt := 40) dX11_isLive_9 (by decide) (fun hc => ?_) (fun hc => ?_)
  · replace H := H.1 hc
    refine go_iconst (v := (0 : Int32)) rfl dX11_isLive_40 ?_
    exact go_iret rfl rfl dX11_isLive_41 ⟨_, rfl, _, rfl, H⟩
  · replace H := H.2 hc
    refine go_aload_n dX11_isLive_12 rfl ?_
    refine go_iload_n dX11_isLive_13 rfl ?_
    refine go_iconst (v := (0 : Int32)) rfl dX11_isLive_14 ?_
    obtain ⟨n1, ⟨hn1, hn1b⟩, H⟩ := H
    refine go_V (av := [pv_i x2, pv_i (0 : Int32)]) (st := []) (ci := 11) ok_X11_of ⟨by decide, by decide⟩ ml_X11_94 rfl (by decide) (fun v hv => by simp only [List.mem_cons, List.not_mem_nil, or_false] at hv; rcases hv with rfl | rfl <;> first | exact pv_1i | exact pv_1r) (Nat.le_of_ble_eq_true rfl) (fun _ h => h) (by decide) rfl RK.1 dX11_isLive_15 (rx_of RK hn1 rfl hn1b (by decide)) (fun r M' hq _ => ?_)
    obtain ⟨_, rfl, _, rfl, rfl, rfl⟩ := hq
    show go_W mt_X11_isLive fr_R 18 [some (pv_r m), some (pv_i x1), some (pv_i x2)] [pv_i (I (m + 1) (200 + 14 * n1 + 0))] (mm_si B I) (qi_ (fun x M' => ∃ I', M' = mm_si B I' ∧ P x I'))
    refine go_iload_n dX11_isLive_18 rfl ?_
    refine go_icmp_ne (tgt := 34) dX11_isLive_19 (by decide) (fun hc => ?_) (fun hc => ?_)
    · replace H := H.1 hc
      refine go_iincN (n := n1) (k := 1) hn1 (by decide) rfl rfl dX11_isLive_34 ?_
      show go_W mt_X11_isLive fr_R 37 [some (pv_r m), some (pv_i x1), some (pv_i (nI (n1 + 1)))] [] (mm_si B I) (qi_ (fun x M' => ∃ I', M' = mm_si B I' ∧ P x I'))
      refine go_goto (tgt := 2) dX11_isLive_37 (by decide) ?_
      exact H
    · replace H := H.2 hc
      refine go_aload_n dX11_isLive_22 rfl ?_
      refine go_iload_n dX11_isLive_23 rfl ?_
      refine go_bipush (v := (6 : Int32)) rfl dX11_isLive_24 ?_
      refine go_V (av := [pv_i x2, pv_i (6 : Int32)]) (st := []) (ci := 11) ok_X11_of ⟨by decide, by decide⟩ ml_X11_94 rfl (by decide) (fun v hv => by simp only [List.mem_cons, List.not_mem_nil, or_false] at hv; rcases hv with rfl | rfl <;> first | exact pv_1i | exact pv_1r) (Nat.le_of_ble_eq_true rfl) (fun _ h => h) (by decide) rfl RK.1 dX11_isLive_26 (rx_of RK hn1 rfl (by omega) (by decide)) (fun r M' hq _ => ?_)
      obtain ⟨_, rfl, _, rfl, rfl, rfl⟩ := hq
      show go_W mt_X11_isLive fr_R 29 [some (pv_r m), some (pv_i x1), some (pv_i x2)] [pv_i (I (m + 1) (200 + 14 * n1 + 6))] (mm_si B I) (qi_ (fun x M' => ∃ I', M' = mm_si B I' ∧ P x I'))
      refine go_if_ne (tgt := 34) dX11_isLive_29 (by decide) (fun hc => ?_) (fun hc => ?_)
      · replace H := H.1 hc
        refine go_iincN (n := n1) (k := 1) hn1 (by decide) rfl rfl dX11_isLive_34 ?_
        show go_W mt_X11_isLive fr_R 37 [some (pv_r m), some (pv_i x1), some (pv_i (nI (n1 + 1)))] [] (mm_si B I) (qi_ (fun x M' => ∃ I', M' = mm_si B I' ∧ P x I'))
        refine go_goto (tgt := 2) dX11_isLive_37 (by decide) ?_
        exact H
      · replace H := H.2 hc
        refine go_iconst (v := (1 : Int32)) rfl dX11_isLive_32 ?_
        exact go_iret rfl rfl dX11_isLive_33 ⟨_, rfl, _, rfl, H⟩
set_option maxRecDepth 20000 in
theorem wq_X11_isAheadOf_0 {B : mm_T} {I : Nat → Nat → Int32} {m : Nat} (RK : rf_ok B m) {x1 x2 : Int32} {P : Int32 → (Nat → Nat → Int32) → Prop} (H : ∃ n1, (x1 = nI n1 ∧ n1 < 400) ∧ (∃ n2, (x2 = nI n2 ∧ n2 < 400) ∧ (((((ra_rank I m n2) < (ra_rank I m n1)) → P (1 : Int32) I) ∧ ((¬ (ra_rank I m n2) < (ra_rank I m n1)) → (((¬ (ra_rank I m n1) = (ra_rank I m n2)) → P (0 : Int32) I) ∧ (((ra_rank I m n1) = (ra_rank I m n2)) → (((x2 ≤ x1) → P (0 : Int32) I) ∧ ((¬ x2 ≤ x1) → P (1 : Int32) I))))))))) : rw_i mt_X11_isAheadOf 0 [some (pv_r m), some (pv_i x1), some (pv_i x2)] [] B I P := by
  refine go_aload_n dX11_isAheadOf_0 rfl ?_
  refine go_iload_n dX11_isAheadOf_1 rfl ?_
  obtain ⟨n1, ⟨hn1, hn1b⟩, H⟩ := H
  refine go_V (av := [pv_i x1]) (st := []) (ci := 11) ok_X11_rankOf ⟨by decide, by decide⟩ ml_X11_102 rfl (by decide) (fun v hv => by simp only [List.mem_cons, List.not_mem_nil, or_false] at hv; rcases hv with rfl <;> first | exact pv_1i | exact pv_1r) (Nat.le_of_ble_eq_true rfl) (fun _ h => h) (by decide) rfl RK.1 dX11_isAheadOf_2 (rx_rankOf RK hn1 hn1b) (fun r M' hq _ => ?_)
  obtain ⟨_, rfl, _, rfl, rfl, rfl⟩ := hq
  show go_W mt_X11_isAheadOf fr_R 5 [some (pv_r m), some (pv_i x1), some (pv_i x2)] [pv_i (ra_rank I m n1)] (mm_si B I) (qi_ (fun x M' => ∃ I', M' = mm_si B I' ∧ P x I'))
  refine go_aload_n dX11_isAheadOf_5 rfl ?_
  refine go_iload_n dX11_isAheadOf_6 rfl ?_
  obtain ⟨n2, ⟨hn2, hn2b⟩, H⟩ := H
  refine go_V (av := [pv_i x2]) (st := [pv_i (ra_rank I m n1)]) (ci := 11) ok_X11_rankOf ⟨by decide, by decide⟩ ml_X11_102 rfl (by decide) (fun v hv => by simp only [List.mem_cons, List.not_mem_nil, or_false] at hv; rcases hv with rfl <;> first | exact pv_1i | exact pv_1r) (Nat.le_of_ble_eq_true rfl) (fun _ h => h) (by decide) rfl RK.1 dX11_isAheadOf_7 (rx_rankOf RK hn2 hn2b) (fun r M' hq _ => ?_)
  obtain ⟨_, rfl, _, rfl, rfl, rfl⟩ := hq
  show go_W mt_X11_isAheadOf fr_R 10 [some (pv_r m), some (pv_i x1), some (pv_i x2)] [pv_i (ra_rank I m n2), pv_i (ra_rank I m n1)] (mm_si B I) (qi_ (fun x M' => ∃ I', M' = mm_si B I' ∧ P x I'))
  refine go_icmp_gt (tgt := 31) dX11_isAheadOf_10 (by decide) (fun hc => ?_) (fun hc => ?_)
  · replace H := H.1 hc
    refine go_iconst (v := (1 : Int32)) rfl dX11_isAheadOf_31 ?_
    refine go_goto (tgt := 36) dX11_isAheadOf_32 (by decide) ?_
    exact go_iret rfl rfl dX11_isAheadOf_36 ⟨_, rfl, _, rfl, H⟩
  · replace H := H.2 hc
    refine go_aload_n dX11_isAheadOf_13 rfl ?_
    refine go_iload_n dX11_isAheadOf_14 rfl ?_
    refine go_V (av := [pv_i x1]) (st := []) (ci := 11) ok_X11_rankOf ⟨by decide, by decide⟩ ml_X11_102 rfl (by decide) (fun v hv => by simp only [List.mem_cons, List.not_mem_nil, or_false] at hv; rcases hv with rfl <;> first | exact pv_1i | exact pv_1r) (Nat.le_of_ble_eq_true rfl) (fun _ h => h) (by decide) rfl RK.1 dX11_isAheadOf_15 (rx_rankOf RK hn1 (by omega)) (fun r M' hq _ => ?_)
    obtain ⟨_, rfl, _, rfl, rfl, rfl⟩ := hq
    show go_W mt_X11_isAheadOf fr_R 18 [some (pv_r m), some (pv_i x1), some (pv_i x2)] [pv_i (ra_rank I m n1)] (mm_si B I) (qi_ (fun x M' => ∃ I', M' = mm_si B I' ∧ P x I'))
    refine go_aload_n dX11_isAheadOf_18 rfl ?_
    refine go_iload_n dX11_isAheadOf_19 rfl ?_
    refine go_V (av := [pv_i x2]) (st := [pv_i (ra_rank I m n1)]) (ci := 11) ok_X11_rankOf ⟨by decide, by decide⟩ ml_X11_102 rfl (by decide) (fun v hv => by simp only [List.mem_cons, List.not_mem_nil, or_false] at hv; rcases hv with rfl <;> first | exact pv_1i | exact pv_1r) (Nat.le_of_ble_eq_true rfl) (fun _ h => h) (by decide) rfl RK.1 dX11_isAheadOf_20 (rx_rankOf RK hn2 (by omega)) (fun r M' hq _ => ?_)
    obtain ⟨_, rfl, _, rfl, rfl, rfl⟩ := hq
    show go_W mt_X11_isAheadOf fr_R 23 [some (pv_r m), some (pv_i x1), some (pv_i x2)] [pv_i (ra_rank I m n2), pv_i (ra_rank I m n1)] (mm_si B I) (qi_ (fun x M' => ∃ I', M' = mm_si B I' ∧ P x I'))
    refine go_icmp_ne (tgt := 35) dX11_isAheadOf_23 (by decide) (fun hc => ?_) (fun hc => ?_)
    · replace H := H.1 hc
      refine go_iconst (v := (0 : Int32)) rfl dX11_isAheadOf_35 ?_
      exact go_iret rfl rfl dX11_isAheadOf_36 ⟨_, rfl, _, rfl, H⟩
    · replace H := H.2 hc
      refine go_iload_n dX11_isAheadOf_26 rfl ?_
      refine go_iload_n dX11_isAheadOf_27 rfl ?_
      refine go_icmp_ge (tgt := 35) dX11_isAheadOf_28 (by decide) (fun hc => ?_) (fun hc => ?_)
      · replace H := H.1 hc
        refine go_iconst (v := (0 : Int32)) rfl dX11_isAheadOf_35 ?_
        exact go_iret rfl rfl dX11_isAheadOf_36 ⟨_, rfl, _, rfl, H⟩
      · replace H := H.2 hc
        refine go_iconst (v := (1 : Int32)) rfl dX11_isAheadOf_31 ?_
        refine go_goto (tgt := 36) dX11_isAheadOf_32 (by decide) ?_
        exact go_iret rfl rfl dX11_isAheadOf_36 ⟨_, rfl, _, rfl, H⟩
set_option maxRecDepth 20000 in
theorem wq_X11_firstOf_0 {B : mm_T} {I : Nat → Nat → Int32} {m : Nat} (RK : rf_ok B m) {x1 : Int32} {P : Int32 → (Nat → Nat → Int32) → Prop} (H : rw_i mt_X11_firstOf 4 [some (pv_r m), some (pv_i x1), some (pv_i (-1 : Int32)), some (pv_i (0 : Int32))] [] B I P) : rw_i mt_X11_firstOf 0 [some (pv_r m), some (pv_i x1), none, none] [] B I P := by
  refine go_iconst (v := (-1 : Int32)) rfl dX11_firstOf_0 ?_
  refine go_istore_n (by decide) dX11_firstOf_1 ?_
  show go_W mt_X11_firstOf fr_R 2 [some (pv_r m), some (pv_i x1), some (pv_i (-1 : Int32)), none] [] (mm_si B I) (qi_ (fun x M' => ∃ I', M' = mm_si B I' ∧ P x I'))
  refine go_iconst (v := (0 : Int32)) rfl dX11_firstOf_2 ?_
  refine go_istore_n (by decide) dX11_firstOf_3 ?_
  show go_W mt_X11_firstOf fr_R 4 [some (pv_r m), some (pv_i x1), some (pv_i (-1 : Int32)), some (pv_i (0 : Int32))] [] (mm_si B I) (qi_ (fun x M' => ∃ I', M' = mm_si B I' ∧ P x I'))
  exact H
set_option maxRecDepth 20000 in
theorem wq_X11_firstOf_4 {B : mm_T} {I : Nat → Nat → Int32} {m : Nat} (RK : rf_ok B m) {x1 x2 x3 : Int32} {P : Int32 → (Nat → Nat → Int32) → Prop} (H : (((I (m + 1) 1 ≤ x3) → P x2 I) ∧ ((¬ I (m + 1) 1 ≤ x3) → ∃ n1, (x3 = nI n1 ∧ n1 < 400) ∧ ((((¬ I (m + 1) (200 + 14 * n1 + 0) = x1) → rw_i mt_X11_firstOf 4 [some (pv_r m), some (pv_i x1), some (pv_i x2), some (pv_i (nI (n1 + 1)))] [] B I P) ∧ ((I (m + 1) (200 + 14 * n1 + 0) = x1) → (((¬ I (m + 1) (200 + 14 * n1 + 6) = 0) → rw_i mt_X11_firstOf 4 [some (pv_r m), some (pv_i x1), some (pv_i x2), some (pv_i (nI (n1 + 1)))] [] B I P) ∧ ((I (m + 1) (200 + 14 * n1 + 6) = 0) → (((x2 = (-1 : Int32)) → rw_i mt_X11_firstOf 4 [some (pv_r m), some (pv_i x1), some (pv_i x3), some (pv_i (nI (n1 + 1)))] [] B I P) ∧ ((¬ x2 = (-1 : Int32)) → rs_i mt_X11_isAheadOf [pv_r m, pv_i x3, pv_i x2] B I (fun v3 I2 => (((v3 = 0) → rw_i mt_X11_firstOf 4 [some (pv_r m), some (pv_i x1), some (pv_i x2), some (pv_i (nI (n1 + 1)))] [] B I2 P) ∧ ((¬ v3 = 0) → rw_i mt_X11_firstOf 4 [some (pv_r m), some (pv_i x1), some (pv_i x3), some (pv_i (nI (n1 + 1)))] [] B I2 P))))))))))))) : rw_i mt_X11_firstOf 4 [some (pv_r m), some (pv_i x1), some (pv_i x2), some (pv_i x3)] [] B I P := by
  refine go_iload_n dX11_firstOf_4 rfl ?_
  refine go_aload_n dX11_firstOf_5 rfl ?_
  refine go_getRe (k := 0) ⟨by decide, rfl, by decide, Or.inr ⟨_, rfl⟩⟩ RK.1 (rf_r1 RK) fl_X11_7 dX11_firstOf_6 ?_
  refine go_iconst (v := (1 : Int32)) rfl dX11_firstOf_9 ?_
  refine go_ialdN (j := 1) ⟨by decide, by decide, by decide⟩ (rf_k1 RK) rfl (by decide) dX11_firstOf_10 ?_
  refine go_icmp_ge (tgt := 56) dX11_firstOf_11 (by decide) (fun hc => ?_) (fun hc => ?_)
  · replace H := H.1 hc
    refine go_iload_n dX11_firstOf_56 rfl ?_
    exact go_iret rfl rfl dX11_firstOf_57 ⟨_, rfl, _, rfl, H⟩
  · replace H := H.2 hc
    refine go_aload_n dX11_firstOf_14 rfl ?_
    refine go_iload_n dX11_firstOf_15 rfl ?_
    refine go_iconst (v := (0 : Int32)) rfl dX11_firstOf_16 ?_
    obtain ⟨n1, ⟨hn1, hn1b⟩, H⟩ := H
    refine go_V (av := [pv_i x3, pv_i (0 : Int32)]) (st := []) (ci := 11) ok_X11_of ⟨by decide, by decide⟩ ml_X11_94 rfl (by decide) (fun v hv => by simp only [List.mem_cons, List.not_mem_nil, or_false] at hv; rcases hv with rfl | rfl <;> first | exact pv_1i | exact pv_1r) (Nat.le_of_ble_eq_true rfl) (fun _ h => h) (by decide) rfl RK.1 dX11_firstOf_17 (rx_of RK hn1 rfl hn1b (by decide)) (fun r M' hq _ => ?_)
    obtain ⟨_, rfl, _, rfl, rfl, rfl⟩ := hq
    show go_W mt_X11_firstOf fr_R 20 [some (pv_r m), some (pv_i x1), some (pv_i x2), some (pv_i x3)] [pv_i (I (m + 1) (200 + 14 * n1 + 0))] (mm_si B I) (qi_ (fun x M' => ∃ I', M' = mm_si B I' ∧ P x I'))
    refine go_iload_n dX11_firstOf_20 rfl ?_
    refine go_icmp_ne (tgt := 50) dX11_firstOf_21 (by decide) (fun hc => ?_) (fun hc => ?_)
    · replace H := H.1 hc
      refine go_iincN (n := n1) (k := 1) hn1 (by decide) rfl rfl dX11_firstOf_50 ?_
      show go_W mt_X11_firstOf fr_R 53 [some (pv_r m), some (pv_i x1), some (pv_i x2), some (pv_i (nI (n1 + 1)))] [] (mm_si B I) (qi_ (fun x M' => ∃ I', M' = mm_si B I' ∧ P x I'))
      refine go_goto (tgt := 4) dX11_firstOf_53 (by decide) ?_
      exact H
    · replace H := H.2 hc
      refine go_aload_n dX11_firstOf_24 rfl ?_
      refine go_iload_n dX11_firstOf_25 rfl ?_
      refine go_bipush (v := (6 : Int32)) rfl dX11_firstOf_26 ?_
      refine go_V (av := [pv_i x3, pv_i (6 : Int32)]) (st := []) (ci := 11) ok_X11_of ⟨by decide, by decide⟩ ml_X11_94 rfl (by decide) (fun v hv => by simp only [List.mem_cons, List.not_mem_nil, or_false] at hv; rcases hv with rfl | rfl <;> first | exact pv_1i | exact pv_1r) (Nat.le_of_ble_eq_true rfl) (fun _ h => h) (by decide) rfl RK.1 dX11_firstOf_28 (rx_of RK hn1 rfl (by omega) (by decide)) (fun r M' hq _ => ?_)
      obtain ⟨_, rfl, _, rfl, rfl, rfl⟩ := hq
      show go_W mt_X11_firstOf fr_R 31 [some (pv_r m), some (pv_i x1), some (pv_i x2), some (pv_i x3)] [pv_i (I (m + 1) (200 + 14 * n1 + 6))] (mm_si B I) (qi_ (fun x M' => ∃ I', M' = mm_si B I' ∧ P x I'))
      refine go_if_ne (tgt := 50) dX11_firstOf_31 (by decide) (fun hc => ?_) (fun hc => ?_)
      · replace H := H.1 hc
        refine go_iincN (n := n1) (k := 1) hn1 (by decide) rfl rfl dX11_firstOf_50 ?_
        show go_W mt_X11_firstOf fr_R 53 [some (pv_r m), some (pv_i x1), some (pv_i x2), some (pv_i (nI (n1 + 1)))] [] (mm_si B I) (qi_ (fun x M' => ∃ I', M' = mm_si B I' ∧ P x I'))
        refine go_goto (tgt := 4) dX11_firstOf_53 (by decide) ?_
        exact H
      · replace H := H.2 hc
        refine go_iload_n dX11_firstOf_34 rfl ?_
        refine go_iconst (v := (-1 : Int32)) rfl dX11_firstOf_35 ?_
        refine go_icmp_eq (tgt := 48) dX11_firstOf_36 (by decide) (fun hc => ?_) (fun hc => ?_)
        · replace H := H.1 hc
          refine go_iload_n dX11_firstOf_48 rfl ?_
          refine go_istore_n (by decide) dX11_firstOf_49 ?_
          show go_W mt_X11_firstOf fr_R 50 [some (pv_r m), some (pv_i x1), some (pv_i x3), some (pv_i x3)] [] (mm_si B I) (qi_ (fun x M' => ∃ I', M' = mm_si B I' ∧ P x I'))
          refine go_iincN (n := n1) (k := 1) hn1 (by decide) rfl rfl dX11_firstOf_50 ?_
          show go_W mt_X11_firstOf fr_R 53 [some (pv_r m), some (pv_i x1), some (pv_i x3), some (pv_i (nI (n1 + 1)))] [] (mm_si B I) (qi_ (fun x M' => ∃ I', M' = mm_si B I' ∧ P x I'))
          refine go_goto (tgt := 4) dX11_firstOf_53 (by decide) ?_
          exact H
        · replace H := H.2 hc
          refine go_aload_n dX11_firstOf_39 rfl ?_
          refine go_iload_n dX11_firstOf_40 rfl ?_
          refine go_iload_n dX11_firstOf_41 rfl ?_
          refine go_V (av := [pv_i x3, pv_i x2]) (st := []) (ci := 11) ok_X11_isAheadOf ⟨by decide, by decide⟩ ml_X11_105 rfl (by decide) (fun v hv => by simp only [List.mem_cons, List.not_mem_nil, or_false] at hv; rcases hv with rfl | rfl <;> first | exact pv_1i | exact pv_1r) (Nat.le_of_ble_eq_true rfl) (fun _ h => h) (by decide) rfl RK.1 dX11_firstOf_42 H (fun r M' hq _ => ?_)
          obtain ⟨v3, rfl, I2, rfl, H⟩ := hq
          show go_W mt_X11_firstOf fr_R 45 [some (pv_r m), some (pv_i x1), some (pv_i x2), some (pv_i x3)] [pv_i v3] (mm_si B I2) (qi_ (fun x M' => ∃ I', M' = mm_si B I' ∧ P x I'))
          refine go_if_eq (tgt := 50) dX11_firstOf_45 (by decide) (fun hc => ?_) (fun hc => ?_)
          · replace H := H.1 hc
            refine go_iincN (n := n1) (k := 1) hn1 (by decide) rfl rfl dX11_firstOf_50 ?_
            show go_W mt_X11_firstOf fr_R 53 [some (pv_r m), some (pv_i x1), some (pv_i x2), some (pv_i (nI (n1 + 1)))] [] (mm_si B I2) (qi_ (fun x M' => ∃ I', M' = mm_si B I' ∧ P x I'))
            refine go_goto (tgt := 4) dX11_firstOf_53 (by decide) ?_
            exact H
          · replace H := H.2 hc
            refine go_iload_n dX11_firstOf_48 rfl ?_
            refine go_istore_n (by decide) dX11_firstOf_49 ?_
            show go_W mt_X11_firstOf fr_R 50 [some (pv_r m), some (pv_i x1), some (pv_i x3), some (pv_i x3)] [] (mm_si B I2) (qi_ (fun x M' => ∃ I', M' = mm_si B I' ∧ P x I'))
            refine go_iincN (n := n1) (k := 1) hn1 (by decide) rfl rfl dX11_firstOf_50 ?_
            show go_W mt_X11_firstOf fr_R 53 [some (pv_r m), some (pv_i x1), some (pv_i x3), some (pv_i (nI (n1 + 1)))] [] (mm_si B I2) (qi_ (fun x M' => ∃ I', M' = mm_si B I' ∧ P x I'))
            refine go_goto (tgt := 4) dX11_firstOf_53 (by decide) ?_
            exact H
set_option maxRecDepth 20000 in
theorem wq_X11_theLane_0 {B : mm_T} {I : Nat → Nat → Int32} {m : Nat} (RK : rf_ok B m) {x1 : Int32} {P : Int32 → (Nat → Nat → Int32) → Prop} (H : rw_i mt_X11_theLane 4 [some (pv_r m), some (pv_i x1), some (pv_i (-1 : Int32)), some (pv_i (0 : Int32))] [] B I P) : rw_i mt_X11_theLane 0 [some (pv_r m), some (pv_i x1), none, none] [] B I P := by
  refine go_iconst (v := (-1 : Int32)) rfl dX11_theLane_0 ?_
  refine go_istore_n (by decide) dX11_theLane_1 ?_
  show go_W mt_X11_theLane fr_R 2 [some (pv_r m), some (pv_i x1), some (pv_i (-1 : Int32)), none] [] (mm_si B I) (qi_ (fun x M' => ∃ I', M' = mm_si B I' ∧ P x I'))
  refine go_iconst (v := (0 : Int32)) rfl dX11_theLane_2 ?_
  refine go_istore_n (by decide) dX11_theLane_3 ?_
  show go_W mt_X11_theLane fr_R 4 [some (pv_r m), some (pv_i x1), some (pv_i (-1 : Int32)), some (pv_i (0 : Int32))] [] (mm_si B I) (qi_ (fun x M' => ∃ I', M' = mm_si B I' ∧ P x I'))
  exact H
set_option maxRecDepth 20000 in
theorem wq_X11_theLane_4 {B : mm_T} {I : Nat → Nat → Int32} {m : Nat} (RK : rf_ok B m) {x1 x2 x3 : Int32} {P : Int32 → (Nat → Nat → Int32) → Prop} (H : ((((5 : Int32) ≤ x3) → P x2 I) ∧ ((¬ (5 : Int32) ≤ x3) → (((x2 = (-1 : Int32)) → rs_i mt_X11_isLive [pv_r m, pv_i x3] B I (fun v2 I1 => (((¬ v2 = 0) → (((x1 = 0) → rw_i mt_X11_theLane 4 [some (pv_r m), some (pv_i x1), some (pv_i x3), some (pv_i (x3 + (1 : Int32)))] [] B I1 P) ∧ ((¬ x1 = 0) → rs_i mt_X11_manyOf [pv_r m, pv_i x3, pv_i (3 : Int32)] B I1 (fun v4 I3 => ∃ n5, (x3 = nI n5 ∧ n5 < 5) ∧ ((((I3 (m + 1) ((10 + 10 * n5) + 2) ≤ v4) → rw_i mt_X11_theLane 4 [some (pv_r m), some (pv_i x1), some (pv_i x2), some (pv_i (nI (n5 + 1)))] [] B I3 P) ∧ ((¬ I3 (m + 1) ((10 + 10 * n5) + 2) ≤ v4) → rw_i mt_X11_theLane 4 [some (pv_r m), some (pv_i x1), some (pv_i x3), some (pv_i (nI (n5 + 1)))] [] B I3 P))))))) ∧ ((v2 = 0) → rw_i mt_X11_theLane 4 [some (pv_r m), some (pv_i x1), some (pv_i x2), some (pv_i (x3 + (1 : Int32)))] [] B I1 P)))) ∧ ((¬ x2 = (-1 : Int32)) → ∃ n6, (x3 = nI n6 ∧ n6 < 5) ∧ (∃ n7, (x2 = nI n7 ∧ n7 < 5) ∧ ((((I (m + 1) ((10 + 10 * n7) + 4) ≤ I (m + 1) ((10 + 10 * n6) + 4)) → rw_i mt_X11_theLane 4 [some (pv_r m), some (pv_i x1), some (pv_i x2), some (pv_i (nI (n6 + 1)))] [] B I P) ∧ ((¬ I (m + 1) ((10 + 10 * n7) + 4) ≤ I (m + 1) ((10 + 10 * n6) + 4)) → rs_i mt_X11_isLive [pv_r m, pv_i x3] B I (fun v9 I8 => (((¬ v9 = 0) → (((x1 = 0) → rw_i mt_X11_theLane 4 [some (pv_r m), some (pv_i x1), some (pv_i x3), some (pv_i (nI (n6 + 1)))] [] B I8 P) ∧ ((¬ x1 = 0) → rs_i mt_X11_manyOf [pv_r m, pv_i x3, pv_i (3 : Int32)] B I8 (fun v11 I10 => (((I10 (m + 1) ((10 + 10 * n6) + 2) ≤ v11) → rw_i mt_X11_theLane 4 [some (pv_r m), some (pv_i x1), some (pv_i x2), some (pv_i (nI (n6 + 1)))] [] B I10 P) ∧ ((¬ I10 (m + 1) ((10 + 10 * n6) + 2) ≤ v11) → rw_i mt_X11_theLane 4 [some (pv_r m), some (pv_i x1), some (pv_i x3), some (pv_i (nI (n6 + 1)))] [] B I10 P)))))) ∧ ((v9 = 0) → rw_i mt_X11_theLane 4 [some (pv_r m), some (pv_i x1), some (pv_i x2), some (pv_i (nI (n6 + 1)))] [] B I8 P)))))))))))) : rw_i mt_X11_theLane 4 [some (pv_r m), some (pv_i x1), some (pv_i x2), some (pv_i x3)] [] B I P := by
  refine go_iload_n dX11_theLane_4 rfl ?_
  refine go_iconst (v := (5 : Int32)) rfl dX11_theLane_5 ?_
  refine go_icmp_ge (tgt := 82) dX11_theLane_6 (by decide) (fun hc => ?_) (fun hc => ?_)
  · replace H := H.1 hc
    refine go_iload_n dX11_theLane_82 rfl ?_
    exact go_iret rfl rfl dX11_theLane_83 ⟨_, rfl, _, rfl, H⟩
  · replace H := H.2 hc
    refine go_iload_n dX11_theLane_9 rfl ?_
    refine go_iconst (v := (-1 : Int32)) rfl dX11_theLane_10 ?_
    refine go_icmp_eq (tgt := 39) dX11_theLane_11 (by decide) (fun hc => ?_) (fun hc => ?_)
    · replace H := H.1 hc
      refine go_aload_n dX11_theLane_39 rfl ?_
      refine go_iload_n dX11_theLane_40 rfl ?_
      refine go_V (av := [pv_i x3]) (st := []) (ci := 11) ok_X11_isLive ⟨by decide, by decide⟩ ml_X11_109 rfl (by decide) (fun v hv => by simp only [List.mem_cons, List.not_mem_nil, or_false] at hv; rcases hv with rfl <;> first | exact pv_1i | exact pv_1r) (Nat.le_of_ble_eq_true rfl) (fun _ h => h) (by decide) rfl RK.1 dX11_theLane_41 H (fun r M' hq _ => ?_)
      obtain ⟨v2, rfl, I1, rfl, H⟩ := hq
      show go_W mt_X11_theLane fr_R 44 [some (pv_r m), some (pv_i x1), some (pv_i x2), some (pv_i x3)] [pv_i v2] (mm_si B I1) (qi_ (fun x M' => ∃ I', M' = mm_si B I' ∧ P x I'))
      refine go_if_ne (tgt := 50) dX11_theLane_44 (by decide) (fun hc => ?_) (fun hc => ?_)
      · replace H := H.1 hc
        refine go_iload_n dX11_theLane_50 rfl ?_
        refine go_if_eq (tgt := 74) dX11_theLane_51 (by decide) (fun hc => ?_) (fun hc => ?_)
        · replace H := H.1 hc
          refine go_iload_n dX11_theLane_74 rfl ?_
          refine go_istore_n (by decide) dX11_theLane_75 ?_
          show go_W mt_X11_theLane fr_R 76 [some (pv_r m), some (pv_i x1), some (pv_i x3), some (pv_i x3)] [] (mm_si B I1) (qi_ (fun x M' => ∃ I', M' = mm_si B I' ∧ P x I'))
          refine go_iinc (v := (1 : Int32)) (by decide) rfl rfl dX11_theLane_76 ?_
          show go_W mt_X11_theLane fr_R 79 [some (pv_r m), some (pv_i x1), some (pv_i x3), some (pv_i (x3 + (1 : Int32)))] [] (mm_si B I1) (qi_ (fun x M' => ∃ I', M' = mm_si B I' ∧ P x I'))
          refine go_goto (tgt := 4) dX11_theLane_79 (by decide) ?_
          exact H
        · replace H := H.2 hc
          refine go_aload_n dX11_theLane_54 rfl ?_
          refine go_iload_n dX11_theLane_55 rfl ?_
          refine go_iconst (v := (3 : Int32)) rfl dX11_theLane_56 ?_
          refine go_V (av := [pv_i x3, pv_i (3 : Int32)]) (st := []) (ci := 11) ok_X11_manyOf ⟨by decide, by decide⟩ ml_X11_112 rfl (by decide) (fun v hv => by simp only [List.mem_cons, List.not_mem_nil, or_false] at hv; rcases hv with rfl | rfl <;> first | exact pv_1i | exact pv_1r) (Nat.le_of_ble_eq_true rfl) (fun _ h => h) (by decide) rfl RK.1 dX11_theLane_57 H (fun r M' hq _ => ?_)
          obtain ⟨v4, rfl, I3, rfl, H⟩ := hq
          show go_W mt_X11_theLane fr_R 60 [some (pv_r m), some (pv_i x1), some (pv_i x2), some (pv_i x3)] [pv_i v4] (mm_si B I3) (qi_ (fun x M' => ∃ I', M' = mm_si B I' ∧ P x I'))
          refine go_aload_n dX11_theLane_60 rfl ?_
          refine go_getRe (k := 0) ⟨by decide, rfl, by decide, Or.inr ⟨_, rfl⟩⟩ RK.1 (rf_r1 RK) fl_X11_7 dX11_theLane_61 ?_
          refine go_iload_n dX11_theLane_64 rfl ?_
          obtain ⟨n5, ⟨hn5, hn5b⟩, H⟩ := H
          refine go_St (av := [pv_i x3]) (st := [pv_r (m + 1), pv_i v4]) ok_X11_at ⟨by decide, by decide⟩ ml_X11_80 rfl (by decide) (fun v hv => by simp only [List.mem_cons, List.not_mem_nil, or_false] at hv; rcases hv with rfl <;> first | exact pv_1i | exact pv_1r) (Nat.le_of_ble_eq_true rfl) (fun _ h => h) dX11_theLane_65 (rx_at RK hn5) (fun r M' hq _ => ?_)
          obtain ⟨_, rfl, _, rfl, rfl, rfl⟩ := hq
          show go_W mt_X11_theLane fr_R 68 [some (pv_r m), some (pv_i x1), some (pv_i x2), some (pv_i x3)] [pv_i (nI (10 + 10 * n5)), pv_r (m + 1), pv_i v4] (mm_si B I3) (qi_ (fun x M' => ∃ I', M' = mm_si B I' ∧ P x I'))
          refine go_iconst (v := (2 : Int32)) rfl dX11_theLane_68 ?_
          refine go_iadd dX11_theLane_69 ?_
          refine go_ialdN (j := ((10 + 10 * n5) + 2)) ⟨by decide, by decide, by decide⟩ (rf_k1 RK) (nI_ae rfl rfl) (by omega) dX11_theLane_70 ?_
          refine go_icmp_ge (tgt := 76) dX11_theLane_71 (by decide) (fun hc => ?_) (fun hc => ?_)
          · replace H := H.1 hc
            refine go_iincN (n := n5) (k := 1) hn5 (by decide) rfl rfl dX11_theLane_76 ?_
            show go_W mt_X11_theLane fr_R 79 [some (pv_r m), some (pv_i x1), some (pv_i x2), some (pv_i (nI (n5 + 1)))] [] (mm_si B I3) (qi_ (fun x M' => ∃ I', M' = mm_si B I' ∧ P x I'))
            refine go_goto (tgt := 4) dX11_theLane_79 (by decide) ?_
            exact H
          · replace H := H.2 hc
            refine go_iload_n dX11_theLane_74 rfl ?_
            refine go_istore_n (by decide) dX11_theLane_75 ?_
            show go_W mt_X11_theLane fr_R 76 [some (pv_r m), some (pv_i x1), some (pv_i x3), some (pv_i x3)] [] (mm_si B I3) (qi_ (fun x M' => ∃ I', M' = mm_si B I' ∧ P x I'))
            refine go_iincN (n := n5) (k := 1) hn5 (by decide) rfl rfl dX11_theLane_76 ?_
            show go_W mt_X11_theLane fr_R 79 [some (pv_r m), some (pv_i x1), some (pv_i x3), some (pv_i (nI (n5 + 1)))] [] (mm_si B I3) (qi_ (fun x M' => ∃ I', M' = mm_si B I' ∧ P x I'))
            refine go_goto (tgt := 4) dX11_theLane_79 (by decide) ?_
            exact H
      · replace H := H.2 hc
        refine go_goto (tgt := 76) dX11_theLane_47 (by decide) ?_
        refine go_iinc (v := (1 : Int32)) (by decide) rfl rfl dX11_theLane_76 ?_
        show go_W mt_X11_theLane fr_R 79 [some (pv_r m), some (pv_i x1), some (pv_i x2), some (pv_i (x3 + (1 : Int32)))] [] (mm_si B I1) (qi_ (fun x M' => ∃ I', M' = mm_si B I' ∧ P x I'))
        refine go_goto (tgt := 4) dX11_theLane_79 (by decide) ?_
        exact H
    · replace H := H.2 hc
      refine go_aload_n dX11_theLane_14 rfl ?_
      refine go_getRe (k := 0) ⟨by decide, rfl, by decide, Or.inr ⟨_, rfl⟩⟩ RK.1 (rf_r1 RK) fl_X11_7 dX11_theLane_15 ?_
      refine go_iload_n dX11_theLane_18 rfl ?_
      obtain ⟨n6, ⟨hn6, hn6b⟩, H⟩ := H
      refine go_St (av := [pv_i x3]) (st := [pv_r (m + 1)]) ok_X11_at ⟨by decide, by decide⟩ ml_X11_80 rfl (by decide) (fun v hv => by simp only [List.mem_cons, List.not_mem_nil, or_false] at hv; rcases hv with rfl <;> first | exact pv_1i | exact pv_1r) (Nat.le_of_ble_eq_true rfl) (fun _ h => h) dX11_theLane_19 (rx_at RK hn6) (fun r M' hq _ => ?_)
      obtain ⟨_, rfl, _, rfl, rfl, rfl⟩ := hq
      show go_W mt_X11_theLane fr_R 22 [some (pv_r m), some (pv_i x1), some (pv_i x2), some (pv_i x3)] [pv_i (nI (10 + 10 * n6)), pv_r (m + 1)] (mm_si B I) (qi_ (fun x M' => ∃ I', M' = mm_si B I' ∧ P x I'))
      refine go_iconst (v := (4 : Int32)) rfl dX11_theLane_22 ?_
      refine go_iadd dX11_theLane_23 ?_
      refine go_ialdN (j := ((10 + 10 * n6) + 4)) ⟨by decide, by decide, by decide⟩ (rf_k1 RK) (nI_ae rfl rfl) (by omega) dX11_theLane_24 ?_
      refine go_aload_n dX11_theLane_25 rfl ?_
      refine go_getRe (k := 0) ⟨by decide, rfl, by decide, Or.inr ⟨_, rfl⟩⟩ RK.1 (rf_r1 RK) fl_X11_7 dX11_theLane_26 ?_
      refine go_iload_n dX11_theLane_29 rfl ?_
      obtain ⟨n7, ⟨hn7, hn7b⟩, H⟩ := H
      refine go_St (av := [pv_i x2]) (st := [pv_r (m + 1), pv_i (I (m + 1) ((10 + 10 * n6) + 4))]) ok_X11_at ⟨by decide, by decide⟩ ml_X11_80 rfl (by decide) (fun v hv => by simp only [List.mem_cons, List.not_mem_nil, or_false] at hv; rcases hv with rfl <;> first | exact pv_1i | exact pv_1r) (Nat.le_of_ble_eq_true rfl) (fun _ h => h) dX11_theLane_30 (rx_at RK hn7) (fun r M' hq _ => ?_)
      obtain ⟨_, rfl, _, rfl, rfl, rfl⟩ := hq
      show go_W mt_X11_theLane fr_R 33 [some (pv_r m), some (pv_i x1), some (pv_i x2), some (pv_i x3)] [pv_i (nI (10 + 10 * n7)), pv_r (m + 1), pv_i (I (m + 1) ((10 + 10 * n6) + 4))] (mm_si B I) (qi_ (fun x M' => ∃ I', M' = mm_si B I' ∧ P x I'))
      refine go_iconst (v := (4 : Int32)) rfl dX11_theLane_33 ?_
      refine go_iadd dX11_theLane_34 ?_
      refine go_ialdN (j := ((10 + 10 * n7) + 4)) ⟨by decide, by decide, by decide⟩ (rf_k1 RK) (nI_ae rfl rfl) (by omega) dX11_theLane_35 ?_
      refine go_icmp_ge (tgt := 76) dX11_theLane_36 (by decide) (fun hc => ?_) (fun hc => ?_)
      · replace H := H.1 hc
        refine go_iincN (n := n6) (k := 1) hn6 (by decide) rfl rfl dX11_theLane_76 ?_
        show go_W mt_X11_theLane fr_R 79 [some (pv_r m), some (pv_i x1), some (pv_i x2), some (pv_i (nI (n6 + 1)))] [] (mm_si B I) (qi_ (fun x M' => ∃ I', M' = mm_si B I' ∧ P x I'))
        refine go_goto (tgt := 4) dX11_theLane_79 (by decide) ?_
        exact H
      · replace H := H.2 hc
        refine go_aload_n dX11_theLane_39 rfl ?_
        refine go_iload_n dX11_theLane_40 rfl ?_
        refine go_V (av := [pv_i x3]) (st := []) (ci := 11) ok_X11_isLive ⟨by decide, by decide⟩ ml_X11_109 rfl (by decide) (fun v hv => by simp only [List.mem_cons, List.not_mem_nil, or_false] at hv; rcases hv with rfl <;> first | exact pv_1i | exact pv_1r) (Nat.le_of_ble_eq_true rfl) (fun _ h => h) (by decide) rfl RK.1 dX11_theLane_41 H (fun r M' hq _ => ?_)
        obtain ⟨v9, rfl, I8, rfl, H⟩ := hq
        show go_W mt_X11_theLane fr_R 44 [some (pv_r m), some (pv_i x1), some (pv_i x2), some (pv_i x3)] [pv_i v9] (mm_si B I8) (qi_ (fun x M' => ∃ I', M' = mm_si B I' ∧ P x I'))
        refine go_if_ne (tgt := 50) dX11_theLane_44 (by decide) (fun hc => ?_) (fun hc => ?_)
        · replace H := H.1 hc
          refine go_iload_n dX11_theLane_50 rfl ?_
          refine go_if_eq (tgt := 74) dX11_theLane_51 (by decide) (fun hc => ?_) (fun hc => ?_)
          · replace H := H.1 hc
            refine go_iload_n dX11_theLane_74 rfl ?_
            refine go_istore_n (by decide) dX11_theLane_75 ?_
            show go_W mt_X11_theLane fr_R 76 [some (pv_r m), some (pv_i x1), some (pv_i x3), some (pv_i x3)] [] (mm_si B I8) (qi_ (fun x M' => ∃ I', M' = mm_si B I' ∧ P x I'))
            refine go_iincN (n := n6) (k := 1) hn6 (by decide) rfl rfl dX11_theLane_76 ?_
            show go_W mt_X11_theLane fr_R 79 [some (pv_r m), some (pv_i x1), some (pv_i x3), some (pv_i (nI (n6 + 1)))] [] (mm_si B I8) (qi_ (fun x M' => ∃ I', M' = mm_si B I' ∧ P x I'))
            refine go_goto (tgt := 4) dX11_theLane_79 (by decide) ?_
            exact H
          · replace H := H.2 hc
            refine go_aload_n dX11_theLane_54 rfl ?_
            refine go_iload_n dX11_theLane_55 rfl ?_
            refine go_iconst (v := (3 : Int32)) rfl dX11_theLane_56 ?_
            refine go_V (av := [pv_i x3, pv_i (3 : Int32)]) (st := []) (ci := 11) ok_X11_manyOf ⟨by decide, by decide⟩ ml_X11_112 rfl (by decide) (fun v hv => by simp only [List.mem_cons, List.not_mem_nil, or_false] at hv; rcases hv with rfl | rfl <;> first | exact pv_1i | exact pv_1r) (Nat.le_of_ble_eq_true rfl) (fun _ h => h) (by decide) rfl RK.1 dX11_theLane_57 H (fun r M' hq _ => ?_)
            obtain ⟨v11, rfl, I10, rfl, H⟩ := hq
            show go_W mt_X11_theLane fr_R 60 [some (pv_r m), some (pv_i x1), some (pv_i x2), some (pv_i x3)] [pv_i v11] (mm_si B I10) (qi_ (fun x M' => ∃ I', M' = mm_si B I' ∧ P x I'))
            refine go_aload_n dX11_theLane_60 rfl ?_
            refine go_getRe (k := 0) ⟨by decide, rfl, by decide, Or.inr ⟨_, rfl⟩⟩ RK.1 (rf_r1 RK) fl_X11_7 dX11_theLane_61 ?_
            refine go_iload_n dX11_theLane_64 rfl ?_
            refine go_St (av := [pv_i x3]) (st := [pv_r (m + 1), pv_i v11]) ok_X11_at ⟨by decide, by decide⟩ ml_X11_80 rfl (by decide) (fun v hv => by simp only [List.mem_cons, List.not_mem_nil, or_false] at hv; rcases hv with rfl <;> first | exact pv_1i | exact pv_1r) (Nat.le_of_ble_eq_true rfl) (fun _ h => h) dX11_theLane_65 (rx_at RK hn6) (fun r M' hq _ => ?_)
            obtain ⟨_, rfl, _, rfl, rfl, rfl⟩ := hq
            show go_W mt_X11_theLane fr_R 68 [some (pv_r m), some (pv_i x1), some (pv_i x2), some (pv_i x3)] [pv_i (nI (10 + 10 * n6)), pv_r (m + 1), pv_i v11] (mm_si B I10) (qi_ (fun x M' => ∃ I', M' = mm_si B I' ∧ P x I'))
            refine go_iconst (v := (2 : Int32)) rfl dX11_theLane_68 ?_
            refine go_iadd dX11_theLane_69 ?_
            refine go_ialdN (j := ((10 + 10 * n6) + 2)) ⟨by decide, by decide, by decide⟩ (rf_k1 RK) (nI_ae rfl rfl) (by omega) dX11_theLane_70 ?_
            refine go_icmp_ge (tgt := 76) dX11_theLane_71 (by decide) (fun hc => ?_) (fun hc => ?_)
            · replace H := H.1 hc
              refine go_iincN (n := n6) (k := 1) hn6 (by decide) rfl rfl dX11_theLane_76 ?_
              show go_W mt_X11_theLane fr_R 79 [some (pv_r m), some (pv_i x1), some (pv_i x2), some (pv_i (nI (n6 + 1)))] [] (mm_si B I10) (qi_ (fun x M' => ∃ I', M' = mm_si B I' ∧ P x I'))
              refine go_goto (tgt := 4) dX11_theLane_79 (by decide) ?_
              exact H
            · replace H := H.2 hc
              refine go_iload_n dX11_theLane_74 rfl ?_
              refine go_istore_n (by decide) dX11_theLane_75 ?_
              show go_W mt_X11_theLane fr_R 76 [some (pv_r m), some (pv_i x1), some (pv_i x3), some (pv_i x3)] [] (mm_si B I10) (qi_ (fun x M' => ∃ I', M' = mm_si B I' ∧ P x I'))
              refine go_iincN (n := n6) (k := 1) hn6 (by decide) rfl rfl dX11_theLane_76 ?_
              show go_W mt_X11_theLane fr_R 79 [some (pv_r m), some (pv_i x1), some (pv_i x3), some (pv_i (nI (n6 + 1)))] [] (mm_si B I10) (qi_ (fun x M' => ∃ I', M' = mm_si B I' ∧ P x I'))
              refine go_goto (tgt := 4) dX11_theLane_79 (by decide) ?_
              exact H
        · replace H := H.2 hc
          refine go_goto (tgt := 76) dX11_theLane_47 (by decide) ?_
          refine go_iincN (n := n6) (k := 1) hn6 (by decide) rfl rfl dX11_theLane_76 ?_
          show go_W mt_X11_theLane fr_R 79 [some (pv_r m), some (pv_i x1), some (pv_i x2), some (pv_i (nI (n6 + 1)))] [] (mm_si B I8) (qi_ (fun x M' => ∃ I', M' = mm_si B I' ∧ P x I'))
          refine go_goto (tgt := 4) dX11_theLane_79 (by decide) ?_
          exact H
set_option maxRecDepth 20000 in
theorem wq_X11_standsWith_0 {B : mm_T} {I : Nat → Nat → Int32} {m : Nat} (RK : rf_ok B m) {x1 : Int32} {P : Int32 → (Nat → Nat → Int32) → Prop} (H : rw_i mt_X11_standsWith 2 [some (pv_r m), some (pv_i x1), some (pv_i (0 : Int32))] [] B I P) : rw_i mt_X11_standsWith 0 [some (pv_r m), some (pv_i x1), none] [] B I P := by
  refine go_iconst (v := (0 : Int32)) rfl dX11_standsWith_0 ?_
  refine go_istore_n (by decide) dX11_standsWith_1 ?_
  show go_W mt_X11_standsWith fr_R 2 [some (pv_r m), some (pv_i x1), some (pv_i (0 : Int32))] [] (mm_si B I) (qi_ (fun x M' => ∃ I', M' = mm_si B I' ∧ P x I'))
  exact H
set_option maxRecDepth 20000 in
theorem wq_X11_standsWith_2 {B : mm_T} {I : Nat → Nat → Int32} {m : Nat} (RK : rf_ok B m) {x1 x2 : Int32} {P : Int32 → (Nat → Nat → Int32) → Prop} (H : (((I (m + 1) 1 ≤ x2) → P (-1 : Int32) I) ∧ ((¬ I (m + 1) 1 ≤ x2) → ∃ n1, (x2 = nI n1 ∧ n1 < 400) ∧ ((((¬ I (m + 1) (200 + 14 * n1 + 3) = x1) → rw_i mt_X11_standsWith 2 [some (pv_r m), some (pv_i x1), some (pv_i (nI (n1 + 1)))] [] B I P) ∧ ((I (m + 1) (200 + 14 * n1 + 3) = x1) → ((((I (m + 1) (200 + 14 * n1 + 6) ≤ 3)) → P x2 I) ∧ ((¬ (I (m + 1) (200 + 14 * n1 + 6) ≤ 3)) → rw_i mt_X11_standsWith 2 [some (pv_r m), some (pv_i x1), some (pv_i (nI (n1 + 1)))] [] B I P)))))))) : rw_i mt_X11_standsWith 2 [some (pv_r m), some (pv_i x1), some (pv_i x2)] [] B I P := by
  refine go_iload_n dX11_standsWith_2 rfl ?_
  refine go_aload_n dX11_standsWith_3 rfl ?_
  refine go_getRe (k := 0) ⟨by decide, rfl, by decide, Or.inr ⟨_, rfl⟩⟩ RK.1 (rf_r1 RK) fl_X11_7 dX11_standsWith_4 ?_
  refine go_iconst (v := (1 : Int32)) rfl dX11_standsWith_7 ?_
  refine go_ialdN (j := 1) ⟨by decide, by decide, by decide⟩ (rf_k1 RK) rfl (by decide) dX11_standsWith_8 ?_
  refine go_icmp_ge (tgt := 38) dX11_standsWith_9 (by decide) (fun hc => ?_) (fun hc => ?_)
  · replace H := H.1 hc
    refine go_iconst (v := (-1 : Int32)) rfl dX11_standsWith_38 ?_
    exact go_iret rfl rfl dX11_standsWith_39 ⟨_, rfl, _, rfl, H⟩
  · replace H := H.2 hc
    refine go_aload_n dX11_standsWith_12 rfl ?_
    refine go_iload_n dX11_standsWith_13 rfl ?_
    refine go_iconst (v := (3 : Int32)) rfl dX11_standsWith_14 ?_
    obtain ⟨n1, ⟨hn1, hn1b⟩, H⟩ := H
    refine go_V (av := [pv_i x2, pv_i (3 : Int32)]) (st := []) (ci := 11) ok_X11_of ⟨by decide, by decide⟩ ml_X11_94 rfl (by decide) (fun v hv => by simp only [List.mem_cons, List.not_mem_nil, or_false] at hv; rcases hv with rfl | rfl <;> first | exact pv_1i | exact pv_1r) (Nat.le_of_ble_eq_true rfl) (fun _ h => h) (by decide) rfl RK.1 dX11_standsWith_15 (rx_of RK hn1 rfl hn1b (by decide)) (fun r M' hq _ => ?_)
    obtain ⟨_, rfl, _, rfl, rfl, rfl⟩ := hq
    show go_W mt_X11_standsWith fr_R 18 [some (pv_r m), some (pv_i x1), some (pv_i x2)] [pv_i (I (m + 1) (200 + 14 * n1 + 3))] (mm_si B I) (qi_ (fun x M' => ∃ I', M' = mm_si B I' ∧ P x I'))
    refine go_iload_n dX11_standsWith_18 rfl ?_
    refine go_icmp_ne (tgt := 32) dX11_standsWith_19 (by decide) (fun hc => ?_) (fun hc => ?_)
    · replace H := H.1 hc
      refine go_iincN (n := n1) (k := 1) hn1 (by decide) rfl rfl dX11_standsWith_32 ?_
      show go_W mt_X11_standsWith fr_R 35 [some (pv_r m), some (pv_i x1), some (pv_i (nI (n1 + 1)))] [] (mm_si B I) (qi_ (fun x M' => ∃ I', M' = mm_si B I' ∧ P x I'))
      refine go_goto (tgt := 2) dX11_standsWith_35 (by decide) ?_
      exact H
    · replace H := H.2 hc
      refine go_aload_n dX11_standsWith_22 rfl ?_
      refine go_iload_n dX11_standsWith_23 rfl ?_
      by_cases hc : (I (m + 1) (200 + 14 * n1 + 6) ≤ 3)
      · replace H := H.1 hc
        refine go_V (av := [pv_i x2]) (st := []) (ci := 11) ok_X11_stands ⟨by decide, by decide⟩ ml_X11_98 rfl (by decide) (fun v hv => by simp only [List.mem_cons, List.not_mem_nil, or_false] at hv; rcases hv with rfl <;> first | exact pv_1i | exact pv_1r) (Nat.le_of_ble_eq_true rfl) (fun _ h => h) (by decide) rfl RK.1 dX11_standsWith_24 (rx_stands_t RK hn1 (by omega) hc) (fun r M' hq _ => ?_)
        obtain ⟨_, rfl, _, rfl, rfl, rfl⟩ := hq
        show go_W mt_X11_standsWith fr_R 27 [some (pv_r m), some (pv_i x1), some (pv_i x2)] [pv_i (1 : Int32)] (mm_si B I) (qi_ (fun x M' => ∃ I', M' = mm_si B I' ∧ P x I'))
        refine go_if_eq (tgt := 32) dX11_standsWith_27 (by decide) (fun hc => absurd hc (by decide)) (fun _ => ?_)
        refine go_iload_n dX11_standsWith_30 rfl ?_
        exact go_iret rfl rfl dX11_standsWith_31 ⟨_, rfl, _, rfl, H⟩
      · replace H := H.2 hc
        refine go_V (av := [pv_i x2]) (st := []) (ci := 11) ok_X11_stands ⟨by decide, by decide⟩ ml_X11_98 rfl (by decide) (fun v hv => by simp only [List.mem_cons, List.not_mem_nil, or_false] at hv; rcases hv with rfl <;> first | exact pv_1i | exact pv_1r) (Nat.le_of_ble_eq_true rfl) (fun _ h => h) (by decide) rfl RK.1 dX11_standsWith_24 (rx_stands_f RK hn1 (by omega) hc) (fun r M' hq _ => ?_)
        obtain ⟨_, rfl, _, rfl, rfl, rfl⟩ := hq
        show go_W mt_X11_standsWith fr_R 27 [some (pv_r m), some (pv_i x1), some (pv_i x2)] [pv_i (0 : Int32)] (mm_si B I) (qi_ (fun x M' => ∃ I', M' = mm_si B I' ∧ P x I'))
        refine go_if_eq (tgt := 32) dX11_standsWith_27 (by decide) (fun _ => ?_) (fun hc => absurd hc (by decide))
        refine go_iincN (n := n1) (k := 1) hn1 (by decide) rfl rfl dX11_standsWith_32 ?_
        show go_W mt_X11_standsWith fr_R 35 [some (pv_r m), some (pv_i x1), some (pv_i (nI (n1 + 1)))] [] (mm_si B I) (qi_ (fun x M' => ∃ I', M' = mm_si B I' ∧ P x I'))
        refine go_goto (tgt := 2) dX11_standsWith_35 (by decide) ?_
        exact H
set_option maxRecDepth 20000 in
theorem wq_X11_hasRoom_0 {B : mm_T} {I : Nat → Nat → Int32} {m : Nat} (RK : rf_ok B m) {x1 : Int32} {P : Int32 → (Nat → Nat → Int32) → Prop} (H : rs_i mt_X11_standing [pv_r m, pv_i x1] B I (fun v2 I1 => ∃ n3, (x1 = nI n3 ∧ n3 < 5) ∧ ((((I1 (m + 1) ((10 + 10 * n3) + 1) ≤ v2) → P (0 : Int32) I1) ∧ ((¬ I1 (m + 1) ((10 + 10 * n3) + 1) ≤ v2) → P (1 : Int32) I1))))) : rw_i mt_X11_hasRoom 0 [some (pv_r m), some (pv_i x1)] [] B I P := by
  refine go_aload_n dX11_hasRoom_0 rfl ?_
  refine go_iload_n dX11_hasRoom_1 rfl ?_
  refine go_V (av := [pv_i x1]) (st := []) (ci := 11) ok_X11_standing ⟨by decide, by decide⟩ ml_X11_115 rfl (by decide) (fun v hv => by simp only [List.mem_cons, List.not_mem_nil, or_false] at hv; rcases hv with rfl <;> first | exact pv_1i | exact pv_1r) (Nat.le_of_ble_eq_true rfl) (fun _ h => h) (by decide) rfl RK.1 dX11_hasRoom_2 H (fun r M' hq _ => ?_)
  obtain ⟨v2, rfl, I1, rfl, H⟩ := hq
  show go_W mt_X11_hasRoom fr_R 5 [some (pv_r m), some (pv_i x1)] [pv_i v2] (mm_si B I1) (qi_ (fun x M' => ∃ I', M' = mm_si B I' ∧ P x I'))
  refine go_aload_n dX11_hasRoom_5 rfl ?_
  refine go_getRe (k := 0) ⟨by decide, rfl, by decide, Or.inr ⟨_, rfl⟩⟩ RK.1 (rf_r1 RK) fl_X11_7 dX11_hasRoom_6 ?_
  refine go_iload_n dX11_hasRoom_9 rfl ?_
  obtain ⟨n3, ⟨hn3, hn3b⟩, H⟩ := H
  refine go_St (av := [pv_i x1]) (st := [pv_r (m + 1), pv_i v2]) ok_X11_at ⟨by decide, by decide⟩ ml_X11_80 rfl (by decide) (fun v hv => by simp only [List.mem_cons, List.not_mem_nil, or_false] at hv; rcases hv with rfl <;> first | exact pv_1i | exact pv_1r) (Nat.le_of_ble_eq_true rfl) (fun _ h => h) dX11_hasRoom_10 (rx_at RK hn3) (fun r M' hq _ => ?_)
  obtain ⟨_, rfl, _, rfl, rfl, rfl⟩ := hq
  show go_W mt_X11_hasRoom fr_R 13 [some (pv_r m), some (pv_i x1)] [pv_i (nI (10 + 10 * n3)), pv_r (m + 1), pv_i v2] (mm_si B I1) (qi_ (fun x M' => ∃ I', M' = mm_si B I' ∧ P x I'))
  refine go_iconst (v := (1 : Int32)) rfl dX11_hasRoom_13 ?_
  refine go_iadd dX11_hasRoom_14 ?_
  refine go_ialdN (j := ((10 + 10 * n3) + 1)) ⟨by decide, by decide, by decide⟩ (rf_k1 RK) (nI_ae rfl rfl) (by omega) dX11_hasRoom_15 ?_
  refine go_icmp_ge (tgt := 23) dX11_hasRoom_16 (by decide) (fun hc => ?_) (fun hc => ?_)
  · replace H := H.1 hc
    refine go_iconst (v := (0 : Int32)) rfl dX11_hasRoom_23 ?_
    exact go_iret rfl rfl dX11_hasRoom_24 ⟨_, rfl, _, rfl, H⟩
  · replace H := H.2 hc
    refine go_iconst (v := (1 : Int32)) rfl dX11_hasRoom_19 ?_
    refine go_goto (tgt := 24) dX11_hasRoom_20 (by decide) ?_
    exact go_iret rfl rfl dX11_hasRoom_24 ⟨_, rfl, _, rfl, H⟩
set_option maxRecDepth 20000 in
theorem wq_X11_isBanned_0 {B : mm_T} {I : Nat → Nat → Int32} {m : Nat} (RK : rf_ok B m) {x1 : Int32} {P : Int32 → (Nat → Nat → Int32) → Prop} (H : ∃ n1, (x1 = nI n1 ∧ n1 < 10000) ∧ ((((I (m + 3) n1 < I (m + 1) 9) → P (0 : Int32) I) ∧ ((¬ I (m + 3) n1 < I (m + 1) 9) → P (1 : Int32) I)))) : rw_i mt_X11_isBanned 0 [some (pv_r m), some (pv_i x1)] [] B I P := by
  refine go_aload_n dX11_isBanned_0 rfl ?_
  refine go_getRe (k := 2) ⟨by decide, rfl, by decide, Or.inr ⟨_, rfl⟩⟩ RK.1 (rf_r3 RK) fl_X11_16 dX11_isBanned_1 ?_
  refine go_iload_n dX11_isBanned_4 rfl ?_
  obtain ⟨n1, ⟨hn1, hn1b⟩, H⟩ := H
  refine go_ialdN (j := n1) ⟨by decide, by decide, by decide⟩ (rf_k3 RK) hn1 hn1b dX11_isBanned_5 ?_
  refine go_aload_n dX11_isBanned_6 rfl ?_
  refine go_getRe (k := 0) ⟨by decide, rfl, by decide, Or.inr ⟨_, rfl⟩⟩ RK.1 (rf_r1 RK) fl_X11_7 dX11_isBanned_7 ?_
  refine go_bipush (v := (9 : Int32)) rfl dX11_isBanned_10 ?_
  refine go_ialdN (j := 9) ⟨by decide, by decide, by decide⟩ (rf_k1 RK) rfl (by decide) dX11_isBanned_12 ?_
  refine go_icmp_lt (tgt := 20) dX11_isBanned_13 (by decide) (fun hc => ?_) (fun hc => ?_)
  · replace H := H.1 hc
    refine go_iconst (v := (0 : Int32)) rfl dX11_isBanned_20 ?_
    exact go_iret rfl rfl dX11_isBanned_21 ⟨_, rfl, _, rfl, H⟩
  · replace H := H.2 hc
    refine go_iconst (v := (1 : Int32)) rfl dX11_isBanned_16 ?_
    refine go_goto (tgt := 21) dX11_isBanned_17 (by decide) ?_
    exact go_iret rfl rfl dX11_isBanned_21 ⟨_, rfl, _, rfl, H⟩
set_option maxRecDepth 20000 in
theorem wq_X11_waitsNow_0 {B : mm_T} {I : Nat → Nat → Int32} {m : Nat} (RK : rf_ok B m) {x1 : Int32} {P : (Nat → Nat → Int32) → Prop} (H : ∃ n1, (x1 = nI n1 ∧ n1 < 400) ∧ (rs_i mt_X11_isLive [pv_r m, pv_i (I (m + 1) (200 + 14 * n1 + 0))] B I (fun v3 I2 => rw_v mt_X11_waitsNow 19 [some (pv_r m), some (pv_i x1), some (pv_i (I (m + 1) (200 + 14 * n1 + 0))), some (pv_i (-1 : Int32)), some (pv_i v3), some (pv_i (0 : Int32))] [] B I2 P))) : rw_v mt_X11_waitsNow 0 [some (pv_r m), some (pv_i x1), none, none, none, none] [] B I P := by
  refine go_aload_n dX11_waitsNow_0 rfl ?_
  refine go_iload_n dX11_waitsNow_1 rfl ?_
  refine go_iconst (v := (0 : Int32)) rfl dX11_waitsNow_2 ?_
  obtain ⟨n1, ⟨hn1, hn1b⟩, H⟩ := H
  refine go_V (av := [pv_i x1, pv_i (0 : Int32)]) (st := []) (ci := 11) ok_X11_of ⟨by decide, by decide⟩ ml_X11_94 rfl (by decide) (fun v hv => by simp only [List.mem_cons, List.not_mem_nil, or_false] at hv; rcases hv with rfl | rfl <;> first | exact pv_1i | exact pv_1r) (Nat.le_of_ble_eq_true rfl) (fun _ h => h) (by decide) rfl RK.1 dX11_waitsNow_3 (rx_of RK hn1 rfl hn1b (by decide)) (fun r M' hq _ => ?_)
  obtain ⟨_, rfl, _, rfl, rfl, rfl⟩ := hq
  show go_W mt_X11_waitsNow fr_R 6 [some (pv_r m), some (pv_i x1), none, none, none, none] [pv_i (I (m + 1) (200 + 14 * n1 + 0))] (mm_si B I) (qv_ (fun M' => ∃ I', M' = mm_si B I' ∧ P I'))
  refine go_istore_n (by decide) dX11_waitsNow_6 ?_
  show go_W mt_X11_waitsNow fr_R 7 [some (pv_r m), some (pv_i x1), some (pv_i (I (m + 1) (200 + 14 * n1 + 0))), none, none, none] [] (mm_si B I) (qv_ (fun M' => ∃ I', M' = mm_si B I' ∧ P I'))
  refine go_iconst (v := (-1 : Int32)) rfl dX11_waitsNow_7 ?_
  refine go_istore_n (by decide) dX11_waitsNow_8 ?_
  show go_W mt_X11_waitsNow fr_R 9 [some (pv_r m), some (pv_i x1), some (pv_i (I (m + 1) (200 + 14 * n1 + 0))), some (pv_i (-1 : Int32)), none, none] [] (mm_si B I) (qv_ (fun M' => ∃ I', M' = mm_si B I' ∧ P I'))
  refine go_aload_n dX11_waitsNow_9 rfl ?_
  refine go_iload_n dX11_waitsNow_10 rfl ?_
  refine go_V (av := [pv_i (I (m + 1) (200 + 14 * n1 + 0))]) (st := []) (ci := 11) ok_X11_isLive ⟨by decide, by decide⟩ ml_X11_109 rfl (by decide) (fun v hv => by simp only [List.mem_cons, List.not_mem_nil, or_false] at hv; rcases hv with rfl <;> first | exact pv_1i | exact pv_1r) (Nat.le_of_ble_eq_true rfl) (fun _ h => h) (by decide) rfl RK.1 dX11_waitsNow_11 H (fun r M' hq _ => ?_)
  obtain ⟨v3, rfl, I2, rfl, H⟩ := hq
  show go_W mt_X11_waitsNow fr_R 14 [some (pv_r m), some (pv_i x1), some (pv_i (I (m + 1) (200 + 14 * n1 + 0))), some (pv_i (-1 : Int32)), none, none] [pv_i v3] (mm_si B I2) (qv_ (fun M' => ∃ I', M' = mm_si B I' ∧ P I'))
  refine go_istore (by decide) dX11_waitsNow_14 ?_
  show go_W mt_X11_waitsNow fr_R 16 [some (pv_r m), some (pv_i x1), some (pv_i (I (m + 1) (200 + 14 * n1 + 0))), some (pv_i (-1 : Int32)), some (pv_i v3), none] [] (mm_si B I2) (qv_ (fun M' => ∃ I', M' = mm_si B I' ∧ P I'))
  refine go_iconst (v := (0 : Int32)) rfl dX11_waitsNow_16 ?_
  refine go_istore (by decide) dX11_waitsNow_17 ?_
  show go_W mt_X11_waitsNow fr_R 19 [some (pv_r m), some (pv_i x1), some (pv_i (I (m + 1) (200 + 14 * n1 + 0))), some (pv_i (-1 : Int32)), some (pv_i v3), some (pv_i (0 : Int32))] [] (mm_si B I2) (qv_ (fun M' => ∃ I', M' = mm_si B I' ∧ P I'))
  exact H
set_option maxRecDepth 20000 in
theorem wq_X11_waitsNow_19 {B : mm_T} {I : Nat → Nat → Int32} {m : Nat} (RK : rf_ok B m) {x1 x2 x3 x4 x5 : Int32} {P : (Nat → Nat → Int32) → Prop} (H : ((((5 : Int32) ≤ x5) → (((¬ x4 = 0) → ∃ n1, (x1 = nI n1 ∧ n1 < 400) ∧ (∀ I2, I2 = i2_u I (m + 1) (200 + 14 * n1 + 6) (0 : Int32) → P I2)) ∧ ((x4 = 0) → ∃ n3, (x2 = nI n3 ∧ n3 < 5) ∧ (∀ I4, I4 = i2_u I (m + 1) ((10 + 10 * n3) + 4) (if I (m + 1) ((10 + 10 * n3) + 4) ≤ x3 then x3 else I (m + 1) ((10 + 10 * n3) + 4)) → ∃ n5, (x1 = nI n5 ∧ n5 < 400) ∧ (∀ I6, I6 = i2_u I4 (m + 1) (200 + 14 * n5 + 6) (0 : Int32) → P I6))))) ∧ ((¬ (5 : Int32) ≤ x5) → (((¬ x4 = 0) → (((¬ x4 = 0) → ∃ n7, (x1 = nI n7 ∧ n7 < 400) ∧ (∀ I8, I8 = i2_u I (m + 1) (200 + 14 * n7 + 6) (0 : Int32) → P I8)) ∧ ((x4 = 0) → ∃ n9, (x2 = nI n9 ∧ n9 < 5) ∧ (∀ I10, I10 = i2_u I (m + 1) ((10 + 10 * n9) + 4) (if I (m + 1) ((10 + 10 * n9) + 4) ≤ x3 then x3 else I (m + 1) ((10 + 10 * n9) + 4)) → ∃ n11, (x1 = nI n11 ∧ n11 < 400) ∧ (∀ I12, I12 = i2_u I10 (m + 1) (200 + 14 * n11 + 6) (0 : Int32) → P I12))))) ∧ ((x4 = 0) → rs_i mt_X11_isLive [pv_r m, pv_i x5] B I (fun v14 I13 => (((v14 = 0) → rw_v mt_X11_waitsNow 19 [some (pv_r m), some (pv_i x1), some (pv_i x2), some (pv_i x3), some (pv_i x4), some (pv_i (x5 + (1 : Int32)))] [] B I13 P) ∧ ((¬ v14 = 0) → (((x3 = (-1 : Int32)) → ∃ n15, (x5 = nI n15 ∧ n15 < 5) ∧ (rw_v mt_X11_waitsNow 19 [some (pv_r m), some (pv_i x1), some (pv_i x2), some (pv_i (I13 (m + 1) ((10 + 10 * n15) + 4))), some (pv_i x4), some (pv_i (nI (n15 + 1)))] [] B I13 P)) ∧ ((¬ x3 = (-1 : Int32)) → ∃ n16, (x5 = nI n16 ∧ n16 < 5) ∧ ((((x3 ≤ I13 (m + 1) ((10 + 10 * n16) + 4)) → rw_v mt_X11_waitsNow 19 [some (pv_r m), some (pv_i x1), some (pv_i x2), some (pv_i x3), some (pv_i x4), some (pv_i (nI (n16 + 1)))] [] B I13 P) ∧ ((¬ x3 ≤ I13 (m + 1) ((10 + 10 * n16) + 4)) → rw_v mt_X11_waitsNow 19 [some (pv_r m), some (pv_i x1), some (pv_i x2), some (pv_i (I13 (m + 1) ((10 + 10 * n16) + 4))), some (pv_i x4), some (pv_i (nI (n16 + 1)))] [] B I13 P))))))))))))) : rw_v mt_X11_waitsNow 19 [some (pv_r m), some (pv_i x1), some (pv_i x2), some (pv_i x3), some (pv_i x4), some (pv_i x5)] [] B I P := by
  refine go_iload dX11_waitsNow_19 rfl ?_
  refine go_iconst (v := (5 : Int32)) rfl dX11_waitsNow_21 ?_
  refine go_icmp_ge (tgt := 79) dX11_waitsNow_22 (by decide) (fun hc => ?_) (fun hc => ?_)
  · replace H := H.1 hc
    refine go_iload dX11_waitsNow_79 rfl ?_
    refine go_if_ne (tgt := 110) dX11_waitsNow_81 (by decide) (fun hc => ?_) (fun hc => ?_)
    · replace H := H.1 hc
      refine go_aload_n dX11_waitsNow_110 rfl ?_
      refine go_iload_n dX11_waitsNow_111 rfl ?_
      refine go_bipush (v := (6 : Int32)) rfl dX11_waitsNow_112 ?_
      refine go_iconst (v := (0 : Int32)) rfl dX11_waitsNow_114 ?_
      obtain ⟨n1, ⟨hn1, hn1b⟩, H⟩ := H
      refine go_V (av := [pv_i x1, pv_i (6 : Int32), pv_i (0 : Int32)]) (st := []) (ci := 11) ok_X11_is ⟨by decide, by decide⟩ ml_X11_121 rfl (by decide) (fun v hv => by simp only [List.mem_cons, List.not_mem_nil, or_false] at hv; rcases hv with rfl | rfl | rfl <;> first | exact pv_1i | exact pv_1r) (Nat.le_of_ble_eq_true rfl) (fun _ h => h) (by decide) rfl RK.1 dX11_waitsNow_115 (rx_is RK hn1 rfl hn1b (by decide)) (fun r M' hq _ => ?_)
      obtain ⟨rfl, _, rfl, rfl⟩ := hq
      show go_W mt_X11_waitsNow fr_R 118 [some (pv_r m), some (pv_i x1), some (pv_i x2), some (pv_i x3), some (pv_i x4), some (pv_i x5)] [] (mm_si B (i2_u I (m + 1) (200 + 14 * n1 + 6) (0 : Int32))) (qv_ (fun M' => ∃ I', M' = mm_si B I' ∧ P I'))
      obtain ⟨I2, hI2⟩ : ∃ I', I' = i2_u I (m + 1) (200 + 14 * n1 + 6) (0 : Int32) := ⟨_, rfl⟩
      rw [← hI2]
      replace H := H I2 hI2
      exact go_vret rfl dX11_waitsNow_118 ⟨rfl, _, rfl, H⟩
    · replace H := H.2 hc
      refine go_aload_n dX11_waitsNow_84 rfl ?_
      refine go_getRe (k := 0) ⟨by decide, rfl, by decide, Or.inr ⟨_, rfl⟩⟩ RK.1 (rf_r1 RK) fl_X11_7 dX11_waitsNow_85 ?_
      refine go_iload_n dX11_waitsNow_88 rfl ?_
      obtain ⟨n3, ⟨hn3, hn3b⟩, H⟩ := H
      refine go_St (av := [pv_i x2]) (st := [pv_r (m + 1)]) ok_X11_at ⟨by decide, by decide⟩ ml_X11_80 rfl (by decide) (fun v hv => by simp only [List.mem_cons, List.not_mem_nil, or_false] at hv; rcases hv with rfl <;> first | exact pv_1i | exact pv_1r) (Nat.le_of_ble_eq_true rfl) (fun _ h => h) dX11_waitsNow_89 (rx_at RK hn3) (fun r M' hq _ => ?_)
      obtain ⟨_, rfl, _, rfl, rfl, rfl⟩ := hq
      show go_W mt_X11_waitsNow fr_R 92 [some (pv_r m), some (pv_i x1), some (pv_i x2), some (pv_i x3), some (pv_i x4), some (pv_i x5)] [pv_i (nI (10 + 10 * n3)), pv_r (m + 1)] (mm_si B I) (qv_ (fun M' => ∃ I', M' = mm_si B I' ∧ P I'))
      refine go_iconst (v := (4 : Int32)) rfl dX11_waitsNow_92 ?_
      refine go_iadd dX11_waitsNow_93 ?_
      refine go_aload_n dX11_waitsNow_94 rfl ?_
      refine go_getRe (k := 0) ⟨by decide, rfl, by decide, Or.inr ⟨_, rfl⟩⟩ RK.1 (rf_r1 RK) fl_X11_7 dX11_waitsNow_95 ?_
      refine go_iload_n dX11_waitsNow_98 rfl ?_
      refine go_St (av := [pv_i x2]) (st := [pv_r (m + 1), pv_i ((nI (10 + 10 * n3)) + (4 : Int32)), pv_r (m + 1)]) ok_X11_at ⟨by decide, by decide⟩ ml_X11_80 rfl (by decide) (fun v hv => by simp only [List.mem_cons, List.not_mem_nil, or_false] at hv; rcases hv with rfl <;> first | exact pv_1i | exact pv_1r) (Nat.le_of_ble_eq_true rfl) (fun _ h => h) dX11_waitsNow_99 (rx_at RK hn3) (fun r M' hq _ => ?_)
      obtain ⟨_, rfl, _, rfl, rfl, rfl⟩ := hq
      show go_W mt_X11_waitsNow fr_R 102 [some (pv_r m), some (pv_i x1), some (pv_i x2), some (pv_i x3), some (pv_i x4), some (pv_i x5)] [pv_i (nI (10 + 10 * n3)), pv_r (m + 1), pv_i ((nI (10 + 10 * n3)) + (4 : Int32)), pv_r (m + 1)] (mm_si B I) (qv_ (fun M' => ∃ I', M' = mm_si B I' ∧ P I'))
      refine go_iconst (v := (4 : Int32)) rfl dX11_waitsNow_102 ?_
      refine go_iadd dX11_waitsNow_103 ?_
      refine go_ialdN (j := ((10 + 10 * n3) + 4)) ⟨by decide, by decide, by decide⟩ (rf_k1 RK) (nI_ae rfl rfl) (by omega) dX11_waitsNow_104 ?_
      refine go_iload_n dX11_waitsNow_105 rfl ?_
      refine go_St (av := [pv_i (I (m + 1) ((10 + 10 * n3) + 4)), pv_i x3]) (st := [pv_i ((nI (10 + 10 * n3)) + (4 : Int32)), pv_r (m + 1)]) ok_X11_greater ⟨by decide, by decide⟩ ml_X11_118 rfl (by decide) (fun v hv => by simp only [List.mem_cons, List.not_mem_nil, or_false] at hv; rcases hv with rfl | rfl <;> first | exact pv_1i | exact pv_1r) (Nat.le_of_ble_eq_true rfl) (fun _ h => h) dX11_waitsNow_106 (rx_greater RK) (fun r M' hq _ => ?_)
      obtain ⟨_, rfl, _, rfl, rfl, rfl⟩ := hq
      show go_W mt_X11_waitsNow fr_R 109 [some (pv_r m), some (pv_i x1), some (pv_i x2), some (pv_i x3), some (pv_i x4), some (pv_i x5)] [pv_i (if I (m + 1) ((10 + 10 * n3) + 4) ≤ x3 then x3 else I (m + 1) ((10 + 10 * n3) + 4)), pv_i ((nI (10 + 10 * n3)) + (4 : Int32)), pv_r (m + 1)] (mm_si B I) (qv_ (fun M' => ∃ I', M' = mm_si B I' ∧ P I'))
      refine go_iastN (j := ((10 + 10 * n3) + 4)) ⟨by decide, by decide, by decide⟩ (rf_k1 RK) rfl (nI_ae rfl rfl) (by omega) dX11_waitsNow_109 ?_
      show go_W mt_X11_waitsNow fr_R 110 [some (pv_r m), some (pv_i x1), some (pv_i x2), some (pv_i x3), some (pv_i x4), some (pv_i x5)] [] (mm_si B (i2_u I (m + 1) ((10 + 10 * n3) + 4) (if I (m + 1) ((10 + 10 * n3) + 4) ≤ x3 then x3 else I (m + 1) ((10 + 10 * n3) + 4)))) (qv_ (fun M' => ∃ I', M' = mm_si B I' ∧ P I'))
      obtain ⟨I4, hI4⟩ : ∃ I', I' = i2_u I (m + 1) ((10 + 10 * n3) + 4) (if I (m + 1) ((10 + 10 * n3) + 4) ≤ x3 then x3 else I (m + 1) ((10 + 10 * n3) + 4)) := ⟨_, rfl⟩
      rw [← hI4]
      replace H := H I4 hI4
      refine go_aload_n dX11_waitsNow_110 rfl ?_
      refine go_iload_n dX11_waitsNow_111 rfl ?_
      refine go_bipush (v := (6 : Int32)) rfl dX11_waitsNow_112 ?_
      refine go_iconst (v := (0 : Int32)) rfl dX11_waitsNow_114 ?_
      obtain ⟨n5, ⟨hn5, hn5b⟩, H⟩ := H
      refine go_V (av := [pv_i x1, pv_i (6 : Int32), pv_i (0 : Int32)]) (st := []) (ci := 11) ok_X11_is ⟨by decide, by decide⟩ ml_X11_121 rfl (by decide) (fun v hv => by simp only [List.mem_cons, List.not_mem_nil, or_false] at hv; rcases hv with rfl | rfl | rfl <;> first | exact pv_1i | exact pv_1r) (Nat.le_of_ble_eq_true rfl) (fun _ h => h) (by decide) rfl RK.1 dX11_waitsNow_115 (rx_is RK hn5 rfl hn5b (by decide)) (fun r M' hq _ => ?_)
      obtain ⟨rfl, _, rfl, rfl⟩ := hq
      show go_W mt_X11_waitsNow fr_R 118 [some (pv_r m), some (pv_i x1), some (pv_i x2), some (pv_i x3), some (pv_i x4), some (pv_i x5)] [] (mm_si B (i2_u I4 (m + 1) (200 + 14 * n5 + 6) (0 : Int32))) (qv_ (fun M' => ∃ I', M' = mm_si B I' ∧ P I'))
      obtain ⟨I6, hI6⟩ : ∃ I', I' = i2_u I4 (m + 1) (200 + 14 * n5 + 6) (0 : Int32) := ⟨_, rfl⟩
      rw [← hI6]
      replace H := H I6 hI6
      exact go_vret rfl dX11_waitsNow_118 ⟨rfl, _, rfl, H⟩
  · replace H := H.2 hc
    refine go_iload dX11_waitsNow_25 rfl ?_
    refine go_if_ne (tgt := 79) dX11_waitsNow_27 (by decide) (fun hc => ?_) (fun hc => ?_)
    · replace H := H.1 hc
      refine go_iload dX11_waitsNow_79 rfl ?_
      refine go_if_ne (tgt := 110) dX11_waitsNow_81 (by decide) (fun hc => ?_) (fun hc => ?_)
      · replace H := H.1 hc
        refine go_aload_n dX11_waitsNow_110 rfl ?_
        refine go_iload_n dX11_waitsNow_111 rfl ?_
        refine go_bipush (v := (6 : Int32)) rfl dX11_waitsNow_112 ?_
        refine go_iconst (v := (0 : Int32)) rfl dX11_waitsNow_114 ?_
        obtain ⟨n7, ⟨hn7, hn7b⟩, H⟩ := H
        refine go_V (av := [pv_i x1, pv_i (6 : Int32), pv_i (0 : Int32)]) (st := []) (ci := 11) ok_X11_is ⟨by decide, by decide⟩ ml_X11_121 rfl (by decide) (fun v hv => by simp only [List.mem_cons, List.not_mem_nil, or_false] at hv; rcases hv with rfl | rfl | rfl <;> first | exact pv_1i | exact pv_1r) (Nat.le_of_ble_eq_true rfl) (fun _ h => h) (by decide) rfl RK.1 dX11_waitsNow_115 (rx_is RK hn7 rfl hn7b (by decide)) (fun r M' hq _ => ?_)
        obtain ⟨rfl, _, rfl, rfl⟩ := hq
        show go_W mt_X11_waitsNow fr_R 118 [some (pv_r m), some (pv_i x1), some (pv_i x2), some (pv_i x3), some (pv_i x4), some (pv_i x5)] [] (mm_si B (i2_u I (m + 1) (200 + 14 * n7 + 6) (0 : Int32))) (qv_ (fun M' => ∃ I', M' = mm_si B I' ∧ P I'))
        obtain ⟨I8, hI8⟩ : ∃ I', I' = i2_u I (m + 1) (200 + 14 * n7 + 6) (0 : Int32) := ⟨_, rfl⟩
        rw [← hI8]
        replace H := H I8 hI8
        exact go_vret rfl dX11_waitsNow_118 ⟨rfl, _, rfl, H⟩
      · replace H := H.2 hc
        refine go_aload_n dX11_waitsNow_84 rfl ?_
        refine go_getRe (k := 0) ⟨by decide, rfl, by decide, Or.inr ⟨_, rfl⟩⟩ RK.1 (rf_r1 RK) fl_X11_7 dX11_waitsNow_85 ?_
        refine go_iload_n dX11_waitsNow_88 rfl ?_
        obtain ⟨n9, ⟨hn9, hn9b⟩, H⟩ := H
        refine go_St (av := [pv_i x2]) (st := [pv_r (m + 1)]) ok_X11_at ⟨by decide, by decide⟩ ml_X11_80 rfl (by decide) (fun v hv => by simp only [List.mem_cons, List.not_mem_nil, or_false] at hv; rcases hv with rfl <;> first | exact pv_1i | exact pv_1r) (Nat.le_of_ble_eq_true rfl) (fun _ h => h) dX11_waitsNow_89 (rx_at RK hn9) (fun r M' hq _ => ?_)
        obtain ⟨_, rfl, _, rfl, rfl, rfl⟩ := hq
        show go_W mt_X11_waitsNow fr_R 92 [some (pv_r m), some (pv_i x1), some (pv_i x2), some (pv_i x3), some (pv_i x4), some (pv_i x5)] [pv_i (nI (10 + 10 * n9)), pv_r (m + 1)] (mm_si B I) (qv_ (fun M' => ∃ I', M' = mm_si B I' ∧ P I'))
        refine go_iconst (v := (4 : Int32)) rfl dX11_waitsNow_92 ?_
        refine go_iadd dX11_waitsNow_93 ?_
        refine go_aload_n dX11_waitsNow_94 rfl ?_
        refine go_getRe (k := 0) ⟨by decide, rfl, by decide, Or.inr ⟨_, rfl⟩⟩ RK.1 (rf_r1 RK) fl_X11_7 dX11_waitsNow_95 ?_
        refine go_iload_n dX11_waitsNow_98 rfl ?_
        refine go_St (av := [pv_i x2]) (st := [pv_r (m + 1), pv_i ((nI (10 + 10 * n9)) + (4 : Int32)), pv_r (m + 1)]) ok_X11_at ⟨by decide, by decide⟩ ml_X11_80 rfl (by decide) (fun v hv => by simp only [List.mem_cons, List.not_mem_nil, or_false] at hv; rcases hv with rfl <;> first | exact pv_1i | exact pv_1r) (Nat.le_of_ble_eq_true rfl) (fun _ h => h) dX11_waitsNow_99 (rx_at RK hn9) (fun r M' hq _ => ?_)
        obtain ⟨_, rfl, _, rfl, rfl, rfl⟩ := hq
        show go_W mt_X11_waitsNow fr_R 102 [some (pv_r m), some (pv_i x1), some (pv_i x2), some (pv_i x3), some (pv_i x4), some (pv_i x5)] [pv_i (nI (10 + 10 * n9)), pv_r (m + 1), pv_i ((nI (10 + 10 * n9)) + (4 : Int32)), pv_r (m + 1)] (mm_si B I) (qv_ (fun M' => ∃ I', M' = mm_si B I' ∧ P I'))
        refine go_iconst (v := (4 : Int32)) rfl dX11_waitsNow_102 ?_
        refine go_iadd dX11_waitsNow_103 ?_
        refine go_ialdN (j := ((10 + 10 * n9) + 4)) ⟨by decide, by decide, by decide⟩ (rf_k1 RK) (nI_ae rfl rfl) (by omega) dX11_waitsNow_104 ?_
        refine go_iload_n dX11_waitsNow_105 rfl ?_
        refine go_St (av := [pv_i (I (m + 1) ((10 + 10 * n9) + 4)), pv_i x3]) (st := [pv_i ((nI (10 + 10 * n9)) + (4 : Int32)), pv_r (m + 1)]) ok_X11_greater ⟨by decide, by decide⟩ ml_X11_118 rfl (by decide) (fun v hv => by simp only [List.mem_cons, List.not_mem_nil, or_false] at hv; rcases hv with rfl | rfl <;> first | exact pv_1i | exact pv_1r) (Nat.le_of_ble_eq_true rfl) (fun _ h => h) dX11_waitsNow_106 (rx_greater RK) (fun r M' hq _ => ?_)
        obtain ⟨_, rfl, _, rfl, rfl, rfl⟩ := hq
        show go_W mt_X11_waitsNow fr_R 109 [some (pv_r m), some (pv_i x1), some (pv_i x2), some (pv_i x3), some (pv_i x4), some (pv_i x5)] [pv_i (if I (m + 1) ((10 + 10 * n9) + 4) ≤ x3 then x3 else I (m + 1) ((10 + 10 * n9) + 4)), pv_i ((nI (10 + 10 * n9)) + (4 : Int32)), pv_r (m + 1)] (mm_si B I) (qv_ (fun M' => ∃ I', M' = mm_si B I' ∧ P I'))
        refine go_iastN (j := ((10 + 10 * n9) + 4)) ⟨by decide, by decide, by decide⟩ (rf_k1 RK) rfl (nI_ae rfl rfl) (by omega) dX11_waitsNow_109 ?_
        show go_W mt_X11_waitsNow fr_R 110 [some (pv_r m), some (pv_i x1), some (pv_i x2), some (pv_i x3), some (pv_i x4), some (pv_i x5)] [] (mm_si B (i2_u I (m + 1) ((10 + 10 * n9) + 4) (if I (m + 1) ((10 + 10 * n9) + 4) ≤ x3 then x3 else I (m + 1) ((10 + 10 * n9) + 4)))) (qv_ (fun M' => ∃ I', M' = mm_si B I' ∧ P I'))
        obtain ⟨I10, hI10⟩ : ∃ I', I' = i2_u I (m + 1) ((10 + 10 * n9) + 4) (if I (m + 1) ((10 + 10 * n9) + 4) ≤ x3 then x3 else I (m + 1) ((10 + 10 * n9) + 4)) := ⟨_, rfl⟩
        rw [← hI10]
        replace H := H I10 hI10
        refine go_aload_n dX11_waitsNow_110 rfl ?_
        refine go_iload_n dX11_waitsNow_111 rfl ?_
        refine go_bipush (v := (6 : Int32)) rfl dX11_waitsNow_112 ?_
        refine go_iconst (v := (0 : Int32)) rfl dX11_waitsNow_114 ?_
        obtain ⟨n11, ⟨hn11, hn11b⟩, H⟩ := H
        refine go_V (av := [pv_i x1, pv_i (6 : Int32), pv_i (0 : Int32)]) (st := []) (ci := 11) ok_X11_is ⟨by decide, by decide⟩ ml_X11_121 rfl (by decide) (fun v hv => by simp only [List.mem_cons, List.not_mem_nil, or_false] at hv; rcases hv with rfl | rfl | rfl <;> first | exact pv_1i | exact pv_1r) (Nat.le_of_ble_eq_true rfl) (fun _ h => h) (by decide) rfl RK.1 dX11_waitsNow_115 (rx_is RK hn11 rfl hn11b (by decide)) (fun r M' hq _ => ?_)
        obtain ⟨rfl, _, rfl, rfl⟩ := hq
        show go_W mt_X11_waitsNow fr_R 118 [some (pv_r m), some (pv_i x1), some (pv_i x2), some (pv_i x3), some (pv_i x4), some (pv_i x5)] [] (mm_si B (i2_u I10 (m + 1) (200 + 14 * n11 + 6) (0 : Int32))) (qv_ (fun M' => ∃ I', M' = mm_si B I' ∧ P I'))
        obtain ⟨I12, hI12⟩ : ∃ I', I' = i2_u I10 (m + 1) (200 + 14 * n11 + 6) (0 : Int32) := ⟨_, rfl⟩
        rw [← hI12]
        replace H := H I12 hI12
        exact go_vret rfl dX11_waitsNow_118 ⟨rfl, _, rfl, H⟩
    · replace H := H.2 hc
      refine go_aload_n dX11_waitsNow_30 rfl ?_
      refine go_iload dX11_waitsNow_31 rfl ?_
      refine go_V (av := [pv_i x5]) (st := []) (ci := 11) ok_X11_isLive ⟨by decide, by decide⟩ ml_X11_109 rfl (by decide) (fun v hv => by simp only [List.mem_cons, List.not_mem_nil, or_false] at hv; rcases hv with rfl <;> first | exact pv_1i | exact pv_1r) (Nat.le_of_ble_eq_true rfl) (fun _ h => h) (by decide) rfl RK.1 dX11_waitsNow_33 H (fun r M' hq _ => ?_)
      obtain ⟨v14, rfl, I13, rfl, H⟩ := hq
      show go_W mt_X11_waitsNow fr_R 36 [some (pv_r m), some (pv_i x1), some (pv_i x2), some (pv_i x3), some (pv_i x4), some (pv_i x5)] [pv_i v14] (mm_si B I13) (qv_ (fun M' => ∃ I', M' = mm_si B I' ∧ P I'))
      refine go_if_eq (tgt := 73) dX11_waitsNow_36 (by decide) (fun hc => ?_) (fun hc => ?_)
      · replace H := H.1 hc
        refine go_iinc (v := (1 : Int32)) (by decide) rfl rfl dX11_waitsNow_73 ?_
        show go_W mt_X11_waitsNow fr_R 76 [some (pv_r m), some (pv_i x1), some (pv_i x2), some (pv_i x3), some (pv_i x4), some (pv_i (x5 + (1 : Int32)))] [] (mm_si B I13) (qv_ (fun M' => ∃ I', M' = mm_si B I' ∧ P I'))
        refine go_goto (tgt := 19) dX11_waitsNow_76 (by decide) ?_
        exact H
      · replace H := H.2 hc
        refine go_iload_n dX11_waitsNow_39 rfl ?_
        refine go_iconst (v := (-1 : Int32)) rfl dX11_waitsNow_40 ?_
        refine go_icmp_eq (tgt := 60) dX11_waitsNow_41 (by decide) (fun hc => ?_) (fun hc => ?_)
        · replace H := H.1 hc
          refine go_aload_n dX11_waitsNow_60 rfl ?_
          refine go_getRe (k := 0) ⟨by decide, rfl, by decide, Or.inr ⟨_, rfl⟩⟩ RK.1 (rf_r1 RK) fl_X11_7 dX11_waitsNow_61 ?_
          refine go_iload dX11_waitsNow_64 rfl ?_
          obtain ⟨n15, ⟨hn15, hn15b⟩, H⟩ := H
          refine go_St (av := [pv_i x5]) (st := [pv_r (m + 1)]) ok_X11_at ⟨by decide, by decide⟩ ml_X11_80 rfl (by decide) (fun v hv => by simp only [List.mem_cons, List.not_mem_nil, or_false] at hv; rcases hv with rfl <;> first | exact pv_1i | exact pv_1r) (Nat.le_of_ble_eq_true rfl) (fun _ h => h) dX11_waitsNow_66 (rx_at RK hn15) (fun r M' hq _ => ?_)
          obtain ⟨_, rfl, _, rfl, rfl, rfl⟩ := hq
          show go_W mt_X11_waitsNow fr_R 69 [some (pv_r m), some (pv_i x1), some (pv_i x2), some (pv_i x3), some (pv_i x4), some (pv_i x5)] [pv_i (nI (10 + 10 * n15)), pv_r (m + 1)] (mm_si B I13) (qv_ (fun M' => ∃ I', M' = mm_si B I' ∧ P I'))
          refine go_iconst (v := (4 : Int32)) rfl dX11_waitsNow_69 ?_
          refine go_iadd dX11_waitsNow_70 ?_
          refine go_ialdN (j := ((10 + 10 * n15) + 4)) ⟨by decide, by decide, by decide⟩ (rf_k1 RK) (nI_ae rfl rfl) (by omega) dX11_waitsNow_71 ?_
          refine go_istore_n (by decide) dX11_waitsNow_72 ?_
          show go_W mt_X11_waitsNow fr_R 73 [some (pv_r m), some (pv_i x1), some (pv_i x2), some (pv_i (I13 (m + 1) ((10 + 10 * n15) + 4))), some (pv_i x4), some (pv_i x5)] [] (mm_si B I13) (qv_ (fun M' => ∃ I', M' = mm_si B I' ∧ P I'))
          refine go_iincN (n := n15) (k := 1) hn15 (by decide) rfl rfl dX11_waitsNow_73 ?_
          show go_W mt_X11_waitsNow fr_R 76 [some (pv_r m), some (pv_i x1), some (pv_i x2), some (pv_i (I13 (m + 1) ((10 + 10 * n15) + 4))), some (pv_i x4), some (pv_i (nI (n15 + 1)))] [] (mm_si B I13) (qv_ (fun M' => ∃ I', M' = mm_si B I' ∧ P I'))
          refine go_goto (tgt := 19) dX11_waitsNow_76 (by decide) ?_
          exact H
        · replace H := H.2 hc
          refine go_aload_n dX11_waitsNow_44 rfl ?_
          refine go_getRe (k := 0) ⟨by decide, rfl, by decide, Or.inr ⟨_, rfl⟩⟩ RK.1 (rf_r1 RK) fl_X11_7 dX11_waitsNow_45 ?_
          refine go_iload dX11_waitsNow_48 rfl ?_
          obtain ⟨n16, ⟨hn16, hn16b⟩, H⟩ := H
          refine go_St (av := [pv_i x5]) (st := [pv_r (m + 1)]) ok_X11_at ⟨by decide, by decide⟩ ml_X11_80 rfl (by decide) (fun v hv => by simp only [List.mem_cons, List.not_mem_nil, or_false] at hv; rcases hv with rfl <;> first | exact pv_1i | exact pv_1r) (Nat.le_of_ble_eq_true rfl) (fun _ h => h) dX11_waitsNow_50 (rx_at RK hn16) (fun r M' hq _ => ?_)
          obtain ⟨_, rfl, _, rfl, rfl, rfl⟩ := hq
          show go_W mt_X11_waitsNow fr_R 53 [some (pv_r m), some (pv_i x1), some (pv_i x2), some (pv_i x3), some (pv_i x4), some (pv_i x5)] [pv_i (nI (10 + 10 * n16)), pv_r (m + 1)] (mm_si B I13) (qv_ (fun M' => ∃ I', M' = mm_si B I' ∧ P I'))
          refine go_iconst (v := (4 : Int32)) rfl dX11_waitsNow_53 ?_
          refine go_iadd dX11_waitsNow_54 ?_
          refine go_ialdN (j := ((10 + 10 * n16) + 4)) ⟨by decide, by decide, by decide⟩ (rf_k1 RK) (nI_ae rfl rfl) (by omega) dX11_waitsNow_55 ?_
          refine go_iload_n dX11_waitsNow_56 rfl ?_
          refine go_icmp_ge (tgt := 73) dX11_waitsNow_57 (by decide) (fun hc => ?_) (fun hc => ?_)
          · replace H := H.1 hc
            refine go_iincN (n := n16) (k := 1) hn16 (by decide) rfl rfl dX11_waitsNow_73 ?_
            show go_W mt_X11_waitsNow fr_R 76 [some (pv_r m), some (pv_i x1), some (pv_i x2), some (pv_i x3), some (pv_i x4), some (pv_i (nI (n16 + 1)))] [] (mm_si B I13) (qv_ (fun M' => ∃ I', M' = mm_si B I' ∧ P I'))
            refine go_goto (tgt := 19) dX11_waitsNow_76 (by decide) ?_
            exact H
          · replace H := H.2 hc
            refine go_aload_n dX11_waitsNow_60 rfl ?_
            refine go_getRe (k := 0) ⟨by decide, rfl, by decide, Or.inr ⟨_, rfl⟩⟩ RK.1 (rf_r1 RK) fl_X11_7 dX11_waitsNow_61 ?_
            refine go_iload dX11_waitsNow_64 rfl ?_
            refine go_St (av := [pv_i x5]) (st := [pv_r (m + 1)]) ok_X11_at ⟨by decide, by decide⟩ ml_X11_80 rfl (by decide) (fun v hv => by simp only [List.mem_cons, List.not_mem_nil, or_false] at hv; rcases hv with rfl <;> first | exact pv_1i | exact pv_1r) (Nat.le_of_ble_eq_true rfl) (fun _ h => h) dX11_waitsNow_66 (rx_at RK hn16) (fun r M' hq _ => ?_)
            obtain ⟨_, rfl, _, rfl, rfl, rfl⟩ := hq
            show go_W mt_X11_waitsNow fr_R 69 [some (pv_r m), some (pv_i x1), some (pv_i x2), some (pv_i x3), some (pv_i x4), some (pv_i x5)] [pv_i (nI (10 + 10 * n16)), pv_r (m + 1)] (mm_si B I13) (qv_ (fun M' => ∃ I', M' = mm_si B I' ∧ P I'))
            refine go_iconst (v := (4 : Int32)) rfl dX11_waitsNow_69 ?_
            refine go_iadd dX11_waitsNow_70 ?_
            refine go_ialdN (j := ((10 + 10 * n16) + 4)) ⟨by decide, by decide, by decide⟩ (rf_k1 RK) (nI_ae rfl rfl) (by omega) dX11_waitsNow_71 ?_
            refine go_istore_n (by decide) dX11_waitsNow_72 ?_
            show go_W mt_X11_waitsNow fr_R 73 [some (pv_r m), some (pv_i x1), some (pv_i x2), some (pv_i (I13 (m + 1) ((10 + 10 * n16) + 4))), some (pv_i x4), some (pv_i x5)] [] (mm_si B I13) (qv_ (fun M' => ∃ I', M' = mm_si B I' ∧ P I'))
            refine go_iincN (n := n16) (k := 1) hn16 (by decide) rfl rfl dX11_waitsNow_73 ?_
            show go_W mt_X11_waitsNow fr_R 76 [some (pv_r m), some (pv_i x1), some (pv_i x2), some (pv_i (I13 (m + 1) ((10 + 10 * n16) + 4))), some (pv_i x4), some (pv_i (nI (n16 + 1)))] [] (mm_si B I13) (qv_ (fun M' => ∃ I', M' = mm_si B I' ∧ P I'))
            refine go_goto (tgt := 19) dX11_waitsNow_76 (by decide) ?_
            exact H
set_option maxRecDepth 20000 in
theorem wq_X11_isHeldBack_0 {B : mm_T} {I : Nat → Nat → Int32} {m : Nat} (RK : rf_ok B m) {x1 : Int32} {P : Int32 → (Nat → Nat → Int32) → Prop} (H : ∃ n1, (x1 = nI n1 ∧ n1 < 400) ∧ ((((I (m + 1) (200 + 14 * n1 + 4) = (-1 : Int32)) → P (0 : Int32) I) ∧ ((¬ I (m + 1) (200 + 14 * n1 + 4) = (-1 : Int32)) → ∃ n2, (I (m + 1) (200 + 14 * n1 + 4) = nI n2 ∧ n2 < 400) ∧ ((((I (m + 1) (200 + 14 * n2 + 6) = (4 : Int32)) → P (0 : Int32) I) ∧ ((¬ I (m + 1) (200 + 14 * n2 + 6) = (4 : Int32)) → P (1 : Int32) I))))))) : rw_i mt_X11_isHeldBack 0 [some (pv_r m), some (pv_i x1)] [] B I P := by
  refine go_aload_n dX11_isHeldBack_0 rfl ?_
  refine go_iload_n dX11_isHeldBack_1 rfl ?_
  refine go_iconst (v := (4 : Int32)) rfl dX11_isHeldBack_2 ?_
  obtain ⟨n1, ⟨hn1, hn1b⟩, H⟩ := H
  refine go_V (av := [pv_i x1, pv_i (4 : Int32)]) (st := []) (ci := 11) ok_X11_of ⟨by decide, by decide⟩ ml_X11_94 rfl (by decide) (fun v hv => by simp only [List.mem_cons, List.not_mem_nil, or_false] at hv; rcases hv with rfl | rfl <;> first | exact pv_1i | exact pv_1r) (Nat.le_of_ble_eq_true rfl) (fun _ h => h) (by decide) rfl RK.1 dX11_isHeldBack_3 (rx_of RK hn1 rfl hn1b (by decide)) (fun r M' hq _ => ?_)
  obtain ⟨_, rfl, _, rfl, rfl, rfl⟩ := hq
  show go_W mt_X11_isHeldBack fr_R 6 [some (pv_r m), some (pv_i x1)] [pv_i (I (m + 1) (200 + 14 * n1 + 4))] (mm_si B I) (qi_ (fun x M' => ∃ I', M' = mm_si B I' ∧ P x I'))
  refine go_iconst (v := (-1 : Int32)) rfl dX11_isHeldBack_6 ?_
  refine go_icmp_eq (tgt := 30) dX11_isHeldBack_7 (by decide) (fun hc => ?_) (fun hc => ?_)
  · replace H := H.1 hc
    refine go_iconst (v := (0 : Int32)) rfl dX11_isHeldBack_30 ?_
    exact go_iret rfl rfl dX11_isHeldBack_31 ⟨_, rfl, _, rfl, H⟩
  · replace H := H.2 hc
    refine go_aload_n dX11_isHeldBack_10 rfl ?_
    refine go_aload_n dX11_isHeldBack_11 rfl ?_
    refine go_iload_n dX11_isHeldBack_12 rfl ?_
    refine go_iconst (v := (4 : Int32)) rfl dX11_isHeldBack_13 ?_
    refine go_V (av := [pv_i x1, pv_i (4 : Int32)]) (st := [pv_r m]) (ci := 11) ok_X11_of ⟨by decide, by decide⟩ ml_X11_94 rfl (by decide) (fun v hv => by simp only [List.mem_cons, List.not_mem_nil, or_false] at hv; rcases hv with rfl | rfl <;> first | exact pv_1i | exact pv_1r) (Nat.le_of_ble_eq_true rfl) (fun _ h => h) (by decide) rfl RK.1 dX11_isHeldBack_14 (rx_of RK hn1 rfl (by omega) (by decide)) (fun r M' hq _ => ?_)
    obtain ⟨_, rfl, _, rfl, rfl, rfl⟩ := hq
    show go_W mt_X11_isHeldBack fr_R 17 [some (pv_r m), some (pv_i x1)] [pv_i (I (m + 1) (200 + 14 * n1 + 4)), pv_r m] (mm_si B I) (qi_ (fun x M' => ∃ I', M' = mm_si B I' ∧ P x I'))
    refine go_bipush (v := (6 : Int32)) rfl dX11_isHeldBack_17 ?_
    obtain ⟨n2, ⟨hn2, hn2b⟩, H⟩ := H
    refine go_V (av := [pv_i (I (m + 1) (200 + 14 * n1 + 4)), pv_i (6 : Int32)]) (st := []) (ci := 11) ok_X11_of ⟨by decide, by decide⟩ ml_X11_94 rfl (by decide) (fun v hv => by simp only [List.mem_cons, List.not_mem_nil, or_false] at hv; rcases hv with rfl | rfl <;> first | exact pv_1i | exact pv_1r) (Nat.le_of_ble_eq_true rfl) (fun _ h => h) (by decide) rfl RK.1 dX11_isHeldBack_19 (rx_of RK hn2 rfl hn2b (by decide)) (fun r M' hq _ => ?_)
    obtain ⟨_, rfl, _, rfl, rfl, rfl⟩ := hq
    show go_W mt_X11_isHeldBack fr_R 22 [some (pv_r m), some (pv_i x1)] [pv_i (I (m + 1) (200 + 14 * n2 + 6))] (mm_si B I) (qi_ (fun x M' => ∃ I', M' = mm_si B I' ∧ P x I'))
    refine go_iconst (v := (4 : Int32)) rfl dX11_isHeldBack_22 ?_
    refine go_icmp_eq (tgt := 30) dX11_isHeldBack_23 (by decide) (fun hc => ?_) (fun hc => ?_)
    · replace H := H.1 hc
      refine go_iconst (v := (0 : Int32)) rfl dX11_isHeldBack_30 ?_
      exact go_iret rfl rfl dX11_isHeldBack_31 ⟨_, rfl, _, rfl, H⟩
    · replace H := H.2 hc
      refine go_iconst (v := (1 : Int32)) rfl dX11_isHeldBack_26 ?_
      refine go_goto (tgt := 31) dX11_isHeldBack_27 (by decide) ?_
      exact go_iret rfl rfl dX11_isHeldBack_31 ⟨_, rfl, _, rfl, H⟩
set_option maxRecDepth 20000 in
theorem wq_X11_closes_0 {B : mm_T} {I : Nat → Nat → Int32} {m : Nat} (RK : rf_ok B m)  {P : (Nat → Nat → Int32) → Prop} (H : rw_v mt_X11_closes 2 [some (pv_r m), some (pv_i (0 : Int32))] [] B I P) : rw_v mt_X11_closes 0 [some (pv_r m), none] [] B I P := by
  refine go_iconst (v := (0 : Int32)) rfl dX11_closes_0 ?_
  refine go_istore_n (by decide) dX11_closes_1 ?_
  show go_W mt_X11_closes fr_R 2 [some (pv_r m), some (pv_i (0 : Int32))] [] (mm_si B I) (qv_ (fun M' => ∃ I', M' = mm_si B I' ∧ P I'))
  exact H
set_option maxRecDepth 20000 in
theorem wq_X11_closes_2 {B : mm_T} {I : Nat → Nat → Int32} {m : Nat} (RK : rf_ok B m) {x1 : Int32} {P : (Nat → Nat → Int32) → Prop} (H : ((((5 : Int32) ≤ x1) → P I) ∧ ((¬ (5 : Int32) ≤ x1) → ∃ n1, (x1 = nI n1 ∧ n1 < 5) ∧ ((((¬ I (m + 1) ((10 + 10 * n1) + 3) = (1 : Int32)) → rw_v mt_X11_closes 2 [some (pv_r m), some (pv_i (nI (n1 + 1)))] [] B I P) ∧ ((I (m + 1) ((10 + 10 * n1) + 3) = (1 : Int32)) → rs_i mt_X11_standing [pv_r m, pv_i x1] B I (fun v3 I2 => (((¬ v3 = 0) → rw_v mt_X11_closes 2 [some (pv_r m), some (pv_i (nI (n1 + 1)))] [] B I2 P) ∧ ((v3 = 0) → ∀ I4, I4 = i2_u I2 (m + 1) ((10 + 10 * n1) + 3) (2 : Int32) → rw_v mt_X11_closes 2 [some (pv_r m), some (pv_i (nI (n1 + 1)))] [] B I4 P))))))))) : rw_v mt_X11_closes 2 [some (pv_r m), some (pv_i x1)] [] B I P := by
  refine go_iload_n dX11_closes_2 rfl ?_
  refine go_iconst (v := (5 : Int32)) rfl dX11_closes_3 ?_
  refine go_icmp_ge (tgt := 48) dX11_closes_4 (by decide) (fun hc => ?_) (fun hc => ?_)
  · replace H := H.1 hc
    exact go_vret rfl dX11_closes_48 ⟨rfl, _, rfl, H⟩
  · replace H := H.2 hc
    refine go_aload_n dX11_closes_7 rfl ?_
    refine go_getRe (k := 0) ⟨by decide, rfl, by decide, Or.inr ⟨_, rfl⟩⟩ RK.1 (rf_r1 RK) fl_X11_7 dX11_closes_8 ?_
    refine go_iload_n dX11_closes_11 rfl ?_
    obtain ⟨n1, ⟨hn1, hn1b⟩, H⟩ := H
    refine go_St (av := [pv_i x1]) (st := [pv_r (m + 1)]) ok_X11_at ⟨by decide, by decide⟩ ml_X11_80 rfl (by decide) (fun v hv => by simp only [List.mem_cons, List.not_mem_nil, or_false] at hv; rcases hv with rfl <;> first | exact pv_1i | exact pv_1r) (Nat.le_of_ble_eq_true rfl) (fun _ h => h) dX11_closes_12 (rx_at RK hn1) (fun r M' hq _ => ?_)
    obtain ⟨_, rfl, _, rfl, rfl, rfl⟩ := hq
    show go_W mt_X11_closes fr_R 15 [some (pv_r m), some (pv_i x1)] [pv_i (nI (10 + 10 * n1)), pv_r (m + 1)] (mm_si B I) (qv_ (fun M' => ∃ I', M' = mm_si B I' ∧ P I'))
    refine go_iconst (v := (3 : Int32)) rfl dX11_closes_15 ?_
    refine go_iadd dX11_closes_16 ?_
    refine go_ialdN (j := ((10 + 10 * n1) + 3)) ⟨by decide, by decide, by decide⟩ (rf_k1 RK) (nI_ae rfl rfl) (by omega) dX11_closes_17 ?_
    refine go_iconst (v := (1 : Int32)) rfl dX11_closes_18 ?_
    refine go_icmp_ne (tgt := 42) dX11_closes_19 (by decide) (fun hc => ?_) (fun hc => ?_)
    · replace H := H.1 hc
      refine go_iincN (n := n1) (k := 1) hn1 (by decide) rfl rfl dX11_closes_42 ?_
      show go_W mt_X11_closes fr_R 45 [some (pv_r m), some (pv_i (nI (n1 + 1)))] [] (mm_si B I) (qv_ (fun M' => ∃ I', M' = mm_si B I' ∧ P I'))
      refine go_goto (tgt := 2) dX11_closes_45 (by decide) ?_
      exact H
    · replace H := H.2 hc
      refine go_aload_n dX11_closes_22 rfl ?_
      refine go_iload_n dX11_closes_23 rfl ?_
      refine go_V (av := [pv_i x1]) (st := []) (ci := 11) ok_X11_standing ⟨by decide, by decide⟩ ml_X11_115 rfl (by decide) (fun v hv => by simp only [List.mem_cons, List.not_mem_nil, or_false] at hv; rcases hv with rfl <;> first | exact pv_1i | exact pv_1r) (Nat.le_of_ble_eq_true rfl) (fun _ h => h) (by decide) rfl RK.1 dX11_closes_24 H (fun r M' hq _ => ?_)
      obtain ⟨v3, rfl, I2, rfl, H⟩ := hq
      show go_W mt_X11_closes fr_R 27 [some (pv_r m), some (pv_i x1)] [pv_i v3] (mm_si B I2) (qv_ (fun M' => ∃ I', M' = mm_si B I' ∧ P I'))
      refine go_if_ne (tgt := 42) dX11_closes_27 (by decide) (fun hc => ?_) (fun hc => ?_)
      · replace H := H.1 hc
        refine go_iincN (n := n1) (k := 1) hn1 (by decide) rfl rfl dX11_closes_42 ?_
        show go_W mt_X11_closes fr_R 45 [some (pv_r m), some (pv_i (nI (n1 + 1)))] [] (mm_si B I2) (qv_ (fun M' => ∃ I', M' = mm_si B I' ∧ P I'))
        refine go_goto (tgt := 2) dX11_closes_45 (by decide) ?_
        exact H
      · replace H := H.2 hc
        refine go_aload_n dX11_closes_30 rfl ?_
        refine go_getRe (k := 0) ⟨by decide, rfl, by decide, Or.inr ⟨_, rfl⟩⟩ RK.1 (rf_r1 RK) fl_X11_7 dX11_closes_31 ?_
        refine go_iload_n dX11_closes_34 rfl ?_
        refine go_St (av := [pv_i x1]) (st := [pv_r (m + 1)]) ok_X11_at ⟨by decide, by decide⟩ ml_X11_80 rfl (by decide) (fun v hv => by simp only [List.mem_cons, List.not_mem_nil, or_false] at hv; rcases hv with rfl <;> first | exact pv_1i | exact pv_1r) (Nat.le_of_ble_eq_true rfl) (fun _ h => h) dX11_closes_35 (rx_at RK hn1) (fun r M' hq _ => ?_)
        obtain ⟨_, rfl, _, rfl, rfl, rfl⟩ := hq
        show go_W mt_X11_closes fr_R 38 [some (pv_r m), some (pv_i x1)] [pv_i (nI (10 + 10 * n1)), pv_r (m + 1)] (mm_si B I2) (qv_ (fun M' => ∃ I', M' = mm_si B I' ∧ P I'))
        refine go_iconst (v := (3 : Int32)) rfl dX11_closes_38 ?_
        refine go_iadd dX11_closes_39 ?_
        refine go_iconst (v := (2 : Int32)) rfl dX11_closes_40 ?_
        refine go_iastN (j := ((10 + 10 * n1) + 3)) ⟨by decide, by decide, by decide⟩ (rf_k1 RK) rfl (nI_ae rfl rfl) (by omega) dX11_closes_41 ?_
        show go_W mt_X11_closes fr_R 42 [some (pv_r m), some (pv_i x1)] [] (mm_si B (i2_u I2 (m + 1) ((10 + 10 * n1) + 3) (2 : Int32))) (qv_ (fun M' => ∃ I', M' = mm_si B I' ∧ P I'))
        obtain ⟨I4, hI4⟩ : ∃ I', I' = i2_u I2 (m + 1) ((10 + 10 * n1) + 3) (2 : Int32) := ⟨_, rfl⟩
        rw [← hI4]
        replace H := H I4 hI4
        refine go_iincN (n := n1) (k := 1) hn1 (by decide) rfl rfl dX11_closes_42 ?_
        show go_W mt_X11_closes fr_R 45 [some (pv_r m), some (pv_i (nI (n1 + 1)))] [] (mm_si B I4) (qv_ (fun M' => ∃ I', M' = mm_si B I' ∧ P I'))
        refine go_goto (tgt := 2) dX11_closes_45 (by decide) ?_
        exact H
set_option maxRecDepth 20000 in
theorem wq_X11_blames_0 {B : mm_T} {I : Nat → Nat → Int32} {m : Nat} (RK : rf_ok B m) {x1 x2 : Int32} {P : (Nat → Nat → Int32) → Prop} (H : ∃ n1, (x1 = nI n1 ∧ n1 < 400) ∧ (∀ I2, I2 = i2_u I (m + 1) (200 + 14 * n1 + 13) x2 → (((¬ I2 m 8 = 0) → P I2) ∧ ((I2 m 8 = 0) → (((¬ I2 (m + 4) n1 = (20 : Int32)) → ∃ n3, ((((20 : Int32) * x1) + I2 (m + 4) n1) = nI n3 ∧ n3 < 8000) ∧ (∀ I4, I4 = i2_u I2 (m + 5) n3 x2 → ∀ I5, I5 = i2_u I4 (m + 4) n1 (I4 (m + 4) n1 + (1 : Int32)) → P I5)) ∧ ((I2 (m + 4) n1 = (20 : Int32)) → P I2)))))) : rw_v mt_X11_blames 0 [some (pv_r m), some (pv_i x1), some (pv_i x2)] [] B I P := by
  refine go_aload_n dX11_blames_0 rfl ?_
  refine go_iload_n dX11_blames_1 rfl ?_
  refine go_bipush (v := (13 : Int32)) rfl dX11_blames_2 ?_
  refine go_iload_n dX11_blames_4 rfl ?_
  obtain ⟨n1, ⟨hn1, hn1b⟩, H⟩ := H
  refine go_V (av := [pv_i x1, pv_i (13 : Int32), pv_i x2]) (st := []) (ci := 11) ok_X11_is ⟨by decide, by decide⟩ ml_X11_121 rfl (by decide) (fun v hv => by simp only [List.mem_cons, List.not_mem_nil, or_false] at hv; rcases hv with rfl | rfl | rfl <;> first | exact pv_1i | exact pv_1r) (Nat.le_of_ble_eq_true rfl) (fun _ h => h) (by decide) rfl RK.1 dX11_blames_5 (rx_is RK hn1 rfl hn1b (by decide)) (fun r M' hq _ => ?_)
  obtain ⟨rfl, _, rfl, rfl⟩ := hq
  show go_W mt_X11_blames fr_R 8 [some (pv_r m), some (pv_i x1), some (pv_i x2)] [] (mm_si B (i2_u I (m + 1) (200 + 14 * n1 + 13) x2)) (qv_ (fun M' => ∃ I', M' = mm_si B I' ∧ P I'))
  obtain ⟨I2, hI2⟩ : ∃ I', I' = i2_u I (m + 1) (200 + 14 * n1 + 13) x2 := ⟨_, rfl⟩
  rw [← hI2]
  replace H := H I2 hI2
  refine go_aload_n dX11_blames_8 rfl ?_
  refine go_getZ (k := 8) ⟨by decide, rfl, by decide, rfl⟩ RK.1 fl_X11_35 dX11_blames_9 ?_
  refine go_if_ne (tgt := 26) dX11_blames_12 (by decide) (fun hc => ?_) (fun hc => ?_)
  · replace H := H.1 hc
    exact go_vret rfl dX11_blames_26 ⟨rfl, _, rfl, H⟩
  · replace H := H.2 hc
    refine go_aload_n dX11_blames_15 rfl ?_
    refine go_getRe (k := 3) ⟨by decide, rfl, by decide, Or.inr ⟨_, rfl⟩⟩ RK.1 (rf_r4 RK) fl_X11_19 dX11_blames_16 ?_
    refine go_iload_n dX11_blames_19 rfl ?_
    refine go_ialdN (j := n1) ⟨by decide, by decide, by decide⟩ (rf_k4 RK) hn1 (by omega) dX11_blames_20 ?_
    refine go_bipush (v := (20 : Int32)) rfl dX11_blames_21 ?_
    refine go_icmp_ne (tgt := 27) dX11_blames_23 (by decide) (fun hc => ?_) (fun hc => ?_)
    · replace H := H.1 hc
      refine go_aload_n dX11_blames_27 rfl ?_
      refine go_getRe (k := 4) ⟨by decide, rfl, by decide, Or.inr ⟨_, rfl⟩⟩ RK.1 (rf_r5 RK) fl_X11_22 dX11_blames_28 ?_
      refine go_bipush (v := (20 : Int32)) rfl dX11_blames_31 ?_
      refine go_iload_n dX11_blames_33 rfl ?_
      refine go_imul dX11_blames_34 ?_
      refine go_aload_n dX11_blames_35 rfl ?_
      refine go_getRe (k := 3) ⟨by decide, rfl, by decide, Or.inr ⟨_, rfl⟩⟩ RK.1 (rf_r4 RK) fl_X11_19 dX11_blames_36 ?_
      refine go_iload_n dX11_blames_39 rfl ?_
      refine go_ialdN (j := n1) ⟨by decide, by decide, by decide⟩ (rf_k4 RK) hn1 (by omega) dX11_blames_40 ?_
      refine go_iadd dX11_blames_41 ?_
      refine go_iload_n dX11_blames_42 rfl ?_
      obtain ⟨n3, ⟨hn3, hn3b⟩, H⟩ := H
      refine go_iastN (j := n3) ⟨by decide, by decide, by decide⟩ (rf_k5 RK) rfl hn3 hn3b dX11_blames_43 ?_
      show go_W mt_X11_blames fr_R 44 [some (pv_r m), some (pv_i x1), some (pv_i x2)] [] (mm_si B (i2_u I2 (m + 5) n3 x2)) (qv_ (fun M' => ∃ I', M' = mm_si B I' ∧ P I'))
      obtain ⟨I4, hI4⟩ : ∃ I', I' = i2_u I2 (m + 5) n3 x2 := ⟨_, rfl⟩
      rw [← hI4]
      replace H := H I4 hI4
      refine go_aload_n dX11_blames_44 rfl ?_
      refine go_getRe (k := 3) ⟨by decide, rfl, by decide, Or.inr ⟨_, rfl⟩⟩ RK.1 (rf_r4 RK) fl_X11_19 dX11_blames_45 ?_
      refine go_iload_n dX11_blames_48 rfl ?_
      refine go_dup2 pv_1i pv_1r dX11_blames_49 ?_
      refine go_ialdN (j := n1) ⟨by decide, by decide, by decide⟩ (rf_k4 RK) hn1 (by omega) dX11_blames_50 ?_
      refine go_iconst (v := (1 : Int32)) rfl dX11_blames_51 ?_
      refine go_iadd dX11_blames_52 ?_
      refine go_iastN (j := n1) ⟨by decide, by decide, by decide⟩ (rf_k4 RK) rfl hn1 (by omega) dX11_blames_53 ?_
      show go_W mt_X11_blames fr_R 54 [some (pv_r m), some (pv_i x1), some (pv_i x2)] [] (mm_si B (i2_u I4 (m + 4) n1 (I4 (m + 4) n1 + (1 : Int32)))) (qv_ (fun M' => ∃ I', M' = mm_si B I' ∧ P I'))
      obtain ⟨I5, hI5⟩ : ∃ I', I' = i2_u I4 (m + 4) n1 (I4 (m + 4) n1 + (1 : Int32)) := ⟨_, rfl⟩
      rw [← hI5]
      replace H := H I5 hI5
      exact go_vret rfl dX11_blames_54 ⟨rfl, _, rfl, H⟩
    · replace H := H.2 hc
      exact go_vret rfl dX11_blames_26 ⟨rfl, _, rfl, H⟩
set_option maxRecDepth 20000 in
theorem wq_X11_goesAside_0 {B : mm_T} {I : Nat → Nat → Int32} {m : Nat} (RK : rf_ok B m) {x1 x2 : Int32} {P : (Nat → Nat → Int32) → Prop} (H : ∃ n1, (x1 = nI n1 ∧ n1 < 400) ∧ (∀ I2, I2 = i2_u I (m + 1) (200 + 14 * n1 + 6) (5 : Int32) → ∃ n3, (((5800 : Int32) + I2 (m + 1) 3) = nI n3 ∧ n3 < 6200) ∧ (∀ I4, I4 = i2_u I2 (m + 1) n3 x1 → ∀ I5, I5 = i2_u I4 (m + 1) 3 (I4 (m + 1) 3 + (1 : Int32)) → ∀ I6, I6 = i2_u I5 m 10 (I5 m 10 + (1 : Int32)) → rs_v mt_X11_writes [pv_r m, pv_i (4 : Int32), pv_i x1, pv_i (-1 : Int32), pv_i x2] B I6 (fun I7 => P I7)))) : rw_v mt_X11_goesAside 0 [some (pv_r m), some (pv_i x1), some (pv_i x2)] [] B I P := by
  refine go_aload_n dX11_goesAside_0 rfl ?_
  refine go_iload_n dX11_goesAside_1 rfl ?_
  refine go_bipush (v := (6 : Int32)) rfl dX11_goesAside_2 ?_
  refine go_iconst (v := (5 : Int32)) rfl dX11_goesAside_4 ?_
  obtain ⟨n1, ⟨hn1, hn1b⟩, H⟩ := H
  refine go_V (av := [pv_i x1, pv_i (6 : Int32), pv_i (5 : Int32)]) (st := []) (ci := 11) ok_X11_is ⟨by decide, by decide⟩ ml_X11_121 rfl (by decide) (fun v hv => by simp only [List.mem_cons, List.not_mem_nil, or_false] at hv; rcases hv with rfl | rfl | rfl <;> first | exact pv_1i | exact pv_1r) (Nat.le_of_ble_eq_true rfl) (fun _ h => h) (by decide) rfl RK.1 dX11_goesAside_5 (rx_is RK hn1 rfl hn1b (by decide)) (fun r M' hq _ => ?_)
  obtain ⟨rfl, _, rfl, rfl⟩ := hq
  show go_W mt_X11_goesAside fr_R 8 [some (pv_r m), some (pv_i x1), some (pv_i x2)] [] (mm_si B (i2_u I (m + 1) (200 + 14 * n1 + 6) (5 : Int32))) (qv_ (fun M' => ∃ I', M' = mm_si B I' ∧ P I'))
  obtain ⟨I2, hI2⟩ : ∃ I', I' = i2_u I (m + 1) (200 + 14 * n1 + 6) (5 : Int32) := ⟨_, rfl⟩
  rw [← hI2]
  replace H := H I2 hI2
  refine go_aload_n dX11_goesAside_8 rfl ?_
  refine go_getRe (k := 0) ⟨by decide, rfl, by decide, Or.inr ⟨_, rfl⟩⟩ RK.1 (rf_r1 RK) fl_X11_7 dX11_goesAside_9 ?_
  refine go_sipush (v := (5800 : Int32)) rfl dX11_goesAside_12 ?_
  refine go_aload_n dX11_goesAside_15 rfl ?_
  refine go_getRe (k := 0) ⟨by decide, rfl, by decide, Or.inr ⟨_, rfl⟩⟩ RK.1 (rf_r1 RK) fl_X11_7 dX11_goesAside_16 ?_
  refine go_iconst (v := (3 : Int32)) rfl dX11_goesAside_19 ?_
  refine go_ialdN (j := 3) ⟨by decide, by decide, by decide⟩ (rf_k1 RK) rfl (by decide) dX11_goesAside_20 ?_
  refine go_iadd dX11_goesAside_21 ?_
  refine go_iload_n dX11_goesAside_22 rfl ?_
  obtain ⟨n3, ⟨hn3, hn3b⟩, H⟩ := H
  refine go_iastN (j := n3) ⟨by decide, by decide, by decide⟩ (rf_k1 RK) rfl hn3 hn3b dX11_goesAside_23 ?_
  show go_W mt_X11_goesAside fr_R 24 [some (pv_r m), some (pv_i x1), some (pv_i x2)] [] (mm_si B (i2_u I2 (m + 1) n3 x1)) (qv_ (fun M' => ∃ I', M' = mm_si B I' ∧ P I'))
  obtain ⟨I4, hI4⟩ : ∃ I', I' = i2_u I2 (m + 1) n3 x1 := ⟨_, rfl⟩
  rw [← hI4]
  replace H := H I4 hI4
  refine go_aload_n dX11_goesAside_24 rfl ?_
  refine go_getRe (k := 0) ⟨by decide, rfl, by decide, Or.inr ⟨_, rfl⟩⟩ RK.1 (rf_r1 RK) fl_X11_7 dX11_goesAside_25 ?_
  refine go_iconst (v := (3 : Int32)) rfl dX11_goesAside_28 ?_
  refine go_dup2 pv_1i pv_1r dX11_goesAside_29 ?_
  refine go_ialdN (j := 3) ⟨by decide, by decide, by decide⟩ (rf_k1 RK) rfl (by decide) dX11_goesAside_30 ?_
  refine go_iconst (v := (1 : Int32)) rfl dX11_goesAside_31 ?_
  refine go_iadd dX11_goesAside_32 ?_
  refine go_iastN (j := 3) ⟨by decide, by decide, by decide⟩ (rf_k1 RK) rfl rfl (by decide) dX11_goesAside_33 ?_
  show go_W mt_X11_goesAside fr_R 34 [some (pv_r m), some (pv_i x1), some (pv_i x2)] [] (mm_si B (i2_u I4 (m + 1) 3 (I4 (m + 1) 3 + (1 : Int32)))) (qv_ (fun M' => ∃ I', M' = mm_si B I' ∧ P I'))
  obtain ⟨I5, hI5⟩ : ∃ I', I' = i2_u I4 (m + 1) 3 (I4 (m + 1) 3 + (1 : Int32)) := ⟨_, rfl⟩
  rw [← hI5]
  replace H := H I5 hI5
  refine go_aload_n dX11_goesAside_34 rfl ?_
  refine go_dup pv_1r dX11_goesAside_35 ?_
  refine go_getI (k := 10) ⟨by decide, rfl, by decide, rfl⟩ RK.1 fl_X11_42 dX11_goesAside_36 ?_
  refine go_iconst (v := (1 : Int32)) rfl dX11_goesAside_39 ?_
  refine go_iadd dX11_goesAside_40 ?_
  refine go_putI (k := 10) ⟨by decide, rfl, by decide, rfl⟩ RK.1 rfl (Or.inl rfl) fl_X11_42 dX11_goesAside_41 ?_
  show go_W mt_X11_goesAside fr_R 44 [some (pv_r m), some (pv_i x1), some (pv_i x2)] [] (mm_si B (i2_u I5 m 10 (I5 m 10 + (1 : Int32)))) (qv_ (fun M' => ∃ I', M' = mm_si B I' ∧ P I'))
  obtain ⟨I6, hI6⟩ : ∃ I', I' = i2_u I5 m 10 (I5 m 10 + (1 : Int32)) := ⟨_, rfl⟩
  rw [← hI6]
  replace H := H I6 hI6
  refine go_aload_n dX11_goesAside_44 rfl ?_
  refine go_iconst (v := (4 : Int32)) rfl dX11_goesAside_45 ?_
  refine go_iload_n dX11_goesAside_46 rfl ?_
  refine go_iconst (v := (-1 : Int32)) rfl dX11_goesAside_47 ?_
  refine go_iload_n dX11_goesAside_48 rfl ?_
  refine go_V (av := [pv_i (4 : Int32), pv_i x1, pv_i (-1 : Int32), pv_i x2]) (st := []) (ci := 11) ok_X11_writes ⟨by decide, by decide⟩ ml_X11_125 rfl (by decide) (fun v hv => by simp only [List.mem_cons, List.not_mem_nil, or_false] at hv; rcases hv with rfl | rfl | rfl | rfl <;> first | exact pv_1i | exact pv_1r) (Nat.le_of_ble_eq_true rfl) (fun _ h => h) (by decide) rfl RK.1 dX11_goesAside_49 H (fun r M' hq _ => ?_)
  obtain ⟨rfl, I7, rfl, H⟩ := hq
  show go_W mt_X11_goesAside fr_R 52 [some (pv_r m), some (pv_i x1), some (pv_i x2)] [] (mm_si B I7) (qv_ (fun M' => ∃ I', M' = mm_si B I' ∧ P I'))
  exact go_vret rfl dX11_goesAside_52 ⟨rfl, _, rfl, H⟩
set_option maxRecDepth 20000 in
theorem wq_X11_drags_0 {B : mm_T} {I : Nat → Nat → Int32} {m : Nat} (RK : rf_ok B m) {x1 x2 : Int32} {P : Int32 → (Nat → Nat → Int32) → Prop} (H : rw_i mt_X11_drags 2 [some (pv_r m), some (pv_i x1), some (pv_i x2), some (pv_i (0 : Int32)), none, none, none] [] B I P) : rw_i mt_X11_drags 0 [some (pv_r m), some (pv_i x1), some (pv_i x2), none, none, none, none] [] B I P := by
  refine go_iconst (v := (0 : Int32)) rfl dX11_drags_0 ?_
  refine go_istore_n (by decide) dX11_drags_1 ?_
  show go_W mt_X11_drags fr_R 2 [some (pv_r m), some (pv_i x1), some (pv_i x2), some (pv_i (0 : Int32)), none, none, none] [] (mm_si B I) (qi_ (fun x M' => ∃ I', M' = mm_si B I' ∧ P x I'))
  exact H
set_option maxRecDepth 20000 in
theorem wq_X11_drags_2 {B : mm_T} {I : Nat → Nat → Int32} {m : Nat} (RK : rf_ok B m) {x1 x2 x3 : Int32} {P : Int32 → (Nat → Nat → Int32) → Prop} (H : (((I (m + 1) 1 ≤ x3) → rw_i mt_X11_drags 42 [some (pv_r m), some (pv_i x1), some (pv_i x2), some (pv_i (0 : Int32)), some (pv_i x2), some (pv_i (1 : Int32)), none] [] B I P) ∧ ((¬ I (m + 1) 1 ≤ x3) → (((¬ x3 = x1) → ∃ n1, (x3 = nI n1 ∧ n1 < 400) ∧ (∀ I2, I2 = i2_u I (m + 7) n1 (0 : Int32) → rw_i mt_X11_drags 2 [some (pv_r m), some (pv_i x1), some (pv_i x2), some (pv_i (nI (n1 + 1))), none, none, none] [] B I2 P)) ∧ ((x3 = x1) → ∃ n3, (x3 = nI n3 ∧ n3 < 400) ∧ (∀ I4, I4 = i2_u I (m + 7) n3 (1 : Int32) → rw_i mt_X11_drags 2 [some (pv_r m), some (pv_i x1), some (pv_i x2), some (pv_i (nI (n3 + 1))), none, none, none] [] B I4 P)))))) : rw_i mt_X11_drags 2 [some (pv_r m), some (pv_i x1), some (pv_i x2), some (pv_i x3), none, none, none] [] B I P := by
  refine go_iload_n dX11_drags_2 rfl ?_
  refine go_aload_n dX11_drags_3 rfl ?_
  refine go_getRe (k := 0) ⟨by decide, rfl, by decide, Or.inr ⟨_, rfl⟩⟩ RK.1 (rf_r1 RK) fl_X11_7 dX11_drags_4 ?_
  refine go_iconst (v := (1 : Int32)) rfl dX11_drags_7 ?_
  refine go_ialdN (j := 1) ⟨by decide, by decide, by decide⟩ (rf_k1 RK) rfl (by decide) dX11_drags_8 ?_
  refine go_icmp_ge (tgt := 34) dX11_drags_9 (by decide) (fun hc => ?_) (fun hc => ?_)
  · replace H := H.1 hc
    refine go_iconst (v := (0 : Int32)) rfl dX11_drags_34 ?_
    refine go_istore_n (by decide) dX11_drags_35 ?_
    show go_W mt_X11_drags fr_R 36 [some (pv_r m), some (pv_i x1), some (pv_i x2), some (pv_i (0 : Int32)), none, none, none] [] (mm_si B I) (qi_ (fun x M' => ∃ I', M' = mm_si B I' ∧ P x I'))
    refine go_iload_n dX11_drags_36 rfl ?_
    refine go_istore (by decide) dX11_drags_37 ?_
    show go_W mt_X11_drags fr_R 39 [some (pv_r m), some (pv_i x1), some (pv_i x2), some (pv_i (0 : Int32)), some (pv_i x2), none, none] [] (mm_si B I) (qi_ (fun x M' => ∃ I', M' = mm_si B I' ∧ P x I'))
    refine go_iconst (v := (1 : Int32)) rfl dX11_drags_39 ?_
    refine go_istore (by decide) dX11_drags_40 ?_
    show go_W mt_X11_drags fr_R 42 [some (pv_r m), some (pv_i x1), some (pv_i x2), some (pv_i (0 : Int32)), some (pv_i x2), some (pv_i (1 : Int32)), none] [] (mm_si B I) (qi_ (fun x M' => ∃ I', M' = mm_si B I' ∧ P x I'))
    exact H
  · replace H := H.2 hc
    refine go_aload_n dX11_drags_12 rfl ?_
    refine go_getRe (k := 12) ⟨by decide, rfl, by decide, Or.inr ⟨_, rfl⟩⟩ RK.1 (rf_r7 RK) fl_X11_48 dX11_drags_13 ?_
    refine go_iload_n dX11_drags_16 rfl ?_
    refine go_iload_n dX11_drags_17 rfl ?_
    refine go_iload_n dX11_drags_18 rfl ?_
    refine go_icmp_ne (tgt := 26) dX11_drags_19 (by decide) (fun hc => ?_) (fun hc => ?_)
    · replace H := H.1 hc
      refine go_iconst (v := (0 : Int32)) rfl dX11_drags_26 ?_
      obtain ⟨n1, ⟨hn1, hn1b⟩, H⟩ := H
      refine go_zastN (Or.inl rfl) (j := n1) ⟨by decide, by decide, by decide⟩ (rf_k7 RK) rfl hn1 hn1b dX11_drags_27 ?_
      show go_W mt_X11_drags fr_R 28 [some (pv_r m), some (pv_i x1), some (pv_i x2), some (pv_i x3), none, none, none] [] (mm_si B (i2_u I (m + 7) n1 (0 : Int32))) (qi_ (fun x M' => ∃ I', M' = mm_si B I' ∧ P x I'))
      obtain ⟨I2, hI2⟩ : ∃ I', I' = i2_u I (m + 7) n1 (0 : Int32) := ⟨_, rfl⟩
      rw [← hI2]
      replace H := H I2 hI2
      refine go_iincN (n := n1) (k := 1) hn1 (by decide) rfl rfl dX11_drags_28 ?_
      show go_W mt_X11_drags fr_R 31 [some (pv_r m), some (pv_i x1), some (pv_i x2), some (pv_i (nI (n1 + 1))), none, none, none] [] (mm_si B I2) (qi_ (fun x M' => ∃ I', M' = mm_si B I' ∧ P x I'))
      refine go_goto (tgt := 2) dX11_drags_31 (by decide) ?_
      exact H
    · replace H := H.2 hc
      refine go_iconst (v := (1 : Int32)) rfl dX11_drags_22 ?_
      refine go_goto (tgt := 27) dX11_drags_23 (by decide) ?_
      obtain ⟨n3, ⟨hn3, hn3b⟩, H⟩ := H
      refine go_zastN (Or.inr rfl) (j := n3) ⟨by decide, by decide, by decide⟩ (rf_k7 RK) rfl hn3 hn3b dX11_drags_27 ?_
      show go_W mt_X11_drags fr_R 28 [some (pv_r m), some (pv_i x1), some (pv_i x2), some (pv_i x3), none, none, none] [] (mm_si B (i2_u I (m + 7) n3 (1 : Int32))) (qi_ (fun x M' => ∃ I', M' = mm_si B I' ∧ P x I'))
      obtain ⟨I4, hI4⟩ : ∃ I', I' = i2_u I (m + 7) n3 (1 : Int32) := ⟨_, rfl⟩
      rw [← hI4]
      replace H := H I4 hI4
      refine go_iincN (n := n3) (k := 1) hn3 (by decide) rfl rfl dX11_drags_28 ?_
      show go_W mt_X11_drags fr_R 31 [some (pv_r m), some (pv_i x1), some (pv_i x2), some (pv_i (nI (n3 + 1))), none, none, none] [] (mm_si B I4) (qi_ (fun x M' => ∃ I', M' = mm_si B I' ∧ P x I'))
      refine go_goto (tgt := 2) dX11_drags_31 (by decide) ?_
      exact H
set_option maxRecDepth 20000 in
theorem wq_X11_drags_42 {B : mm_T} {I : Nat → Nat → Int32} {m : Nat} (RK : rf_ok B m) {x1 x2 x3 x4 x5 : Int32} {P : Int32 → (Nat → Nat → Int32) → Prop} (H : (((x5 ≤ 0) → P x3 I) ∧ ((¬ x5 ≤ 0) → rw_i mt_X11_drags 53 [some (pv_r m), some (pv_i x1), some (pv_i x2), some (pv_i x3), some (pv_i x4), some (pv_i (0 : Int32)), some (pv_i (0 : Int32))] [] B I P))) : rw_i mt_X11_drags 42 [some (pv_r m), some (pv_i x1), some (pv_i x2), some (pv_i x3), some (pv_i x4), some (pv_i x5), none] [] B I P := by
  refine go_iload dX11_drags_42 rfl ?_
  refine go_if_le (tgt := 205) dX11_drags_44 (by decide) (fun hc => ?_) (fun hc => ?_)
  · replace H := H.1 hc
    refine go_iload_n dX11_drags_205 rfl ?_
    exact go_iret rfl rfl dX11_drags_206 ⟨_, rfl, _, rfl, H⟩
  · replace H := H.2 hc
    refine go_iconst (v := (0 : Int32)) rfl dX11_drags_47 ?_
    refine go_istore (by decide) dX11_drags_48 ?_
    show go_W mt_X11_drags fr_R 50 [some (pv_r m), some (pv_i x1), some (pv_i x2), some (pv_i x3), some (pv_i x4), some (pv_i (0 : Int32)), none] [] (mm_si B I) (qi_ (fun x M' => ∃ I', M' = mm_si B I' ∧ P x I'))
    refine go_iconst (v := (0 : Int32)) rfl dX11_drags_50 ?_
    refine go_istore (by decide) dX11_drags_51 ?_
    show go_W mt_X11_drags fr_R 53 [some (pv_r m), some (pv_i x1), some (pv_i x2), some (pv_i x3), some (pv_i x4), some (pv_i (0 : Int32)), some (pv_i (0 : Int32))] [] (mm_si B I) (qi_ (fun x M' => ∃ I', M' = mm_si B I' ∧ P x I'))
    exact H
set_option maxRecDepth 20000 in
theorem wq_X11_drags_53 {B : mm_T} {I : Nat → Nat → Int32} {m : Nat} (RK : rf_ok B m) {x1 x2 x3 x4 x5 x6 : Int32} {P : Int32 → (Nat → Nat → Int32) → Prop} (H : (((I (m + 1) 1 ≤ x6) → rw_i mt_X11_drags 125 [some (pv_r m), some (pv_i x1), some (pv_i x2), some (pv_i x3), some (pv_i x4), some (pv_i x5), some (pv_i (0 : Int32))] [] B I P) ∧ ((¬ I (m + 1) 1 ≤ x6) → ∃ n1, (x6 = nI n1 ∧ n1 < 400) ∧ ((((¬ I (m + 1) (200 + 14 * n1 + 6) = (1 : Int32)) → rw_i mt_X11_drags 53 [some (pv_r m), some (pv_i x1), some (pv_i x2), some (pv_i x3), some (pv_i x4), some (pv_i x5), some (pv_i (nI (n1 + 1)))] [] B I P) ∧ ((I (m + 1) (200 + 14 * n1 + 6) = (1 : Int32)) → (((I (m + 1) (200 + 14 * n1 + 4) = (-1 : Int32)) → rw_i mt_X11_drags 53 [some (pv_r m), some (pv_i x1), some (pv_i x2), some (pv_i x3), some (pv_i x4), some (pv_i x5), some (pv_i (nI (n1 + 1)))] [] B I P) ∧ ((¬ I (m + 1) (200 + 14 * n1 + 4) = (-1 : Int32)) → ∃ n2, (I (m + 1) (200 + 14 * n1 + 4) = nI n2 ∧ n2 < 400) ∧ ((((¬ I (m + 7) n2 = 0) → ∀ I3, I3 = i2_u I (m + 8) n1 (1 : Int32) → rw_i mt_X11_drags 53 [some (pv_r m), some (pv_i x1), some (pv_i x2), some (pv_i x3), some (pv_i x4), some (pv_i (x5 + (1 : Int32))), some (pv_i (nI (n1 + 1)))] [] B I3 P) ∧ ((I (m + 7) n2 = 0) → rw_i mt_X11_drags 53 [some (pv_r m), some (pv_i x1), some (pv_i x2), some (pv_i x3), some (pv_i x4), some (pv_i x5), some (pv_i (nI (n1 + 1)))] [] B I P))))))))))) : rw_i mt_X11_drags 53 [some (pv_r m), some (pv_i x1), some (pv_i x2), some (pv_i x3), some (pv_i x4), some (pv_i x5), some (pv_i x6)] [] B I P := by
  refine go_iload dX11_drags_53 rfl ?_
  refine go_aload_n dX11_drags_55 rfl ?_
  refine go_getRe (k := 0) ⟨by decide, rfl, by decide, Or.inr ⟨_, rfl⟩⟩ RK.1 (rf_r1 RK) fl_X11_7 dX11_drags_56 ?_
  refine go_iconst (v := (1 : Int32)) rfl dX11_drags_59 ?_
  refine go_ialdN (j := 1) ⟨by decide, by decide, by decide⟩ (rf_k1 RK) rfl (by decide) dX11_drags_60 ?_
  refine go_icmp_ge (tgt := 122) dX11_drags_61 (by decide) (fun hc => ?_) (fun hc => ?_)
  · replace H := H.1 hc
    refine go_iconst (v := (0 : Int32)) rfl dX11_drags_122 ?_
    refine go_istore (by decide) dX11_drags_123 ?_
    show go_W mt_X11_drags fr_R 125 [some (pv_r m), some (pv_i x1), some (pv_i x2), some (pv_i x3), some (pv_i x4), some (pv_i x5), some (pv_i (0 : Int32))] [] (mm_si B I) (qi_ (fun x M' => ∃ I', M' = mm_si B I' ∧ P x I'))
    exact H
  · replace H := H.2 hc
    refine go_aload_n dX11_drags_64 rfl ?_
    refine go_iload dX11_drags_65 rfl ?_
    refine go_bipush (v := (6 : Int32)) rfl dX11_drags_67 ?_
    obtain ⟨n1, ⟨hn1, hn1b⟩, H⟩ := H
    refine go_V (av := [pv_i x6, pv_i (6 : Int32)]) (st := []) (ci := 11) ok_X11_of ⟨by decide, by decide⟩ ml_X11_94 rfl (by decide) (fun v hv => by simp only [List.mem_cons, List.not_mem_nil, or_false] at hv; rcases hv with rfl | rfl <;> first | exact pv_1i | exact pv_1r) (Nat.le_of_ble_eq_true rfl) (fun _ h => h) (by decide) rfl RK.1 dX11_drags_69 (rx_of RK hn1 rfl hn1b (by decide)) (fun r M' hq _ => ?_)
    obtain ⟨_, rfl, _, rfl, rfl, rfl⟩ := hq
    show go_W mt_X11_drags fr_R 72 [some (pv_r m), some (pv_i x1), some (pv_i x2), some (pv_i x3), some (pv_i x4), some (pv_i x5), some (pv_i x6)] [pv_i (I (m + 1) (200 + 14 * n1 + 6))] (mm_si B I) (qi_ (fun x M' => ∃ I', M' = mm_si B I' ∧ P x I'))
    refine go_iconst (v := (1 : Int32)) rfl dX11_drags_72 ?_
    refine go_icmp_ne (tgt := 116) dX11_drags_73 (by decide) (fun hc => ?_) (fun hc => ?_)
    · replace H := H.1 hc
      refine go_iincN (n := n1) (k := 1) hn1 (by decide) rfl rfl dX11_drags_116 ?_
      show go_W mt_X11_drags fr_R 119 [some (pv_r m), some (pv_i x1), some (pv_i x2), some (pv_i x3), some (pv_i x4), some (pv_i x5), some (pv_i (nI (n1 + 1)))] [] (mm_si B I) (qi_ (fun x M' => ∃ I', M' = mm_si B I' ∧ P x I'))
      refine go_goto (tgt := 53) dX11_drags_119 (by decide) ?_
      exact H
    · replace H := H.2 hc
      refine go_aload_n dX11_drags_76 rfl ?_
      refine go_iload dX11_drags_77 rfl ?_
      refine go_iconst (v := (4 : Int32)) rfl dX11_drags_79 ?_
      refine go_V (av := [pv_i x6, pv_i (4 : Int32)]) (st := []) (ci := 11) ok_X11_of ⟨by decide, by decide⟩ ml_X11_94 rfl (by decide) (fun v hv => by simp only [List.mem_cons, List.not_mem_nil, or_false] at hv; rcases hv with rfl | rfl <;> first | exact pv_1i | exact pv_1r) (Nat.le_of_ble_eq_true rfl) (fun _ h => h) (by decide) rfl RK.1 dX11_drags_80 (rx_of RK hn1 rfl (by omega) (by decide)) (fun r M' hq _ => ?_)
      obtain ⟨_, rfl, _, rfl, rfl, rfl⟩ := hq
      show go_W mt_X11_drags fr_R 83 [some (pv_r m), some (pv_i x1), some (pv_i x2), some (pv_i x3), some (pv_i x4), some (pv_i x5), some (pv_i x6)] [pv_i (I (m + 1) (200 + 14 * n1 + 4))] (mm_si B I) (qi_ (fun x M' => ∃ I', M' = mm_si B I' ∧ P x I'))
      refine go_iconst (v := (-1 : Int32)) rfl dX11_drags_83 ?_
      refine go_icmp_eq (tgt := 116) dX11_drags_84 (by decide) (fun hc => ?_) (fun hc => ?_)
      · replace H := H.1 hc
        refine go_iincN (n := n1) (k := 1) hn1 (by decide) rfl rfl dX11_drags_116 ?_
        show go_W mt_X11_drags fr_R 119 [some (pv_r m), some (pv_i x1), some (pv_i x2), some (pv_i x3), some (pv_i x4), some (pv_i x5), some (pv_i (nI (n1 + 1)))] [] (mm_si B I) (qi_ (fun x M' => ∃ I', M' = mm_si B I' ∧ P x I'))
        refine go_goto (tgt := 53) dX11_drags_119 (by decide) ?_
        exact H
      · replace H := H.2 hc
        refine go_aload_n dX11_drags_87 rfl ?_
        refine go_getRe (k := 12) ⟨by decide, rfl, by decide, Or.inr ⟨_, rfl⟩⟩ RK.1 (rf_r7 RK) fl_X11_48 dX11_drags_88 ?_
        refine go_aload_n dX11_drags_91 rfl ?_
        refine go_iload dX11_drags_92 rfl ?_
        refine go_iconst (v := (4 : Int32)) rfl dX11_drags_94 ?_
        refine go_V (av := [pv_i x6, pv_i (4 : Int32)]) (st := [pv_r (m + 7)]) (ci := 11) ok_X11_of ⟨by decide, by decide⟩ ml_X11_94 rfl (by decide) (fun v hv => by simp only [List.mem_cons, List.not_mem_nil, or_false] at hv; rcases hv with rfl | rfl <;> first | exact pv_1i | exact pv_1r) (Nat.le_of_ble_eq_true rfl) (fun _ h => h) (by decide) rfl RK.1 dX11_drags_95 (rx_of RK hn1 rfl (by omega) (by decide)) (fun r M' hq _ => ?_)
        obtain ⟨_, rfl, _, rfl, rfl, rfl⟩ := hq
        show go_W mt_X11_drags fr_R 98 [some (pv_r m), some (pv_i x1), some (pv_i x2), some (pv_i x3), some (pv_i x4), some (pv_i x5), some (pv_i x6)] [pv_i (I (m + 1) (200 + 14 * n1 + 4)), pv_r (m + 7)] (mm_si B I) (qi_ (fun x M' => ∃ I', M' = mm_si B I' ∧ P x I'))
        obtain ⟨n2, ⟨hn2, hn2b⟩, H⟩ := H
        refine go_zaldN (j := n2) ⟨by decide, by decide, by decide⟩ (rf_k7 RK) hn2 hn2b dX11_drags_98 ?_
        refine go_if_ne (tgt := 105) dX11_drags_99 (by decide) (fun hc => ?_) (fun hc => ?_)
        · replace H := H.1 hc
          refine go_aload_n dX11_drags_105 rfl ?_
          refine go_getRe (k := 13) ⟨by decide, rfl, by decide, Or.inr ⟨_, rfl⟩⟩ RK.1 (rf_r8 RK) fl_X11_52 dX11_drags_106 ?_
          refine go_iload dX11_drags_109 rfl ?_
          refine go_iconst (v := (1 : Int32)) rfl dX11_drags_111 ?_
          refine go_zastN (Or.inr rfl) (j := n1) ⟨by decide, by decide, by decide⟩ (rf_k8 RK) rfl hn1 (by omega) dX11_drags_112 ?_
          show go_W mt_X11_drags fr_R 113 [some (pv_r m), some (pv_i x1), some (pv_i x2), some (pv_i x3), some (pv_i x4), some (pv_i x5), some (pv_i x6)] [] (mm_si B (i2_u I (m + 8) n1 (1 : Int32))) (qi_ (fun x M' => ∃ I', M' = mm_si B I' ∧ P x I'))
          obtain ⟨I3, hI3⟩ : ∃ I', I' = i2_u I (m + 8) n1 (1 : Int32) := ⟨_, rfl⟩
          rw [← hI3]
          replace H := H I3 hI3
          refine go_iinc (v := (1 : Int32)) (by decide) rfl rfl dX11_drags_113 ?_
          show go_W mt_X11_drags fr_R 116 [some (pv_r m), some (pv_i x1), some (pv_i x2), some (pv_i x3), some (pv_i x4), some (pv_i (x5 + (1 : Int32))), some (pv_i x6)] [] (mm_si B I3) (qi_ (fun x M' => ∃ I', M' = mm_si B I' ∧ P x I'))
          refine go_iincN (n := n1) (k := 1) hn1 (by decide) rfl rfl dX11_drags_116 ?_
          show go_W mt_X11_drags fr_R 119 [some (pv_r m), some (pv_i x1), some (pv_i x2), some (pv_i x3), some (pv_i x4), some (pv_i (x5 + (1 : Int32))), some (pv_i (nI (n1 + 1)))] [] (mm_si B I3) (qi_ (fun x M' => ∃ I', M' = mm_si B I' ∧ P x I'))
          refine go_goto (tgt := 53) dX11_drags_119 (by decide) ?_
          exact H
        · replace H := H.2 hc
          refine go_goto (tgt := 116) dX11_drags_102 (by decide) ?_
          refine go_iincN (n := n1) (k := 1) hn1 (by decide) rfl rfl dX11_drags_116 ?_
          show go_W mt_X11_drags fr_R 119 [some (pv_r m), some (pv_i x1), some (pv_i x2), some (pv_i x3), some (pv_i x4), some (pv_i x5), some (pv_i (nI (n1 + 1)))] [] (mm_si B I) (qi_ (fun x M' => ∃ I', M' = mm_si B I' ∧ P x I'))
          refine go_goto (tgt := 53) dX11_drags_119 (by decide) ?_
          exact H
set_option maxRecDepth 20000 in
theorem wq_X11_drags_125 {B : mm_T} {I : Nat → Nat → Int32} {m : Nat} (RK : rf_ok B m) {x1 x2 x3 x4 x5 x6 : Int32} {P : Int32 → (Nat → Nat → Int32) → Prop} (H : (((I (m + 1) 1 ≤ x6) → rw_i mt_X11_drags 42 [some (pv_r m), some (pv_i x1), some (pv_i x2), some (pv_i (x3 + x5)), some (pv_i (100 : Int32)), some (pv_i x5), none] [] B I P) ∧ ((¬ I (m + 1) 1 ≤ x6) → ∃ n1, (x6 = nI n1 ∧ n1 < 400) ∧ ((I (m + 8) n1 = 0 ∨ I (m + 8) n1 = 1) ∧ ∀ I2, I2 = i2_u I (m + 7) n1 (I (m + 8) n1) → ∀ I3, I3 = i2_u I2 (m + 8) n1 (0 : Int32) → (((¬ I3 (m + 7) n1 = 0) → rs_v mt_X11_blames [pv_r m, pv_i x6, pv_i x4] B I3 (fun I4 => rs_v mt_X11_goesAside [pv_r m, pv_i x6, pv_i x4] B I4 (fun I5 => rw_i mt_X11_drags 125 [some (pv_r m), some (pv_i x1), some (pv_i x2), some (pv_i x3), some (pv_i x4), some (pv_i x5), some (pv_i (nI (n1 + 1)))] [] B I5 P))) ∧ ((I3 (m + 7) n1 = 0) → rw_i mt_X11_drags 125 [some (pv_r m), some (pv_i x1), some (pv_i x2), some (pv_i x3), some (pv_i x4), some (pv_i x5), some (pv_i (nI (n1 + 1)))] [] B I3 P)))))) : rw_i mt_X11_drags 125 [some (pv_r m), some (pv_i x1), some (pv_i x2), some (pv_i x3), some (pv_i x4), some (pv_i x5), some (pv_i x6)] [] B I P := by
  refine go_iload dX11_drags_125 rfl ?_
  refine go_aload_n dX11_drags_127 rfl ?_
  refine go_getRe (k := 0) ⟨by decide, rfl, by decide, Or.inr ⟨_, rfl⟩⟩ RK.1 (rf_r1 RK) fl_X11_7 dX11_drags_128 ?_
  refine go_iconst (v := (1 : Int32)) rfl dX11_drags_131 ?_
  refine go_ialdN (j := 1) ⟨by decide, by decide, by decide⟩ (rf_k1 RK) rfl (by decide) dX11_drags_132 ?_
  refine go_icmp_ge (tgt := 193) dX11_drags_133 (by decide) (fun hc => ?_) (fun hc => ?_)
  · replace H := H.1 hc
    refine go_iload_n dX11_drags_193 rfl ?_
    refine go_iload dX11_drags_194 rfl ?_
    refine go_iadd dX11_drags_196 ?_
    refine go_istore_n (by decide) dX11_drags_197 ?_
    show go_W mt_X11_drags fr_R 198 [some (pv_r m), some (pv_i x1), some (pv_i x2), some (pv_i (x3 + x5)), some (pv_i x4), some (pv_i x5), some (pv_i x6)] [] (mm_si B I) (qi_ (fun x M' => ∃ I', M' = mm_si B I' ∧ P x I'))
    refine go_bipush (v := (100 : Int32)) rfl dX11_drags_198 ?_
    refine go_istore (by decide) dX11_drags_200 ?_
    show go_W mt_X11_drags fr_R 202 [some (pv_r m), some (pv_i x1), some (pv_i x2), some (pv_i (x3 + x5)), some (pv_i (100 : Int32)), some (pv_i x5), some (pv_i x6)] [] (mm_si B I) (qi_ (fun x M' => ∃ I', M' = mm_si B I' ∧ P x I'))
    refine go_goto (tgt := 42) dX11_drags_202 (by decide) ?_
    exact go_fg (ls' := [some (pv_r m), some (pv_i x1), some (pv_i x2), some (pv_i (x3 + x5)), some (pv_i (100 : Int32)), some (pv_i x5), none]) ⟨rfl, ⟨rfl, ⟨rfl, ⟨rfl, ⟨rfl, ⟨rfl, trivial⟩⟩⟩⟩⟩⟩ H
  · replace H := H.2 hc
    refine go_aload_n dX11_drags_136 rfl ?_
    refine go_getRe (k := 12) ⟨by decide, rfl, by decide, Or.inr ⟨_, rfl⟩⟩ RK.1 (rf_r7 RK) fl_X11_48 dX11_drags_137 ?_
    refine go_iload dX11_drags_140 rfl ?_
    refine go_aload_n dX11_drags_142 rfl ?_
    refine go_getRe (k := 13) ⟨by decide, rfl, by decide, Or.inr ⟨_, rfl⟩⟩ RK.1 (rf_r8 RK) fl_X11_52 dX11_drags_143 ?_
    refine go_iload dX11_drags_146 rfl ?_
    obtain ⟨n1, ⟨hn1, hn1b⟩, H⟩ := H
    refine go_zaldN (j := n1) ⟨by decide, by decide, by decide⟩ (rf_k8 RK) hn1 hn1b dX11_drags_148 ?_
    obtain ⟨hz, H⟩ := H
    refine go_zastN hz (j := n1) ⟨by decide, by decide, by decide⟩ (rf_k7 RK) rfl hn1 (by omega) dX11_drags_149 ?_
    show go_W mt_X11_drags fr_R 150 [some (pv_r m), some (pv_i x1), some (pv_i x2), some (pv_i x3), some (pv_i x4), some (pv_i x5), some (pv_i x6)] [] (mm_si B (i2_u I (m + 7) n1 (I (m + 8) n1))) (qi_ (fun x M' => ∃ I', M' = mm_si B I' ∧ P x I'))
    obtain ⟨I2, hI2⟩ : ∃ I', I' = i2_u I (m + 7) n1 (I (m + 8) n1) := ⟨_, rfl⟩
    rw [← hI2]
    replace H := H I2 hI2
    refine go_aload_n dX11_drags_150 rfl ?_
    refine go_getRe (k := 13) ⟨by decide, rfl, by decide, Or.inr ⟨_, rfl⟩⟩ RK.1 (rf_r8 RK) fl_X11_52 dX11_drags_151 ?_
    refine go_iload dX11_drags_154 rfl ?_
    refine go_iconst (v := (0 : Int32)) rfl dX11_drags_156 ?_
    refine go_zastN (Or.inl rfl) (j := n1) ⟨by decide, by decide, by decide⟩ (rf_k8 RK) rfl hn1 (by omega) dX11_drags_157 ?_
    show go_W mt_X11_drags fr_R 158 [some (pv_r m), some (pv_i x1), some (pv_i x2), some (pv_i x3), some (pv_i x4), some (pv_i x5), some (pv_i x6)] [] (mm_si B (i2_u I2 (m + 8) n1 (0 : Int32))) (qi_ (fun x M' => ∃ I', M' = mm_si B I' ∧ P x I'))
    obtain ⟨I3, hI3⟩ : ∃ I', I' = i2_u I2 (m + 8) n1 (0 : Int32) := ⟨_, rfl⟩
    rw [← hI3]
    replace H := H I3 hI3
    refine go_aload_n dX11_drags_158 rfl ?_
    refine go_getRe (k := 12) ⟨by decide, rfl, by decide, Or.inr ⟨_, rfl⟩⟩ RK.1 (rf_r7 RK) fl_X11_48 dX11_drags_159 ?_
    refine go_iload dX11_drags_162 rfl ?_
    refine go_zaldN (j := n1) ⟨by decide, by decide, by decide⟩ (rf_k7 RK) hn1 (by omega) dX11_drags_164 ?_
    refine go_if_ne (tgt := 171) dX11_drags_165 (by decide) (fun hc => ?_) (fun hc => ?_)
    · replace H := H.1 hc
      refine go_aload_n dX11_drags_171 rfl ?_
      refine go_iload dX11_drags_172 rfl ?_
      refine go_iload dX11_drags_174 rfl ?_
      refine go_V (av := [pv_i x6, pv_i x4]) (st := []) (ci := 11) ok_X11_blames ⟨by decide, by decide⟩ ml_X11_129 rfl (by decide) (fun v hv => by simp only [List.mem_cons, List.not_mem_nil, or_false] at hv; rcases hv with rfl | rfl <;> first | exact pv_1i | exact pv_1r) (Nat.le_of_ble_eq_true rfl) (fun _ h => h) (by decide) rfl RK.1 dX11_drags_176 H (fun r M' hq _ => ?_)
      obtain ⟨rfl, I4, rfl, H⟩ := hq
      show go_W mt_X11_drags fr_R 179 [some (pv_r m), some (pv_i x1), some (pv_i x2), some (pv_i x3), some (pv_i x4), some (pv_i x5), some (pv_i x6)] [] (mm_si B I4) (qi_ (fun x M' => ∃ I', M' = mm_si B I' ∧ P x I'))
      refine go_aload_n dX11_drags_179 rfl ?_
      refine go_iload dX11_drags_180 rfl ?_
      refine go_iload dX11_drags_182 rfl ?_
      refine go_V (av := [pv_i x6, pv_i x4]) (st := []) (ci := 11) ok_X11_goesAside ⟨by decide, by decide⟩ ml_X11_133 rfl (by decide) (fun v hv => by simp only [List.mem_cons, List.not_mem_nil, or_false] at hv; rcases hv with rfl | rfl <;> first | exact pv_1i | exact pv_1r) (Nat.le_of_ble_eq_true rfl) (fun _ h => h) (by decide) rfl RK.1 dX11_drags_184 H (fun r M' hq _ => ?_)
      obtain ⟨rfl, I5, rfl, H⟩ := hq
      show go_W mt_X11_drags fr_R 187 [some (pv_r m), some (pv_i x1), some (pv_i x2), some (pv_i x3), some (pv_i x4), some (pv_i x5), some (pv_i x6)] [] (mm_si B I5) (qi_ (fun x M' => ∃ I', M' = mm_si B I' ∧ P x I'))
      refine go_iincN (n := n1) (k := 1) hn1 (by decide) rfl rfl dX11_drags_187 ?_
      show go_W mt_X11_drags fr_R 190 [some (pv_r m), some (pv_i x1), some (pv_i x2), some (pv_i x3), some (pv_i x4), some (pv_i x5), some (pv_i (nI (n1 + 1)))] [] (mm_si B I5) (qi_ (fun x M' => ∃ I', M' = mm_si B I' ∧ P x I'))
      refine go_goto (tgt := 125) dX11_drags_190 (by decide) ?_
      exact H
    · replace H := H.2 hc
      refine go_goto (tgt := 187) dX11_drags_168 (by decide) ?_
      refine go_iincN (n := n1) (k := 1) hn1 (by decide) rfl rfl dX11_drags_187 ?_
      show go_W mt_X11_drags fr_R 190 [some (pv_r m), some (pv_i x1), some (pv_i x2), some (pv_i x3), some (pv_i x4), some (pv_i x5), some (pv_i (nI (n1 + 1)))] [] (mm_si B I3) (qi_ (fun x M' => ∃ I', M' = mm_si B I' ∧ P x I'))
      refine go_goto (tgt := 125) dX11_drags_190 (by decide) ?_
      exact H
set_option maxRecDepth 20000 in
theorem wq_X11_leavesWorker_0 {B : mm_T} {I : Nat → Nat → Int32} {m : Nat} (RK : rf_ok B m) {x1 : Int32} {P : (Nat → Nat → Int32) → Prop} (H : ∃ n1, (x1 = nI n1 ∧ n1 < 400) ∧ (∃ n2, (I (m + 1) (200 + 14 * n1 + 9) = nI n2 ∧ n2 < 6) ∧ (∀ I3, I3 = i2_u I (m + 1) ((60 + 4 * n2) + 0) (-1 : Int32) → ∀ I4, I4 = i2_u I3 (m + 1) (200 + 14 * n1 + 9) (-1 : Int32) → ∀ I5, I5 = i2_u I4 (m + 1) (200 + 14 * n1 + 10) (-1 : Int32) → ∀ I6, I6 = i2_u I5 (m + 1) (200 + 14 * n1 + 11) (-1 : Int32) → P I6))) : rw_v mt_X11_leavesWorker 0 [some (pv_r m), some (pv_i x1)] [] B I P := by
  refine go_aload_n dX11_leavesWorker_0 rfl ?_
  refine go_getRe (k := 0) ⟨by decide, rfl, by decide, Or.inr ⟨_, rfl⟩⟩ RK.1 (rf_r1 RK) fl_X11_7 dX11_leavesWorker_1 ?_
  refine go_aload_n dX11_leavesWorker_4 rfl ?_
  refine go_iload_n dX11_leavesWorker_5 rfl ?_
  refine go_bipush (v := (9 : Int32)) rfl dX11_leavesWorker_6 ?_
  obtain ⟨n1, ⟨hn1, hn1b⟩, H⟩ := H
  refine go_V (av := [pv_i x1, pv_i (9 : Int32)]) (st := [pv_r (m + 1)]) (ci := 11) ok_X11_of ⟨by decide, by decide⟩ ml_X11_94 rfl (by decide) (fun v hv => by simp only [List.mem_cons, List.not_mem_nil, or_false] at hv; rcases hv with rfl | rfl <;> first | exact pv_1i | exact pv_1r) (Nat.le_of_ble_eq_true rfl) (fun _ h => h) (by decide) rfl RK.1 dX11_leavesWorker_8 (rx_of RK hn1 rfl hn1b (by decide)) (fun r M' hq _ => ?_)
  obtain ⟨_, rfl, _, rfl, rfl, rfl⟩ := hq
  show go_W mt_X11_leavesWorker fr_R 11 [some (pv_r m), some (pv_i x1)] [pv_i (I (m + 1) (200 + 14 * n1 + 9)), pv_r (m + 1)] (mm_si B I) (qv_ (fun M' => ∃ I', M' = mm_si B I' ∧ P I'))
  obtain ⟨n2, ⟨hn2, hn2b⟩, H⟩ := H
  refine go_St (av := [pv_i (I (m + 1) (200 + 14 * n1 + 9))]) (st := [pv_r (m + 1)]) ok_X11_workerAt ⟨by decide, by decide⟩ ml_X11_84 rfl (by decide) (fun v hv => by simp only [List.mem_cons, List.not_mem_nil, or_false] at hv; rcases hv with rfl <;> first | exact pv_1i | exact pv_1r) (Nat.le_of_ble_eq_true rfl) (fun _ h => h) dX11_leavesWorker_11 (rx_workerAt RK hn2) (fun r M' hq _ => ?_)
  obtain ⟨_, rfl, _, rfl, rfl, rfl⟩ := hq
  show go_W mt_X11_leavesWorker fr_R 14 [some (pv_r m), some (pv_i x1)] [pv_i (nI (60 + 4 * n2)), pv_r (m + 1)] (mm_si B I) (qv_ (fun M' => ∃ I', M' = mm_si B I' ∧ P I'))
  refine go_iconst (v := (0 : Int32)) rfl dX11_leavesWorker_14 ?_
  refine go_iadd dX11_leavesWorker_15 ?_
  refine go_iconst (v := (-1 : Int32)) rfl dX11_leavesWorker_16 ?_
  refine go_iastN (j := ((60 + 4 * n2) + 0)) ⟨by decide, by decide, by decide⟩ (rf_k1 RK) rfl (nI_ae rfl rfl) (by omega) dX11_leavesWorker_17 ?_
  show go_W mt_X11_leavesWorker fr_R 18 [some (pv_r m), some (pv_i x1)] [] (mm_si B (i2_u I (m + 1) ((60 + 4 * n2) + 0) (-1 : Int32))) (qv_ (fun M' => ∃ I', M' = mm_si B I' ∧ P I'))
  obtain ⟨I3, hI3⟩ : ∃ I', I' = i2_u I (m + 1) ((60 + 4 * n2) + 0) (-1 : Int32) := ⟨_, rfl⟩
  rw [← hI3]
  replace H := H I3 hI3
  refine go_aload_n dX11_leavesWorker_18 rfl ?_
  refine go_iload_n dX11_leavesWorker_19 rfl ?_
  refine go_bipush (v := (9 : Int32)) rfl dX11_leavesWorker_20 ?_
  refine go_iconst (v := (-1 : Int32)) rfl dX11_leavesWorker_22 ?_
  refine go_V (av := [pv_i x1, pv_i (9 : Int32), pv_i (-1 : Int32)]) (st := []) (ci := 11) ok_X11_is ⟨by decide, by decide⟩ ml_X11_121 rfl (by decide) (fun v hv => by simp only [List.mem_cons, List.not_mem_nil, or_false] at hv; rcases hv with rfl | rfl | rfl <;> first | exact pv_1i | exact pv_1r) (Nat.le_of_ble_eq_true rfl) (fun _ h => h) (by decide) rfl RK.1 dX11_leavesWorker_23 (rx_is RK hn1 rfl (by omega) (by decide)) (fun r M' hq _ => ?_)
  obtain ⟨rfl, _, rfl, rfl⟩ := hq
  show go_W mt_X11_leavesWorker fr_R 26 [some (pv_r m), some (pv_i x1)] [] (mm_si B (i2_u I3 (m + 1) (200 + 14 * n1 + 9) (-1 : Int32))) (qv_ (fun M' => ∃ I', M' = mm_si B I' ∧ P I'))
  obtain ⟨I4, hI4⟩ : ∃ I', I' = i2_u I3 (m + 1) (200 + 14 * n1 + 9) (-1 : Int32) := ⟨_, rfl⟩
  rw [← hI4]
  replace H := H I4 hI4
  refine go_aload_n dX11_leavesWorker_26 rfl ?_
  refine go_iload_n dX11_leavesWorker_27 rfl ?_
  refine go_bipush (v := (10 : Int32)) rfl dX11_leavesWorker_28 ?_
  refine go_iconst (v := (-1 : Int32)) rfl dX11_leavesWorker_30 ?_
  refine go_V (av := [pv_i x1, pv_i (10 : Int32), pv_i (-1 : Int32)]) (st := []) (ci := 11) ok_X11_is ⟨by decide, by decide⟩ ml_X11_121 rfl (by decide) (fun v hv => by simp only [List.mem_cons, List.not_mem_nil, or_false] at hv; rcases hv with rfl | rfl | rfl <;> first | exact pv_1i | exact pv_1r) (Nat.le_of_ble_eq_true rfl) (fun _ h => h) (by decide) rfl RK.1 dX11_leavesWorker_31 (rx_is RK hn1 rfl (by omega) (by decide)) (fun r M' hq _ => ?_)
  obtain ⟨rfl, _, rfl, rfl⟩ := hq
  show go_W mt_X11_leavesWorker fr_R 34 [some (pv_r m), some (pv_i x1)] [] (mm_si B (i2_u I4 (m + 1) (200 + 14 * n1 + 10) (-1 : Int32))) (qv_ (fun M' => ∃ I', M' = mm_si B I' ∧ P I'))
  obtain ⟨I5, hI5⟩ : ∃ I', I' = i2_u I4 (m + 1) (200 + 14 * n1 + 10) (-1 : Int32) := ⟨_, rfl⟩
  rw [← hI5]
  replace H := H I5 hI5
  refine go_aload_n dX11_leavesWorker_34 rfl ?_
  refine go_iload_n dX11_leavesWorker_35 rfl ?_
  refine go_bipush (v := (11 : Int32)) rfl dX11_leavesWorker_36 ?_
  refine go_iconst (v := (-1 : Int32)) rfl dX11_leavesWorker_38 ?_
  refine go_V (av := [pv_i x1, pv_i (11 : Int32), pv_i (-1 : Int32)]) (st := []) (ci := 11) ok_X11_is ⟨by decide, by decide⟩ ml_X11_121 rfl (by decide) (fun v hv => by simp only [List.mem_cons, List.not_mem_nil, or_false] at hv; rcases hv with rfl | rfl | rfl <;> first | exact pv_1i | exact pv_1r) (Nat.le_of_ble_eq_true rfl) (fun _ h => h) (by decide) rfl RK.1 dX11_leavesWorker_39 (rx_is RK hn1 rfl (by omega) (by decide)) (fun r M' hq _ => ?_)
  obtain ⟨rfl, _, rfl, rfl⟩ := hq
  show go_W mt_X11_leavesWorker fr_R 42 [some (pv_r m), some (pv_i x1)] [] (mm_si B (i2_u I5 (m + 1) (200 + 14 * n1 + 11) (-1 : Int32))) (qv_ (fun M' => ∃ I', M' = mm_si B I' ∧ P I'))
  obtain ⟨I6, hI6⟩ : ∃ I', I' = i2_u I5 (m + 1) (200 + 14 * n1 + 11) (-1 : Int32) := ⟨_, rfl⟩
  rw [← hI6]
  replace H := H I6 hI6
  exact go_vret rfl dX11_leavesWorker_42 ⟨rfl, _, rfl, H⟩
set_option maxRecDepth 20000 in
theorem wq_X11_isDoneNow_0 {B : mm_T} {I : Nat → Nat → Int32} {m : Nat} (RK : rf_ok B m) {x1 : Int32} {P : (Nat → Nat → Int32) → Prop} (H : ∃ n1, (x1 = nI n1 ∧ n1 < 400) ∧ (rs_v mt_X11_writes [pv_r m, pv_i (2 : Int32), pv_i x1, pv_i (I (m + 1) (200 + 14 * n1 + 9)), pv_i (0 : Int32)] B I (fun I2 => ∃ n3, (I (m + 1) (200 + 14 * n1 + 9) = nI n3 ∧ n3 < 6) ∧ (∀ I4, I4 = i2_u I2 (m + 1) ((60 + 4 * n3) + 2) (I2 (m + 1) ((60 + 4 * n3) + 2) + (1 : Int32)) → rs_v mt_X11_leavesWorker [pv_r m, pv_i x1] B I4 (fun I5 => ∀ I6, I6 = i2_u I5 (m + 1) (200 + 14 * n1 + 12) (I5 (m + 1) 0) → rs_v mt_X11_frees [pv_r m, pv_i x1] B I6 (fun I7 => rs_v mt_X11_closes [pv_r m] B I7 (fun I8 => P I8))))))) : rw_v mt_X11_isDoneNow 0 [some (pv_r m), some (pv_i x1), none] [] B I P := by
  refine go_aload_n dX11_isDoneNow_0 rfl ?_
  refine go_iload_n dX11_isDoneNow_1 rfl ?_
  refine go_bipush (v := (9 : Int32)) rfl dX11_isDoneNow_2 ?_
  obtain ⟨n1, ⟨hn1, hn1b⟩, H⟩ := H
  refine go_V (av := [pv_i x1, pv_i (9 : Int32)]) (st := []) (ci := 11) ok_X11_of ⟨by decide, by decide⟩ ml_X11_94 rfl (by decide) (fun v hv => by simp only [List.mem_cons, List.not_mem_nil, or_false] at hv; rcases hv with rfl | rfl <;> first | exact pv_1i | exact pv_1r) (Nat.le_of_ble_eq_true rfl) (fun _ h => h) (by decide) rfl RK.1 dX11_isDoneNow_4 (rx_of RK hn1 rfl hn1b (by decide)) (fun r M' hq _ => ?_)
  obtain ⟨_, rfl, _, rfl, rfl, rfl⟩ := hq
  show go_W mt_X11_isDoneNow fr_R 7 [some (pv_r m), some (pv_i x1), none] [pv_i (I (m + 1) (200 + 14 * n1 + 9))] (mm_si B I) (qv_ (fun M' => ∃ I', M' = mm_si B I' ∧ P I'))
  refine go_istore_n (by decide) dX11_isDoneNow_7 ?_
  show go_W mt_X11_isDoneNow fr_R 8 [some (pv_r m), some (pv_i x1), some (pv_i (I (m + 1) (200 + 14 * n1 + 9)))] [] (mm_si B I) (qv_ (fun M' => ∃ I', M' = mm_si B I' ∧ P I'))
  refine go_aload_n dX11_isDoneNow_8 rfl ?_
  refine go_iconst (v := (2 : Int32)) rfl dX11_isDoneNow_9 ?_
  refine go_iload_n dX11_isDoneNow_10 rfl ?_
  refine go_iload_n dX11_isDoneNow_11 rfl ?_
  refine go_iconst (v := (0 : Int32)) rfl dX11_isDoneNow_12 ?_
  refine go_V (av := [pv_i (2 : Int32), pv_i x1, pv_i (I (m + 1) (200 + 14 * n1 + 9)), pv_i (0 : Int32)]) (st := []) (ci := 11) ok_X11_writes ⟨by decide, by decide⟩ ml_X11_125 rfl (by decide) (fun v hv => by simp only [List.mem_cons, List.not_mem_nil, or_false] at hv; rcases hv with rfl | rfl | rfl | rfl <;> first | exact pv_1i | exact pv_1r) (Nat.le_of_ble_eq_true rfl) (fun _ h => h) (by decide) rfl RK.1 dX11_isDoneNow_13 H (fun r M' hq _ => ?_)
  obtain ⟨rfl, I2, rfl, H⟩ := hq
  show go_W mt_X11_isDoneNow fr_R 16 [some (pv_r m), some (pv_i x1), some (pv_i (I (m + 1) (200 + 14 * n1 + 9)))] [] (mm_si B I2) (qv_ (fun M' => ∃ I', M' = mm_si B I' ∧ P I'))
  refine go_aload_n dX11_isDoneNow_16 rfl ?_
  refine go_getRe (k := 0) ⟨by decide, rfl, by decide, Or.inr ⟨_, rfl⟩⟩ RK.1 (rf_r1 RK) fl_X11_7 dX11_isDoneNow_17 ?_
  refine go_iload_n dX11_isDoneNow_20 rfl ?_
  obtain ⟨n3, ⟨hn3, hn3b⟩, H⟩ := H
  refine go_St (av := [pv_i (I (m + 1) (200 + 14 * n1 + 9))]) (st := [pv_r (m + 1)]) ok_X11_workerAt ⟨by decide, by decide⟩ ml_X11_84 rfl (by decide) (fun v hv => by simp only [List.mem_cons, List.not_mem_nil, or_false] at hv; rcases hv with rfl <;> first | exact pv_1i | exact pv_1r) (Nat.le_of_ble_eq_true rfl) (fun _ h => h) dX11_isDoneNow_21 (rx_workerAt RK hn3) (fun r M' hq _ => ?_)
  obtain ⟨_, rfl, _, rfl, rfl, rfl⟩ := hq
  show go_W mt_X11_isDoneNow fr_R 24 [some (pv_r m), some (pv_i x1), some (pv_i (I (m + 1) (200 + 14 * n1 + 9)))] [pv_i (nI (60 + 4 * n3)), pv_r (m + 1)] (mm_si B I2) (qv_ (fun M' => ∃ I', M' = mm_si B I' ∧ P I'))
  refine go_iconst (v := (2 : Int32)) rfl dX11_isDoneNow_24 ?_
  refine go_iadd dX11_isDoneNow_25 ?_
  refine go_dup2 pv_1i pv_1r dX11_isDoneNow_26 ?_
  refine go_ialdN (j := ((60 + 4 * n3) + 2)) ⟨by decide, by decide, by decide⟩ (rf_k1 RK) (nI_ae rfl rfl) (by omega) dX11_isDoneNow_27 ?_
  refine go_iconst (v := (1 : Int32)) rfl dX11_isDoneNow_28 ?_
  refine go_iadd dX11_isDoneNow_29 ?_
  refine go_iastN (j := ((60 + 4 * n3) + 2)) ⟨by decide, by decide, by decide⟩ (rf_k1 RK) rfl (nI_ae rfl rfl) (by omega) dX11_isDoneNow_30 ?_
  show go_W mt_X11_isDoneNow fr_R 31 [some (pv_r m), some (pv_i x1), some (pv_i (I (m + 1) (200 + 14 * n1 + 9)))] [] (mm_si B (i2_u I2 (m + 1) ((60 + 4 * n3) + 2) (I2 (m + 1) ((60 + 4 * n3) + 2) + (1 : Int32)))) (qv_ (fun M' => ∃ I', M' = mm_si B I' ∧ P I'))
  obtain ⟨I4, hI4⟩ : ∃ I', I' = i2_u I2 (m + 1) ((60 + 4 * n3) + 2) (I2 (m + 1) ((60 + 4 * n3) + 2) + (1 : Int32)) := ⟨_, rfl⟩
  rw [← hI4]
  replace H := H I4 hI4
  refine go_aload_n dX11_isDoneNow_31 rfl ?_
  refine go_iload_n dX11_isDoneNow_32 rfl ?_
  refine go_V (av := [pv_i x1]) (st := []) (ci := 11) ok_X11_leavesWorker ⟨by decide, by decide⟩ ml_X11_136 rfl (by decide) (fun v hv => by simp only [List.mem_cons, List.not_mem_nil, or_false] at hv; rcases hv with rfl <;> first | exact pv_1i | exact pv_1r) (Nat.le_of_ble_eq_true rfl) (fun _ h => h) (by decide) rfl RK.1 dX11_isDoneNow_33 H (fun r M' hq _ => ?_)
  obtain ⟨rfl, I5, rfl, H⟩ := hq
  show go_W mt_X11_isDoneNow fr_R 36 [some (pv_r m), some (pv_i x1), some (pv_i (I (m + 1) (200 + 14 * n1 + 9)))] [] (mm_si B I5) (qv_ (fun M' => ∃ I', M' = mm_si B I' ∧ P I'))
  refine go_aload_n dX11_isDoneNow_36 rfl ?_
  refine go_iload_n dX11_isDoneNow_37 rfl ?_
  refine go_bipush (v := (12 : Int32)) rfl dX11_isDoneNow_38 ?_
  refine go_aload_n dX11_isDoneNow_40 rfl ?_
  refine go_getRe (k := 0) ⟨by decide, rfl, by decide, Or.inr ⟨_, rfl⟩⟩ RK.1 (rf_r1 RK) fl_X11_7 dX11_isDoneNow_41 ?_
  refine go_iconst (v := (0 : Int32)) rfl dX11_isDoneNow_44 ?_
  refine go_ialdN (j := 0) ⟨by decide, by decide, by decide⟩ (rf_k1 RK) rfl (by decide) dX11_isDoneNow_45 ?_
  refine go_V (av := [pv_i x1, pv_i (12 : Int32), pv_i (I5 (m + 1) 0)]) (st := []) (ci := 11) ok_X11_is ⟨by decide, by decide⟩ ml_X11_121 rfl (by decide) (fun v hv => by simp only [List.mem_cons, List.not_mem_nil, or_false] at hv; rcases hv with rfl | rfl | rfl <;> first | exact pv_1i | exact pv_1r) (Nat.le_of_ble_eq_true rfl) (fun _ h => h) (by decide) rfl RK.1 dX11_isDoneNow_46 (rx_is RK hn1 rfl (by omega) (by decide)) (fun r M' hq _ => ?_)
  obtain ⟨rfl, _, rfl, rfl⟩ := hq
  show go_W mt_X11_isDoneNow fr_R 49 [some (pv_r m), some (pv_i x1), some (pv_i (I (m + 1) (200 + 14 * n1 + 9)))] [] (mm_si B (i2_u I5 (m + 1) (200 + 14 * n1 + 12) (I5 (m + 1) 0))) (qv_ (fun M' => ∃ I', M' = mm_si B I' ∧ P I'))
  obtain ⟨I6, hI6⟩ : ∃ I', I' = i2_u I5 (m + 1) (200 + 14 * n1 + 12) (I5 (m + 1) 0) := ⟨_, rfl⟩
  rw [← hI6]
  replace H := H I6 hI6
  refine go_aload_n dX11_isDoneNow_49 rfl ?_
  refine go_iload_n dX11_isDoneNow_50 rfl ?_
  refine go_V (av := [pv_i x1]) (st := []) (ci := 11) ok_X11_frees ⟨by decide, by decide⟩ ml_X11_140 rfl (by decide) (fun v hv => by simp only [List.mem_cons, List.not_mem_nil, or_false] at hv; rcases hv with rfl <;> first | exact pv_1i | exact pv_1r) (Nat.le_of_ble_eq_true rfl) (fun _ h => h) (by decide) rfl RK.1 dX11_isDoneNow_51 H (fun r M' hq _ => ?_)
  obtain ⟨rfl, I7, rfl, H⟩ := hq
  show go_W mt_X11_isDoneNow fr_R 54 [some (pv_r m), some (pv_i x1), some (pv_i (I (m + 1) (200 + 14 * n1 + 9)))] [] (mm_si B I7) (qv_ (fun M' => ∃ I', M' = mm_si B I' ∧ P I'))
  refine go_aload_n dX11_isDoneNow_54 rfl ?_
  refine go_V (av := []) (st := []) (ci := 11) ok_X11_closes ⟨by decide, by decide⟩ ml_X11_143 rfl (by decide) (fun v hv => absurd hv List.not_mem_nil) (Nat.le_of_ble_eq_true rfl) (fun _ h => h) (by decide) rfl RK.1 dX11_isDoneNow_55 H (fun r M' hq _ => ?_)
  obtain ⟨rfl, I8, rfl, H⟩ := hq
  show go_W mt_X11_isDoneNow fr_R 58 [some (pv_r m), some (pv_i x1), some (pv_i (I (m + 1) (200 + 14 * n1 + 9)))] [] (mm_si B I8) (qv_ (fun M' => ∃ I', M' = mm_si B I' ∧ P I'))
  exact go_vret rfl dX11_isDoneNow_58 ⟨rfl, _, rfl, H⟩
