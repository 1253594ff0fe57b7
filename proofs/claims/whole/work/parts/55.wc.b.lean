/-! the walks of the class, by program (wip/whole/walk3.py) -/
set_option maxRecDepth 20000 in
theorem wc_X1_read_0 {M : mm_T} {a0 : Nat} {x1 x2 : Int32} {P : Int32 → mm_T → Prop} (K0 : mm_k M a0 = (1, 3)) (H : (((x1 < 0) → P (-2 : Int32) M) ∧ ((¬ x1 < 0) → (((mm_i M a0 2 ≤ x1) → P (-2 : Int32) M) ∧ ((¬ mm_i M a0 2 ≤ x1) → (((x2 < 0) → P (-2 : Int32) M) ∧ ((¬ x2 < 0) → (((x2 < (6 : Int32)) → (((0 ≤ ((mm_i M a0 1 - (1 : Int32)) - x1)) → ∃ l1, ak_ M (mm_r M a0 0) 0 l1 ∧ (∃ n4, (((((mm_i M a0 1 - (1 : Int32)) - x1) * (6 : Int32)) + x2) = nI n4 ∧ n4 < l1) ∧ (P (mm_i M (mm_r M a0 0) n4) M))) ∧ ((¬ 0 ≤ ((mm_i M a0 1 - (1 : Int32)) - x1)) → ∃ l5, ak_ M (mm_r M a0 0) 0 l5 ∧ (∃ n8, ((((((mm_i M a0 1 - (1 : Int32)) - x1) + (64 : Int32)) * (6 : Int32)) + x2) = nI n8 ∧ n8 < l5) ∧ (P (mm_i M (mm_r M a0 0) n8) M))))) ∧ ((¬ x2 < (6 : Int32)) → P (-2 : Int32) M))))))))) : cw_i mt_X1_read 0 [some (pv_r a0), some (pv_i x1), some (pv_i x2), none] [] M P := by
  refine go_iload_n dX1_read_0 rfl ?_
  refine go_if_lt (tgt := 22) dX1_read_1 (by decide) (fun hc => ?_) (fun hc => ?_)
  · replace H := H.1 hc
    refine go_bipush (v := (-2 : Int32)) rfl dX1_read_22 ?_
    exact go_iret rfl rfl dX1_read_24 ⟨_, rfl, H⟩
  · replace H := H.2 hc
    refine go_iload_n dX1_read_4 rfl ?_
    refine go_aload_n dX1_read_5 rfl ?_
    refine go_getI (k := 2) ⟨by decide, rfl, by decide, rfl⟩ K0 fl_X1_31 dX1_read_6 ?_
    refine go_icmp_ge (tgt := 22) dX1_read_9 (by decide) (fun hc => ?_) (fun hc => ?_)
    · replace H := H.1 hc
      refine go_bipush (v := (-2 : Int32)) rfl dX1_read_22 ?_
      exact go_iret rfl rfl dX1_read_24 ⟨_, rfl, H⟩
    · replace H := H.2 hc
      refine go_iload_n dX1_read_12 rfl ?_
      refine go_if_lt (tgt := 22) dX1_read_13 (by decide) (fun hc => ?_) (fun hc => ?_)
      · replace H := H.1 hc
        refine go_bipush (v := (-2 : Int32)) rfl dX1_read_22 ?_
        exact go_iret rfl rfl dX1_read_24 ⟨_, rfl, H⟩
      · replace H := H.2 hc
        refine go_iload_n dX1_read_16 rfl ?_
        refine go_bipush (v := (6 : Int32)) rfl dX1_read_17 ?_
        refine go_icmp_lt (tgt := 25) dX1_read_19 (by decide) (fun hc => ?_) (fun hc => ?_)
        · replace H := H.1 hc
          refine go_aload_n dX1_read_25 rfl ?_
          refine go_getI (k := 1) ⟨by decide, rfl, by decide, rfl⟩ K0 fl_X1_15 dX1_read_26 ?_
          refine go_iconst (v := (1 : Int32)) rfl dX1_read_29 ?_
          refine go_isub dX1_read_30 ?_
          refine go_iload_n dX1_read_31 rfl ?_
          refine go_isub dX1_read_32 ?_
          refine go_istore_n (by decide) dX1_read_33 ?_
          show go_W mt_X1_read fr_C 34 [some (pv_r a0), some (pv_i x1), some (pv_i x2), some (pv_i ((mm_i M a0 1 - (1 : Int32)) - x1))] [] M (qi_ P)
          refine go_aload_n dX1_read_34 rfl ?_
          refine go_getR (k := 0) ⟨by decide, rfl, by decide, Or.inr ⟨_, rfl⟩⟩ K0 fl_X1_11 dX1_read_35 ?_
          refine go_iload_n dX1_read_38 rfl ?_
          refine go_if_ge (tgt := 49) dX1_read_39 (by decide) (fun hc => ?_) (fun hc => ?_)
          · replace H := H.1 hc
            refine go_iload_n dX1_read_49 rfl ?_
            refine go_bipush (v := (6 : Int32)) rfl dX1_read_50 ?_
            refine go_imul dX1_read_52 ?_
            refine go_iload_n dX1_read_53 rfl ?_
            refine go_iadd dX1_read_54 ?_
            obtain ⟨l1, k2, H⟩ := H
            obtain ⟨n4, ⟨hn4, hn4b⟩, H⟩ := H
            refine go_ialdA (j := n4) k2 hn4 hn4b dX1_read_55 ?_
            exact go_iret rfl rfl dX1_read_56 ⟨_, rfl, H⟩
          · replace H := H.2 hc
            refine go_iload_n dX1_read_42 rfl ?_
            refine go_bipush (v := (64 : Int32)) rfl dX1_read_43 ?_
            refine go_iadd dX1_read_45 ?_
            refine go_goto (tgt := 50) dX1_read_46 (by decide) ?_
            refine go_bipush (v := (6 : Int32)) rfl dX1_read_50 ?_
            refine go_imul dX1_read_52 ?_
            refine go_iload_n dX1_read_53 rfl ?_
            refine go_iadd dX1_read_54 ?_
            obtain ⟨l5, k6, H⟩ := H
            obtain ⟨n8, ⟨hn8, hn8b⟩, H⟩ := H
            refine go_ialdA (j := n8) k6 hn8 hn8b dX1_read_55 ?_
            exact go_iret rfl rfl dX1_read_56 ⟨_, rfl, H⟩
        · replace H := H.2 hc
          refine go_bipush (v := (-2 : Int32)) rfl dX1_read_22 ?_
          exact go_iret rfl rfl dX1_read_24 ⟨_, rfl, H⟩
set_option maxRecDepth 20000 in
theorem wc_X2_init_0 {M : mm_T} {a0 : Nat} {P : mm_T → Prop} (K0 : mm_k M a0 = (2, 1)) (H : P M) : cw_v mt_X2_init 0 [some (pv_r a0)] [] M P := by
  refine go_aload_n dX2_init_0 rfl ?_
  refine go_objInitK (by decide) K0 (Nat.le_of_ble_eq_true rfl) ⟨by decide, by decide⟩ ml_X2_1 im_J_Object_init cd_J_Object_init dX2_init_1 ?_
  exact go_vret rfl dX2_init_4 ⟨rfl, H⟩
set_option maxRecDepth 20000 in
theorem wc_X3_init_0 {M : mm_T} {a0 : Nat} {x1 : Int32} {P : mm_T → Prop} (K0 : mm_k M a0 = (3, 14)) (H : ∀ M1, M1 = mm_pi M a0 1 (1 : Int32) → ∀ M3, M3 = mm_pi M1 a0 2 (12 : Int32) → ∀ M5, M5 = mm_pi M3 a0 3 (6 : Int32) → ∀ M7, M7 = mm_pi M5 a0 4 (0 : Int32) → ∀ M9, M9 = mm_pi M7 a0 12 (-1 : Int32) → ∀ M11, M11 = mm_pi M9 a0 13 (-1 : Int32) → ∀ M13, M13 = mm_pi M11 a0 0 x1 → P M13) : cw_v mt_X3_init 0 [some (pv_r a0), some (pv_i x1)] [] M P := by
  refine go_aload_n dX3_init_0 rfl ?_
  refine go_objInitK (by decide) K0 (Nat.le_of_ble_eq_true rfl) ⟨by decide, by decide⟩ ml_X3_3 im_J_Object_init cd_J_Object_init dX3_init_1 ?_
  refine go_aload_n dX3_init_4 rfl ?_
  refine go_iconst (v := (1 : Int32)) rfl dX3_init_5 ?_
  refine go_putI (k := 1) ⟨by decide, rfl, by decide, rfl⟩ K0 rfl (Or.inr ⟨rfl, rfl⟩) fl_X3_9 dX3_init_6 ?_
  show go_W mt_X3_init fr_C 9 [some (pv_r a0), some (pv_i x1)] [] (mm_pi M a0 1 (1 : Int32)) (qv_ P)
  obtain ⟨M1, hM1⟩ : ∃ M', M' = mm_pi M a0 1 (1 : Int32) := ⟨_, rfl⟩
  have k2 : mm_k M1 a0 = (3, 14) := (by rw [hM1]; exact K0)
  rw [← hM1]
  replace H := H M1 hM1
  refine go_aload_n dX3_init_9 rfl ?_
  refine go_bipush (v := (12 : Int32)) rfl dX3_init_10 ?_
  refine go_putI (k := 2) ⟨by decide, rfl, by decide, rfl⟩ k2 rfl (Or.inr ⟨rfl, rfl⟩) fl_X3_15 dX3_init_12 ?_
  show go_W mt_X3_init fr_C 15 [some (pv_r a0), some (pv_i x1)] [] (mm_pi M1 a0 2 (12 : Int32)) (qv_ P)
  obtain ⟨M3, hM3⟩ : ∃ M', M' = mm_pi M1 a0 2 (12 : Int32) := ⟨_, rfl⟩
  have k4 : mm_k M3 a0 = (3, 14) := (by rw [hM3]; exact k2)
  rw [← hM3]
  replace H := H M3 hM3
  refine go_aload_n dX3_init_15 rfl ?_
  refine go_bipush (v := (6 : Int32)) rfl dX3_init_16 ?_
  refine go_putI (k := 3) ⟨by decide, rfl, by decide, rfl⟩ k4 rfl (Or.inr ⟨rfl, rfl⟩) fl_X3_18 dX3_init_18 ?_
  show go_W mt_X3_init fr_C 21 [some (pv_r a0), some (pv_i x1)] [] (mm_pi M3 a0 3 (6 : Int32)) (qv_ P)
  obtain ⟨M5, hM5⟩ : ∃ M', M' = mm_pi M3 a0 3 (6 : Int32) := ⟨_, rfl⟩
  have k6 : mm_k M5 a0 = (3, 14) := (by rw [hM5]; exact k4)
  rw [← hM5]
  replace H := H M5 hM5
  refine go_aload_n dX3_init_21 rfl ?_
  refine go_iconst (v := (0 : Int32)) rfl dX3_init_22 ?_
  refine go_putI (k := 4) ⟨by decide, rfl, by decide, rfl⟩ k6 rfl (Or.inr ⟨rfl, rfl⟩) fl_X3_21 dX3_init_23 ?_
  show go_W mt_X3_init fr_C 26 [some (pv_r a0), some (pv_i x1)] [] (mm_pi M5 a0 4 (0 : Int32)) (qv_ P)
  obtain ⟨M7, hM7⟩ : ∃ M', M' = mm_pi M5 a0 4 (0 : Int32) := ⟨_, rfl⟩
  have k8 : mm_k M7 a0 = (3, 14) := (by rw [hM7]; exact k6)
  rw [← hM7]
  replace H := H M7 hM7
  refine go_aload_n dX3_init_26 rfl ?_
  refine go_iconst (v := (-1 : Int32)) rfl dX3_init_27 ?_
  refine go_putI (k := 12) ⟨by decide, rfl, by decide, rfl⟩ k8 rfl (Or.inr ⟨rfl, rfl⟩) fl_X3_24 dX3_init_28 ?_
  show go_W mt_X3_init fr_C 31 [some (pv_r a0), some (pv_i x1)] [] (mm_pi M7 a0 12 (-1 : Int32)) (qv_ P)
  obtain ⟨M9, hM9⟩ : ∃ M', M' = mm_pi M7 a0 12 (-1 : Int32) := ⟨_, rfl⟩
  have k10 : mm_k M9 a0 = (3, 14) := (by rw [hM9]; exact k8)
  rw [← hM9]
  replace H := H M9 hM9
  refine go_aload_n dX3_init_31 rfl ?_
  refine go_iconst (v := (-1 : Int32)) rfl dX3_init_32 ?_
  refine go_putI (k := 13) ⟨by decide, rfl, by decide, rfl⟩ k10 rfl (Or.inr ⟨rfl, rfl⟩) fl_X3_27 dX3_init_33 ?_
  show go_W mt_X3_init fr_C 36 [some (pv_r a0), some (pv_i x1)] [] (mm_pi M9 a0 13 (-1 : Int32)) (qv_ P)
  obtain ⟨M11, hM11⟩ : ∃ M', M' = mm_pi M9 a0 13 (-1 : Int32) := ⟨_, rfl⟩
  have k12 : mm_k M11 a0 = (3, 14) := (by rw [hM11]; exact k10)
  rw [← hM11]
  replace H := H M11 hM11
  refine go_aload_n dX3_init_36 rfl ?_
  refine go_iload_n dX3_init_37 rfl ?_
  refine go_putI (k := 0) ⟨by decide, rfl, by decide, rfl⟩ k12 rfl (Or.inr ⟨rfl, rfl⟩) fl_X3_30 dX3_init_38 ?_
  show go_W mt_X3_init fr_C 41 [some (pv_r a0), some (pv_i x1)] [] (mm_pi M11 a0 0 x1) (qv_ P)
  obtain ⟨M13, hM13⟩ : ∃ M', M' = mm_pi M11 a0 0 x1 := ⟨_, rfl⟩
  have k14 : mm_k M13 a0 = (3, 14) := (by rw [hM13]; exact k12)
  rw [← hM13]
  replace H := H M13 hM13
  exact go_vret rfl dX3_init_41 ⟨rfl, H⟩
set_option maxRecDepth 20000 in
theorem wc_X3_copyFrom_0 {M : mm_T} {a0 a1 : Nat} {P : mm_T → Prop} (K0 : mm_k M a0 = (3, 14)) (H : mm_k M a1 = (3, 14) ∧ (∀ M2, M2 = mm_pi M a0 1 (mm_i M a1 1) → ∀ M5, M5 = mm_pi M2 a0 2 (mm_i M2 a1 2) → ∀ M8, M8 = mm_pi M5 a0 3 (mm_i M5 a1 3) → ∀ M11, M11 = mm_pi M8 a0 4 (mm_i M8 a1 4) → ∀ M14, M14 = mm_pi M11 a0 5 (mm_i M11 a1 5) → ∀ M17, M17 = mm_pi M14 a0 6 (mm_i M14 a1 6) → ∀ M20, M20 = mm_pi M17 a0 7 (mm_i M17 a1 7) → ∀ M23, M23 = mm_pi M20 a0 8 (mm_i M20 a1 8) → P M23)) : cw_v mt_X3_copyFrom 0 [some (pv_r a0), some (pv_r a1)] [] M P := by
  refine go_aload_n dX3_copyFrom_0 rfl ?_
  refine go_aload_n dX3_copyFrom_1 rfl ?_
  obtain ⟨k1, H⟩ := H
  refine go_getI (k := 1) ⟨by decide, rfl, by decide, rfl⟩ k1 fl_X3_9 dX3_copyFrom_2 ?_
  refine go_putI (k := 1) ⟨by decide, rfl, by decide, rfl⟩ K0 rfl (Or.inl rfl) fl_X3_9 dX3_copyFrom_5 ?_
  show go_W mt_X3_copyFrom fr_C 8 [some (pv_r a0), some (pv_r a1)] [] (mm_pi M a0 1 (mm_i M a1 1)) (qv_ P)
  obtain ⟨M2, hM2⟩ : ∃ M', M' = mm_pi M a0 1 (mm_i M a1 1) := ⟨_, rfl⟩
  have k3 : mm_k M2 a0 = (3, 14) := (by rw [hM2]; exact K0)
  have k4 : mm_k M2 a1 = (3, 14) := (by rw [hM2]; exact k1)
  rw [← hM2]
  replace H := H M2 hM2
  refine go_aload_n dX3_copyFrom_8 rfl ?_
  refine go_aload_n dX3_copyFrom_9 rfl ?_
  refine go_getI (k := 2) ⟨by decide, rfl, by decide, rfl⟩ k4 fl_X3_15 dX3_copyFrom_10 ?_
  refine go_putI (k := 2) ⟨by decide, rfl, by decide, rfl⟩ k3 rfl (Or.inl rfl) fl_X3_15 dX3_copyFrom_13 ?_
  show go_W mt_X3_copyFrom fr_C 16 [some (pv_r a0), some (pv_r a1)] [] (mm_pi M2 a0 2 (mm_i M2 a1 2)) (qv_ P)
  obtain ⟨M5, hM5⟩ : ∃ M', M' = mm_pi M2 a0 2 (mm_i M2 a1 2) := ⟨_, rfl⟩
  have k6 : mm_k M5 a0 = (3, 14) := (by rw [hM5]; exact k3)
  have k7 : mm_k M5 a1 = (3, 14) := (by rw [hM5]; exact k4)
  rw [← hM5]
  replace H := H M5 hM5
  refine go_aload_n dX3_copyFrom_16 rfl ?_
  refine go_aload_n dX3_copyFrom_17 rfl ?_
  refine go_getI (k := 3) ⟨by decide, rfl, by decide, rfl⟩ k7 fl_X3_18 dX3_copyFrom_18 ?_
  refine go_putI (k := 3) ⟨by decide, rfl, by decide, rfl⟩ k6 rfl (Or.inl rfl) fl_X3_18 dX3_copyFrom_21 ?_
  show go_W mt_X3_copyFrom fr_C 24 [some (pv_r a0), some (pv_r a1)] [] (mm_pi M5 a0 3 (mm_i M5 a1 3)) (qv_ P)
  obtain ⟨M8, hM8⟩ : ∃ M', M' = mm_pi M5 a0 3 (mm_i M5 a1 3) := ⟨_, rfl⟩
  have k9 : mm_k M8 a0 = (3, 14) := (by rw [hM8]; exact k6)
  have k10 : mm_k M8 a1 = (3, 14) := (by rw [hM8]; exact k7)
  rw [← hM8]
  replace H := H M8 hM8
  refine go_aload_n dX3_copyFrom_24 rfl ?_
  refine go_aload_n dX3_copyFrom_25 rfl ?_
  refine go_getI (k := 4) ⟨by decide, rfl, by decide, rfl⟩ k10 fl_X3_21 dX3_copyFrom_26 ?_
  refine go_putI (k := 4) ⟨by decide, rfl, by decide, rfl⟩ k9 rfl (Or.inl rfl) fl_X3_21 dX3_copyFrom_29 ?_
  show go_W mt_X3_copyFrom fr_C 32 [some (pv_r a0), some (pv_r a1)] [] (mm_pi M8 a0 4 (mm_i M8 a1 4)) (qv_ P)
  obtain ⟨M11, hM11⟩ : ∃ M', M' = mm_pi M8 a0 4 (mm_i M8 a1 4) := ⟨_, rfl⟩
  have k12 : mm_k M11 a0 = (3, 14) := (by rw [hM11]; exact k9)
  have k13 : mm_k M11 a1 = (3, 14) := (by rw [hM11]; exact k10)
  rw [← hM11]
  replace H := H M11 hM11
  refine go_aload_n dX3_copyFrom_32 rfl ?_
  refine go_aload_n dX3_copyFrom_33 rfl ?_
  refine go_getI (k := 5) ⟨by decide, rfl, by decide, rfl⟩ k13 fl_X3_33 dX3_copyFrom_34 ?_
  refine go_putI (k := 5) ⟨by decide, rfl, by decide, rfl⟩ k12 rfl (Or.inl rfl) fl_X3_33 dX3_copyFrom_37 ?_
  show go_W mt_X3_copyFrom fr_C 40 [some (pv_r a0), some (pv_r a1)] [] (mm_pi M11 a0 5 (mm_i M11 a1 5)) (qv_ P)
  obtain ⟨M14, hM14⟩ : ∃ M', M' = mm_pi M11 a0 5 (mm_i M11 a1 5) := ⟨_, rfl⟩
  have k15 : mm_k M14 a0 = (3, 14) := (by rw [hM14]; exact k12)
  have k16 : mm_k M14 a1 = (3, 14) := (by rw [hM14]; exact k13)
  rw [← hM14]
  replace H := H M14 hM14
  refine go_aload_n dX3_copyFrom_40 rfl ?_
  refine go_aload_n dX3_copyFrom_41 rfl ?_
  refine go_getI (k := 6) ⟨by decide, rfl, by decide, rfl⟩ k16 fl_X3_36 dX3_copyFrom_42 ?_
  refine go_putI (k := 6) ⟨by decide, rfl, by decide, rfl⟩ k15 rfl (Or.inl rfl) fl_X3_36 dX3_copyFrom_45 ?_
  show go_W mt_X3_copyFrom fr_C 48 [some (pv_r a0), some (pv_r a1)] [] (mm_pi M14 a0 6 (mm_i M14 a1 6)) (qv_ P)
  obtain ⟨M17, hM17⟩ : ∃ M', M' = mm_pi M14 a0 6 (mm_i M14 a1 6) := ⟨_, rfl⟩
  have k18 : mm_k M17 a0 = (3, 14) := (by rw [hM17]; exact k15)
  have k19 : mm_k M17 a1 = (3, 14) := (by rw [hM17]; exact k16)
  rw [← hM17]
  replace H := H M17 hM17
  refine go_aload_n dX3_copyFrom_48 rfl ?_
  refine go_aload_n dX3_copyFrom_49 rfl ?_
  refine go_getI (k := 7) ⟨by decide, rfl, by decide, rfl⟩ k19 fl_X3_39 dX3_copyFrom_50 ?_
  refine go_putI (k := 7) ⟨by decide, rfl, by decide, rfl⟩ k18 rfl (Or.inl rfl) fl_X3_39 dX3_copyFrom_53 ?_
  show go_W mt_X3_copyFrom fr_C 56 [some (pv_r a0), some (pv_r a1)] [] (mm_pi M17 a0 7 (mm_i M17 a1 7)) (qv_ P)
  obtain ⟨M20, hM20⟩ : ∃ M', M' = mm_pi M17 a0 7 (mm_i M17 a1 7) := ⟨_, rfl⟩
  have k21 : mm_k M20 a0 = (3, 14) := (by rw [hM20]; exact k18)
  have k22 : mm_k M20 a1 = (3, 14) := (by rw [hM20]; exact k19)
  rw [← hM20]
  replace H := H M20 hM20
  refine go_aload_n dX3_copyFrom_56 rfl ?_
  refine go_aload_n dX3_copyFrom_57 rfl ?_
  refine go_getI (k := 8) ⟨by decide, rfl, by decide, rfl⟩ k22 fl_X3_42 dX3_copyFrom_58 ?_
  refine go_putI (k := 8) ⟨by decide, rfl, by decide, rfl⟩ k21 rfl (Or.inl rfl) fl_X3_42 dX3_copyFrom_61 ?_
  show go_W mt_X3_copyFrom fr_C 64 [some (pv_r a0), some (pv_r a1)] [] (mm_pi M20 a0 8 (mm_i M20 a1 8)) (qv_ P)
  obtain ⟨M23, hM23⟩ : ∃ M', M' = mm_pi M20 a0 8 (mm_i M20 a1 8) := ⟨_, rfl⟩
  have k24 : mm_k M23 a0 = (3, 14) := (by rw [hM23]; exact k21)
  have k25 : mm_k M23 a1 = (3, 14) := (by rw [hM23]; exact k22)
  rw [← hM23]
  replace H := H M23 hM23
  exact go_vret rfl dX3_copyFrom_64 ⟨rfl, H⟩
set_option maxRecDepth 20000 in
theorem wc_X3_hasRoom_0 {M : mm_T} {a0 : Nat} {P : Int32 → mm_T → Prop} (K0 : mm_k M a0 = (3, 14)) (H : (((mm_i M a0 2 ≤ mm_i M a0 7) → P (0 : Int32) M) ∧ ((¬ mm_i M a0 2 ≤ mm_i M a0 7) → P (1 : Int32) M))) : cw_i mt_X3_hasRoom 0 [some (pv_r a0)] [] M P := by
  refine go_aload_n dX3_hasRoom_0 rfl ?_
  refine go_getI (k := 7) ⟨by decide, rfl, by decide, rfl⟩ K0 fl_X3_39 dX3_hasRoom_1 ?_
  refine go_aload_n dX3_hasRoom_4 rfl ?_
  refine go_getI (k := 2) ⟨by decide, rfl, by decide, rfl⟩ K0 fl_X3_15 dX3_hasRoom_5 ?_
  refine go_icmp_ge (tgt := 15) dX3_hasRoom_8 (by decide) (fun hc => ?_) (fun hc => ?_)
  · replace H := H.1 hc
    refine go_iconst (v := (0 : Int32)) rfl dX3_hasRoom_15 ?_
    exact go_iret rfl rfl dX3_hasRoom_16 ⟨_, rfl, H⟩
  · replace H := H.2 hc
    refine go_iconst (v := (1 : Int32)) rfl dX3_hasRoom_11 ?_
    refine go_goto (tgt := 16) dX3_hasRoom_12 (by decide) ?_
    exact go_iret rfl rfl dX3_hasRoom_16 ⟨_, rfl, H⟩
set_option maxRecDepth 20000 in
theorem wc_X3_closeIfDrained_0 {M : mm_T} {a0 : Nat} {P : mm_T → Prop} (K0 : mm_k M a0 = (3, 14)) (H : (((¬ mm_i M a0 4 = (1 : Int32)) → P M) ∧ ((mm_i M a0 4 = (1 : Int32)) → (((¬ mm_i M a0 7 = 0) → P M) ∧ ((mm_i M a0 7 = 0) → ∀ M1, M1 = mm_pi M a0 4 (2 : Int32) → P M1))))) : cw_v mt_X3_closeIfDrained 0 [some (pv_r a0)] [] M P := by
  refine go_aload_n dX3_closeIfDrained_0 rfl ?_
  refine go_getI (k := 4) ⟨by decide, rfl, by decide, rfl⟩ K0 fl_X3_21 dX3_closeIfDrained_1 ?_
  refine go_iconst (v := (1 : Int32)) rfl dX3_closeIfDrained_4 ?_
  refine go_icmp_ne (tgt := 20) dX3_closeIfDrained_5 (by decide) (fun hc => ?_) (fun hc => ?_)
  · replace H := H.1 hc
    exact go_vret rfl dX3_closeIfDrained_20 ⟨rfl, H⟩
  · replace H := H.2 hc
    refine go_aload_n dX3_closeIfDrained_8 rfl ?_
    refine go_getI (k := 7) ⟨by decide, rfl, by decide, rfl⟩ K0 fl_X3_39 dX3_closeIfDrained_9 ?_
    refine go_if_ne (tgt := 20) dX3_closeIfDrained_12 (by decide) (fun hc => ?_) (fun hc => ?_)
    · replace H := H.1 hc
      exact go_vret rfl dX3_closeIfDrained_20 ⟨rfl, H⟩
    · replace H := H.2 hc
      refine go_aload_n dX3_closeIfDrained_15 rfl ?_
      refine go_iconst (v := (2 : Int32)) rfl dX3_closeIfDrained_16 ?_
      refine go_putI (k := 4) ⟨by decide, rfl, by decide, rfl⟩ K0 rfl (Or.inl rfl) fl_X3_21 dX3_closeIfDrained_17 ?_
      show go_W mt_X3_closeIfDrained fr_C 20 [some (pv_r a0)] [] (mm_pi M a0 4 (2 : Int32)) (qv_ P)
      obtain ⟨M1, hM1⟩ : ∃ M', M' = mm_pi M a0 4 (2 : Int32) := ⟨_, rfl⟩
      have k2 : mm_k M1 a0 = (3, 14) := (by rw [hM1]; exact K0)
      rw [← hM1]
      replace H := H M1 hM1
      exact go_vret rfl dX3_closeIfDrained_20 ⟨rfl, H⟩
set_option maxRecDepth 20000 in
theorem wc_X3_payFor_0 {M : mm_T} {a0 : Nat} {x1 : Int32} {P : mm_T → Prop} (K0 : mm_k M a0 = (3, 14)) (H : ¬ (if (1 : Int32) < mm_i M a0 1 then mm_i M a0 1 else (1 : Int32)) = 0 ∧ (∀ M1, M1 = mm_pi M a0 5 (mm_i M a0 5 + (((2520 : Int32) * x1) / (if (1 : Int32) < mm_i M a0 1 then mm_i M a0 1 else (1 : Int32)))) → P M1)) : cw_v mt_X3_payFor 0 [some (pv_r a0), some (pv_i x1)] [] M P := by
  refine go_aload_n dX3_payFor_0 rfl ?_
  refine go_dup pv_1r dX3_payFor_1 ?_
  refine go_getI (k := 5) ⟨by decide, rfl, by decide, rfl⟩ K0 fl_X3_33 dX3_payFor_2 ?_
  refine go_sipush (v := (2520 : Int32)) rfl dX3_payFor_5 ?_
  refine go_iload_n dX3_payFor_8 rfl ?_
  refine go_imul dX3_payFor_9 ?_
  refine go_iconst (v := (1 : Int32)) rfl dX3_payFor_10 ?_
  refine go_aload_n dX3_payFor_11 rfl ?_
  refine go_getI (k := 1) ⟨by decide, rfl, by decide, rfl⟩ K0 fl_X3_9 dX3_payFor_12 ?_
  refine go_mmax ml_X3_45 (Nat.le_of_ble_eq_true rfl) ⟨by decide, by decide⟩ dX3_payFor_15 ?_
  refine go_idiv H.1 dX3_payFor_18 ?_
  replace H := H.2
  refine go_iadd dX3_payFor_19 ?_
  refine go_putI (k := 5) ⟨by decide, rfl, by decide, rfl⟩ K0 rfl (Or.inl rfl) fl_X3_33 dX3_payFor_20 ?_
  show go_W mt_X3_payFor fr_C 23 [some (pv_r a0), some (pv_i x1)] [] (mm_pi M a0 5 (mm_i M a0 5 + (((2520 : Int32) * x1) / (if (1 : Int32) < mm_i M a0 1 then mm_i M a0 1 else (1 : Int32))))) (qv_ P)
  obtain ⟨M1, hM1⟩ : ∃ M', M' = mm_pi M a0 5 (mm_i M a0 5 + (((2520 : Int32) * x1) / (if (1 : Int32) < mm_i M a0 1 then mm_i M a0 1 else (1 : Int32)))) := ⟨_, rfl⟩
  have k2 : mm_k M1 a0 = (3, 14) := (by rw [hM1]; exact K0)
  rw [← hM1]
  replace H := H M1 hM1
  exact go_vret rfl dX3_payFor_23 ⟨rfl, H⟩
set_option maxRecDepth 20000 in
theorem wc_X3_recordTaken_0 {M : mm_T} {a0 a1 : Nat} {x2 : Int32} {P : mm_T → Prop} (K0 : mm_k M a0 = (3, 14)) (H : mm_k M a1 = (6, 17) ∧ (∀ M2, M2 = mm_pi M a0 9 (mm_i M a0 9 + mm_i M a1 4) → ∀ M5, M5 = mm_pi M2 a0 10 (mm_i M2 a0 10 + (1 : Int32)) → ∀ M8, M8 = mm_pi M5 a0 11 (mm_i M5 a0 11 + x2) → (((x2 ≤ mm_i M8 a0 12) → P M8) ∧ ((¬ x2 ≤ mm_i M8 a0 12) → ∀ M11, M11 = mm_pi M8 a0 12 x2 → ∀ M14, M14 = mm_pi M11 a0 13 (mm_i M11 a1 0) → P M14)))) : cw_v mt_X3_recordTaken 0 [some (pv_r a0), some (pv_r a1), some (pv_i x2)] [] M P := by
  refine go_aload_n dX3_recordTaken_0 rfl ?_
  refine go_dup pv_1r dX3_recordTaken_1 ?_
  refine go_getI (k := 9) ⟨by decide, rfl, by decide, rfl⟩ K0 fl_X3_51 dX3_recordTaken_2 ?_
  refine go_aload_n dX3_recordTaken_5 rfl ?_
  obtain ⟨k1, H⟩ := H
  refine go_getI (k := 4) ⟨by decide, rfl, by decide, rfl⟩ k1 fl_X3_54 dX3_recordTaken_6 ?_
  refine go_iadd dX3_recordTaken_9 ?_
  refine go_putI (k := 9) ⟨by decide, rfl, by decide, rfl⟩ K0 rfl (Or.inl rfl) fl_X3_51 dX3_recordTaken_10 ?_
  show go_W mt_X3_recordTaken fr_C 13 [some (pv_r a0), some (pv_r a1), some (pv_i x2)] [] (mm_pi M a0 9 (mm_i M a0 9 + mm_i M a1 4)) (qv_ P)
  obtain ⟨M2, hM2⟩ : ∃ M', M' = mm_pi M a0 9 (mm_i M a0 9 + mm_i M a1 4) := ⟨_, rfl⟩
  have k3 : mm_k M2 a0 = (3, 14) := (by rw [hM2]; exact K0)
  have k4 : mm_k M2 a1 = (6, 17) := (by rw [hM2]; exact k1)
  rw [← hM2]
  replace H := H M2 hM2
  refine go_aload_n dX3_recordTaken_13 rfl ?_
  refine go_dup pv_1r dX3_recordTaken_14 ?_
  refine go_getI (k := 10) ⟨by decide, rfl, by decide, rfl⟩ k3 fl_X3_59 dX3_recordTaken_15 ?_
  refine go_iconst (v := (1 : Int32)) rfl dX3_recordTaken_18 ?_
  refine go_iadd dX3_recordTaken_19 ?_
  refine go_putI (k := 10) ⟨by decide, rfl, by decide, rfl⟩ k3 rfl (Or.inl rfl) fl_X3_59 dX3_recordTaken_20 ?_
  show go_W mt_X3_recordTaken fr_C 23 [some (pv_r a0), some (pv_r a1), some (pv_i x2)] [] (mm_pi M2 a0 10 (mm_i M2 a0 10 + (1 : Int32))) (qv_ P)
  obtain ⟨M5, hM5⟩ : ∃ M', M' = mm_pi M2 a0 10 (mm_i M2 a0 10 + (1 : Int32)) := ⟨_, rfl⟩
  have k6 : mm_k M5 a0 = (3, 14) := (by rw [hM5]; exact k3)
  have k7 : mm_k M5 a1 = (6, 17) := (by rw [hM5]; exact k4)
  rw [← hM5]
  replace H := H M5 hM5
  refine go_aload_n dX3_recordTaken_23 rfl ?_
  refine go_dup pv_1r dX3_recordTaken_24 ?_
  refine go_getI (k := 11) ⟨by decide, rfl, by decide, rfl⟩ k6 fl_X3_62 dX3_recordTaken_25 ?_
  refine go_iload_n dX3_recordTaken_28 rfl ?_
  refine go_iadd dX3_recordTaken_29 ?_
  refine go_putI (k := 11) ⟨by decide, rfl, by decide, rfl⟩ k6 rfl (Or.inl rfl) fl_X3_62 dX3_recordTaken_30 ?_
  show go_W mt_X3_recordTaken fr_C 33 [some (pv_r a0), some (pv_r a1), some (pv_i x2)] [] (mm_pi M5 a0 11 (mm_i M5 a0 11 + x2)) (qv_ P)
  obtain ⟨M8, hM8⟩ : ∃ M', M' = mm_pi M5 a0 11 (mm_i M5 a0 11 + x2) := ⟨_, rfl⟩
  have k9 : mm_k M8 a0 = (3, 14) := (by rw [hM8]; exact k6)
  have k10 : mm_k M8 a1 = (6, 17) := (by rw [hM8]; exact k7)
  rw [← hM8]
  replace H := H M8 hM8
  refine go_iload_n dX3_recordTaken_33 rfl ?_
  refine go_aload_n dX3_recordTaken_34 rfl ?_
  refine go_getI (k := 12) ⟨by decide, rfl, by decide, rfl⟩ k9 fl_X3_24 dX3_recordTaken_35 ?_
  refine go_icmp_le (tgt := 54) dX3_recordTaken_38 (by decide) (fun hc => ?_) (fun hc => ?_)
  · replace H := H.1 hc
    exact go_vret rfl dX3_recordTaken_54 ⟨rfl, H⟩
  · replace H := H.2 hc
    refine go_aload_n dX3_recordTaken_41 rfl ?_
    refine go_iload_n dX3_recordTaken_42 rfl ?_
    refine go_putI (k := 12) ⟨by decide, rfl, by decide, rfl⟩ k9 rfl (Or.inl rfl) fl_X3_24 dX3_recordTaken_43 ?_
    show go_W mt_X3_recordTaken fr_C 46 [some (pv_r a0), some (pv_r a1), some (pv_i x2)] [] (mm_pi M8 a0 12 x2) (qv_ P)
    obtain ⟨M11, hM11⟩ : ∃ M', M' = mm_pi M8 a0 12 x2 := ⟨_, rfl⟩
    have k12 : mm_k M11 a0 = (3, 14) := (by rw [hM11]; exact k9)
    have k13 : mm_k M11 a1 = (6, 17) := (by rw [hM11]; exact k10)
    rw [← hM11]
    replace H := H M11 hM11
    refine go_aload_n dX3_recordTaken_46 rfl ?_
    refine go_aload_n dX3_recordTaken_47 rfl ?_
    refine go_getI (k := 0) ⟨by decide, rfl, by decide, rfl⟩ k13 fl_X3_65 dX3_recordTaken_48 ?_
    refine go_putI (k := 13) ⟨by decide, rfl, by decide, rfl⟩ k12 rfl (Or.inl rfl) fl_X3_27 dX3_recordTaken_51 ?_
    show go_W mt_X3_recordTaken fr_C 54 [some (pv_r a0), some (pv_r a1), some (pv_i x2)] [] (mm_pi M11 a0 13 (mm_i M11 a1 0)) (qv_ P)
    obtain ⟨M14, hM14⟩ : ∃ M', M' = mm_pi M11 a0 13 (mm_i M11 a1 0) := ⟨_, rfl⟩
    have k15 : mm_k M14 a0 = (3, 14) := (by rw [hM14]; exact k12)
    have k16 : mm_k M14 a1 = (6, 17) := (by rw [hM14]; exact k13)
    rw [← hM14]
    replace H := H M14 hM14
    exact go_vret rfl dX3_recordTaken_54 ⟨rfl, H⟩
set_option maxRecDepth 20000 in
theorem wc_X3_rearrange_0 {M : mm_T} {a0 : Nat} {x1 x2 : Int32} {P : Int32 → mm_T → Prop} (K0 : mm_k M a0 = (3, 14)) (H : (((¬ x1 = 0) → (((¬ x1 = (1 : Int32)) → ∀ M1, M1 = mm_pi M a0 3 x2 → P (mm_i M a0 3) M1) ∧ ((x1 = (1 : Int32)) → ∀ M3, M3 = mm_pi M a0 2 x2 → P (mm_i M a0 2) M3))) ∧ ((x1 = 0) → ∀ M5, M5 = mm_pi M a0 1 x2 → P (mm_i M a0 1) M5))) : cw_i mt_X3_rearrange 0 [some (pv_r a0), some (pv_i x1), some (pv_i x2), none] [] M P := by
  refine go_iload_n dX3_rearrange_0 rfl ?_
  refine go_if_ne (tgt := 17) dX3_rearrange_1 (by decide) (fun hc => ?_) (fun hc => ?_)
  · replace H := H.1 hc
    refine go_iload_n dX3_rearrange_17 rfl ?_
    refine go_iconst (v := (1 : Int32)) rfl dX3_rearrange_18 ?_
    refine go_icmp_ne (tgt := 35) dX3_rearrange_19 (by decide) (fun hc => ?_) (fun hc => ?_)
    · replace H := H.1 hc
      refine go_aload_n dX3_rearrange_35 rfl ?_
      refine go_getI (k := 3) ⟨by decide, rfl, by decide, rfl⟩ K0 fl_X3_18 dX3_rearrange_36 ?_
      refine go_istore_n (by decide) dX3_rearrange_39 ?_
      show go_W mt_X3_rearrange fr_C 40 [some (pv_r a0), some (pv_i x1), some (pv_i x2), some (pv_i (mm_i M a0 3))] [] M (qi_ P)
      refine go_aload_n dX3_rearrange_40 rfl ?_
      refine go_iload_n dX3_rearrange_41 rfl ?_
      refine go_putI (k := 3) ⟨by decide, rfl, by decide, rfl⟩ K0 rfl (Or.inl rfl) fl_X3_18 dX3_rearrange_42 ?_
      show go_W mt_X3_rearrange fr_C 45 [some (pv_r a0), some (pv_i x1), some (pv_i x2), some (pv_i (mm_i M a0 3))] [] (mm_pi M a0 3 x2) (qi_ P)
      obtain ⟨M1, hM1⟩ : ∃ M', M' = mm_pi M a0 3 x2 := ⟨_, rfl⟩
      have k2 : mm_k M1 a0 = (3, 14) := (by rw [hM1]; exact K0)
      rw [← hM1]
      replace H := H M1 hM1
      refine go_iload_n dX3_rearrange_45 rfl ?_
      exact go_iret rfl rfl dX3_rearrange_46 ⟨_, rfl, H⟩
    · replace H := H.2 hc
      refine go_aload_n dX3_rearrange_22 rfl ?_
      refine go_getI (k := 2) ⟨by decide, rfl, by decide, rfl⟩ K0 fl_X3_15 dX3_rearrange_23 ?_
      refine go_istore_n (by decide) dX3_rearrange_26 ?_
      show go_W mt_X3_rearrange fr_C 27 [some (pv_r a0), some (pv_i x1), some (pv_i x2), some (pv_i (mm_i M a0 2))] [] M (qi_ P)
      refine go_aload_n dX3_rearrange_27 rfl ?_
      refine go_iload_n dX3_rearrange_28 rfl ?_
      refine go_putI (k := 2) ⟨by decide, rfl, by decide, rfl⟩ K0 rfl (Or.inl rfl) fl_X3_15 dX3_rearrange_29 ?_
      show go_W mt_X3_rearrange fr_C 32 [some (pv_r a0), some (pv_i x1), some (pv_i x2), some (pv_i (mm_i M a0 2))] [] (mm_pi M a0 2 x2) (qi_ P)
      obtain ⟨M3, hM3⟩ : ∃ M', M' = mm_pi M a0 2 x2 := ⟨_, rfl⟩
      have k4 : mm_k M3 a0 = (3, 14) := (by rw [hM3]; exact K0)
      rw [← hM3]
      replace H := H M3 hM3
      refine go_goto (tgt := 45) dX3_rearrange_32 (by decide) ?_
      refine go_iload_n dX3_rearrange_45 rfl ?_
      exact go_iret rfl rfl dX3_rearrange_46 ⟨_, rfl, H⟩
  · replace H := H.2 hc
    refine go_aload_n dX3_rearrange_4 rfl ?_
    refine go_getI (k := 1) ⟨by decide, rfl, by decide, rfl⟩ K0 fl_X3_9 dX3_rearrange_5 ?_
    refine go_istore_n (by decide) dX3_rearrange_8 ?_
    show go_W mt_X3_rearrange fr_C 9 [some (pv_r a0), some (pv_i x1), some (pv_i x2), some (pv_i (mm_i M a0 1))] [] M (qi_ P)
    refine go_aload_n dX3_rearrange_9 rfl ?_
    refine go_iload_n dX3_rearrange_10 rfl ?_
    refine go_putI (k := 1) ⟨by decide, rfl, by decide, rfl⟩ K0 rfl (Or.inl rfl) fl_X3_9 dX3_rearrange_11 ?_
    show go_W mt_X3_rearrange fr_C 14 [some (pv_r a0), some (pv_i x1), some (pv_i x2), some (pv_i (mm_i M a0 1))] [] (mm_pi M a0 1 x2) (qi_ P)
    obtain ⟨M5, hM5⟩ : ∃ M', M' = mm_pi M a0 1 x2 := ⟨_, rfl⟩
    have k6 : mm_k M5 a0 = (3, 14) := (by rw [hM5]; exact K0)
    rw [← hM5]
    replace H := H M5 hM5
    refine go_goto (tgt := 45) dX3_rearrange_14 (by decide) ?_
    refine go_iload_n dX3_rearrange_45 rfl ?_
    exact go_iret rfl rfl dX3_rearrange_46 ⟨_, rfl, H⟩
set_option maxRecDepth 20000 in
theorem wc_X3_tell_0 {M : mm_T} {a0 : Nat} {x1 : Int32} {P : Int32 → mm_T → Prop} (K0 : mm_k M a0 = (3, 14)) (H : ((x1 = (0 : Int32)) → P (mm_i M a0 1) M) ∧ ((x1 = (1 : Int32)) → P (mm_i M a0 2) M) ∧ ((x1 = (2 : Int32)) → P (mm_i M a0 4) M) ∧ ((x1 = (3 : Int32)) → P (mm_i M a0 5) M) ∧ ((x1 = (4 : Int32)) → P (mm_i M a0 6) M) ∧ ((x1 = (5 : Int32)) → P (mm_i M a0 7) M) ∧ ((x1 = (6 : Int32)) → P (mm_i M a0 9) M) ∧ ((x1 = (7 : Int32)) → P (mm_i M a0 10) M) ∧ ((x1 = (8 : Int32)) → P (mm_i M a0 3) M) ∧ ((x1 = (9 : Int32)) → P (mm_i M a0 8) M) ∧ ((¬ x1 = (0 : Int32) ∧ ¬ x1 = (1 : Int32) ∧ ¬ x1 = (2 : Int32) ∧ ¬ x1 = (3 : Int32) ∧ ¬ x1 = (4 : Int32) ∧ ¬ x1 = (5 : Int32) ∧ ¬ x1 = (6 : Int32) ∧ ¬ x1 = (7 : Int32) ∧ ¬ x1 = (8 : Int32) ∧ ¬ x1 = (9 : Int32)) → P (-1 : Int32) M)) : cw_i mt_X3_tell 0 [some (pv_r a0), some (pv_i x1)] [] M P := by
  refine go_iload_n dX3_tell_0 rfl ?_
  by_cases hc0 : x1 = (0 : Int32)
  · replace H := H.1 hc0
    refine go_tabIn (v := (0 : Int32)) (tgt := 56) hc0 (by decide) (by decide) rfl (by decide) dX3_tell_1 ?_
    refine go_aload_n dX3_tell_56 rfl ?_
    refine go_getI (k := 1) ⟨by decide, rfl, by decide, rfl⟩ K0 fl_X3_9 dX3_tell_57 ?_
    exact go_iret rfl rfl dX3_tell_60 ⟨_, rfl, H⟩
  replace H := H.2
  by_cases hc1 : x1 = (1 : Int32)
  · replace H := H.1 hc1
    refine go_tabIn (v := (1 : Int32)) (tgt := 61) hc1 (by decide) (by decide) rfl (by decide) dX3_tell_1 ?_
    refine go_aload_n dX3_tell_61 rfl ?_
    refine go_getI (k := 2) ⟨by decide, rfl, by decide, rfl⟩ K0 fl_X3_15 dX3_tell_62 ?_
    exact go_iret rfl rfl dX3_tell_65 ⟨_, rfl, H⟩
  replace H := H.2
  by_cases hc2 : x1 = (2 : Int32)
  · replace H := H.1 hc2
    refine go_tabIn (v := (2 : Int32)) (tgt := 66) hc2 (by decide) (by decide) rfl (by decide) dX3_tell_1 ?_
    refine go_aload_n dX3_tell_66 rfl ?_
    refine go_getI (k := 4) ⟨by decide, rfl, by decide, rfl⟩ K0 fl_X3_21 dX3_tell_67 ?_
    exact go_iret rfl rfl dX3_tell_70 ⟨_, rfl, H⟩
  replace H := H.2
  by_cases hc3 : x1 = (3 : Int32)
  · replace H := H.1 hc3
    refine go_tabIn (v := (3 : Int32)) (tgt := 71) hc3 (by decide) (by decide) rfl (by decide) dX3_tell_1 ?_
    refine go_aload_n dX3_tell_71 rfl ?_
    refine go_getI (k := 5) ⟨by decide, rfl, by decide, rfl⟩ K0 fl_X3_33 dX3_tell_72 ?_
    exact go_iret rfl rfl dX3_tell_75 ⟨_, rfl, H⟩
  replace H := H.2
  by_cases hc4 : x1 = (4 : Int32)
  · replace H := H.1 hc4
    refine go_tabIn (v := (4 : Int32)) (tgt := 76) hc4 (by decide) (by decide) rfl (by decide) dX3_tell_1 ?_
    refine go_aload_n dX3_tell_76 rfl ?_
    refine go_getI (k := 6) ⟨by decide, rfl, by decide, rfl⟩ K0 fl_X3_36 dX3_tell_77 ?_
    exact go_iret rfl rfl dX3_tell_80 ⟨_, rfl, H⟩
  replace H := H.2
  by_cases hc5 : x1 = (5 : Int32)
  · replace H := H.1 hc5
    refine go_tabIn (v := (5 : Int32)) (tgt := 81) hc5 (by decide) (by decide) rfl (by decide) dX3_tell_1 ?_
    refine go_aload_n dX3_tell_81 rfl ?_
    refine go_getI (k := 7) ⟨by decide, rfl, by decide, rfl⟩ K0 fl_X3_39 dX3_tell_82 ?_
    exact go_iret rfl rfl dX3_tell_85 ⟨_, rfl, H⟩
  replace H := H.2
  by_cases hc6 : x1 = (6 : Int32)
  · replace H := H.1 hc6
    refine go_tabIn (v := (6 : Int32)) (tgt := 86) hc6 (by decide) (by decide) rfl (by decide) dX3_tell_1 ?_
    refine go_aload_n dX3_tell_86 rfl ?_
    refine go_getI (k := 9) ⟨by decide, rfl, by decide, rfl⟩ K0 fl_X3_51 dX3_tell_87 ?_
    exact go_iret rfl rfl dX3_tell_90 ⟨_, rfl, H⟩
  replace H := H.2
  by_cases hc7 : x1 = (7 : Int32)
  · replace H := H.1 hc7
    refine go_tabIn (v := (7 : Int32)) (tgt := 91) hc7 (by decide) (by decide) rfl (by decide) dX3_tell_1 ?_
    refine go_aload_n dX3_tell_91 rfl ?_
    refine go_getI (k := 10) ⟨by decide, rfl, by decide, rfl⟩ K0 fl_X3_59 dX3_tell_92 ?_
    exact go_iret rfl rfl dX3_tell_95 ⟨_, rfl, H⟩
  replace H := H.2
  by_cases hc8 : x1 = (8 : Int32)
  · replace H := H.1 hc8
    refine go_tabIn (v := (8 : Int32)) (tgt := 96) hc8 (by decide) (by decide) rfl (by decide) dX3_tell_1 ?_
    refine go_aload_n dX3_tell_96 rfl ?_
    refine go_getI (k := 3) ⟨by decide, rfl, by decide, rfl⟩ K0 fl_X3_18 dX3_tell_97 ?_
    exact go_iret rfl rfl dX3_tell_100 ⟨_, rfl, H⟩
  replace H := H.2
  by_cases hc9 : x1 = (9 : Int32)
  · replace H := H.1 hc9
    refine go_tabIn (v := (9 : Int32)) (tgt := 101) hc9 (by decide) (by decide) rfl (by decide) dX3_tell_1 ?_
    refine go_aload_n dX3_tell_101 rfl ?_
    refine go_getI (k := 8) ⟨by decide, rfl, by decide, rfl⟩ K0 fl_X3_42 dX3_tell_102 ?_
    exact go_iret rfl rfl dX3_tell_105 ⟨_, rfl, H⟩
  replace H := H.2
  replace H := H ⟨hc0, hc1, hc2, hc3, hc4, hc5, hc6, hc7, hc8, hc9⟩
  have he0 : (x1).toInt ≠ 0 := fun h => hc0 (Int32.toInt_inj.mp (h.trans (by decide)))
  have he1 : (x1).toInt ≠ 1 := fun h => hc1 (Int32.toInt_inj.mp (h.trans (by decide)))
  have he2 : (x1).toInt ≠ 2 := fun h => hc2 (Int32.toInt_inj.mp (h.trans (by decide)))
  have he3 : (x1).toInt ≠ 3 := fun h => hc3 (Int32.toInt_inj.mp (h.trans (by decide)))
  have he4 : (x1).toInt ≠ 4 := fun h => hc4 (Int32.toInt_inj.mp (h.trans (by decide)))
  have he5 : (x1).toInt ≠ 5 := fun h => hc5 (Int32.toInt_inj.mp (h.trans (by decide)))
  have he6 : (x1).toInt ≠ 6 := fun h => hc6 (Int32.toInt_inj.mp (h.trans (by decide)))
  have he7 : (x1).toInt ≠ 7 := fun h => hc7 (Int32.toInt_inj.mp (h.trans (by decide)))
  have he8 : (x1).toInt ≠ 8 := fun h => hc8 (Int32.toInt_inj.mp (h.trans (by decide)))
  have he9 : (x1).toInt ≠ 9 := fun h => hc9 (Int32.toInt_inj.mp (h.trans (by decide)))
  refine go_tabOut (tgt := 106) (by omega) (by decide) dX3_tell_1 ?_
  refine go_iconst (v := (-1 : Int32)) rfl dX3_tell_106 ?_
  exact go_iret rfl rfl dX3_tell_107 ⟨_, rfl, H⟩
set_option maxRecDepth 20000 in
theorem wc_X4_init_0 {M : mm_T} {a0 : Nat} {x1 : Int32} {P : mm_T → Prop} (K0 : mm_k M a0 = (4, 2)) (H : ∃ n1, (x1 = nI n1 ∧ n1 ≤ 100000) ∧ ((mm_n M + 1 ≤ nb_ ∧ mm_t M (mm_n M) + n1 ≤ sb_) ∧ (∀ M2, M2 = mm_w M 84 n1 → ∀ M5, M5 = mm_pr M2 a0 0 (mm_n M) → P M5))) : cw_v mt_X4_init 0 [some (pv_r a0), some (pv_i x1)] [] M P := by
  refine go_aload_n dX4_init_0 rfl ?_
  refine go_objInitK (by decide) K0 (Nat.le_of_ble_eq_true rfl) ⟨by decide, by decide⟩ ml_X4_1 im_J_Object_init cd_J_Object_init dX4_init_1 ?_
  refine go_aload_n dX4_init_4 rfl ?_
  refine go_iload_n dX4_init_5 rfl ?_
  obtain ⟨n1, ⟨hn1, hn1b⟩, H⟩ := H
  obtain ⟨hr, H⟩ := H
  refine go_anewA 84 3 ⟨by decide, by decide⟩ (by decide) (by decide) hn1 hn1b kl_X4_7 hr.1 hr.2 dX4_init_6 ?_
  show go_W mt_X4_init fr_C 9 [some (pv_r a0), some (pv_i x1)] [pv_r (mm_n M), pv_r a0] (mm_w M 84 n1) (qv_ P)
  obtain ⟨M2, hM2⟩ : ∃ M', M' = mm_w M 84 n1 := ⟨_, rfl⟩
  have k3 : mm_k M2 a0 = (4, 2) := (by rw [hM2]; exact ks_S K0 (by decide) (mm_S_w (fr := fr_C)))
  have k4 : ak_ M2 (mm_n M) 3 n1 := by rw [hM2]; exact ⟨_, mm_k_w, by decide, by decide, by omega, rfl⟩
  rw [← hM2]
  replace H := H M2 hM2
  refine go_putR (k := 0) ⟨by decide, rfl, by decide, Or.inr ⟨_, rfl⟩⟩ k3 rfl (Or.inr ⟨rfl, rfl⟩) fl_X4_9 dX4_init_9 ?_
  show go_W mt_X4_init fr_C 12 [some (pv_r a0), some (pv_i x1)] [] (mm_pr M2 a0 0 (mm_n M)) (qv_ P)
  obtain ⟨M5, hM5⟩ : ∃ M', M' = mm_pr M2 a0 0 (mm_n M) := ⟨_, rfl⟩
  have k6 : mm_k M5 a0 = (4, 2) := (by rw [hM5]; exact k3)
  have k7 : ak_ M5 (mm_n M) 3 n1 := (by rw [hM5]; exact k4)
  rw [← hM5]
  replace H := H M5 hM5
  exact go_vret rfl dX4_init_12 ⟨rfl, H⟩
set_option maxRecDepth 20000 in
theorem wc_X4_at_0 {M : mm_T} {a0 : Nat} {x1 : Int32} {P : Nat → mm_T → Prop} (K0 : mm_k M a0 = (4, 2)) (H : (((x1 < 0) → P 0 M) ∧ ((¬ x1 < 0) → (((x1 < mm_i M a0 1) → ∃ l1, ak_ M (mm_r M a0 0) 3 l1 ∧ (∃ n4, (x1 = nI n4 ∧ n4 < l1) ∧ (P (mm_r M (mm_r M a0 0) n4) M))) ∧ ((¬ x1 < mm_i M a0 1) → P 0 M))))) : cw_r mt_X4_at 0 [some (pv_r a0), some (pv_i x1)] [] M P := by
  refine go_iload_n dX4_at_0 rfl ?_
  refine go_if_lt (tgt := 12) dX4_at_1 (by decide) (fun hc => ?_) (fun hc => ?_)
  · replace H := H.1 hc
    refine go_null dX4_at_12 ?_
    refine go_goto (tgt := 22) dX4_at_13 (by decide) ?_
    exact go_aret rfl (Or.inl ⟨_, rfl⟩) dX4_at_22 ⟨_, rfl, H⟩
  · replace H := H.2 hc
    refine go_iload_n dX4_at_4 rfl ?_
    refine go_aload_n dX4_at_5 rfl ?_
    refine go_getI (k := 1) ⟨by decide, rfl, by decide, rfl⟩ K0 fl_X4_15 dX4_at_6 ?_
    refine go_icmp_lt (tgt := 16) dX4_at_9 (by decide) (fun hc => ?_) (fun hc => ?_)
    · replace H := H.1 hc
      refine go_aload_n dX4_at_16 rfl ?_
      refine go_getR (k := 0) ⟨by decide, rfl, by decide, Or.inr ⟨_, rfl⟩⟩ K0 fl_X4_9 dX4_at_17 ?_
      refine go_iload_n dX4_at_20 rfl ?_
      obtain ⟨l1, k2, H⟩ := H
      obtain ⟨n4, ⟨hn4, hn4b⟩, H⟩ := H
      refine go_aaldA (j := n4) k2 (by decide) hn4 hn4b dX4_at_21 ?_
      exact go_aret rfl (Or.inl ⟨_, rfl⟩) dX4_at_22 ⟨_, rfl, H⟩
    · replace H := H.2 hc
      refine go_null dX4_at_12 ?_
      refine go_goto (tgt := 22) dX4_at_13 (by decide) ?_
      exact go_aret rfl (Or.inl ⟨_, rfl⟩) dX4_at_22 ⟨_, rfl, H⟩
set_option maxRecDepth 20000 in
theorem wc_X4_clear_0 {M : mm_T} {a0 : Nat} {P : mm_T → Prop} (K0 : mm_k M a0 = (4, 2)) (H : ∀ M1, M1 = mm_pi M a0 1 (0 : Int32) → P M1) : cw_v mt_X4_clear 0 [some (pv_r a0)] [] M P := by
  refine go_aload_n dX4_clear_0 rfl ?_
  refine go_iconst (v := (0 : Int32)) rfl dX4_clear_1 ?_
  refine go_putI (k := 1) ⟨by decide, rfl, by decide, rfl⟩ K0 rfl (Or.inl rfl) fl_X4_15 dX4_clear_2 ?_
  show go_W mt_X4_clear fr_C 5 [some (pv_r a0)] [] (mm_pi M a0 1 (0 : Int32)) (qv_ P)
  obtain ⟨M1, hM1⟩ : ∃ M', M' = mm_pi M a0 1 (0 : Int32) := ⟨_, rfl⟩
  have k2 : mm_k M1 a0 = (4, 2) := (by rw [hM1]; exact K0)
  rw [← hM1]
  replace H := H M1 hM1
  exact go_vret rfl dX4_clear_5 ⟨rfl, H⟩
set_option maxRecDepth 20000 in
theorem wc_X4_append_0 {M : mm_T} {a0 a1 : Nat} {P : mm_T → Prop} (K0 : mm_k M a0 = (4, 2)) (H : ∃ l1, ak_ M (mm_r M a0 0) 3 l1 ∧ (((((nI l1) ≤ mm_i M a0 1) → P M) ∧ ((¬ (nI l1) ≤ mm_i M a0 1) → ∃ n4, (mm_i M a0 1 = nI n4 ∧ n4 < l1) ∧ ((a1 = 0 ∨ mm_k M a1 = (6, 17)) ∧ (∀ M6, M6 = mm_pr M (mm_r M a0 0) n4 a1 → ∀ M9, M9 = mm_pi M6 a0 1 (mm_i M6 a0 1 + (1 : Int32)) → P M9)))))) : cw_v mt_X4_append 0 [some (pv_r a0), some (pv_r a1)] [] M P := by
  refine go_aload_n dX4_append_0 rfl ?_
  refine go_getI (k := 1) ⟨by decide, rfl, by decide, rfl⟩ K0 fl_X4_15 dX4_append_1 ?_
  refine go_aload_n dX4_append_4 rfl ?_
  refine go_getR (k := 0) ⟨by decide, rfl, by decide, Or.inr ⟨_, rfl⟩⟩ K0 fl_X4_9 dX4_append_5 ?_
  obtain ⟨l1, k2, H⟩ := H
  refine go_alenA k2 dX4_append_8 ?_
  refine go_icmp_ge (tgt := 32) dX4_append_9 (by decide) (fun hc => ?_) (fun hc => ?_)
  · replace H := H.1 hc
    exact go_vret rfl dX4_append_32 ⟨rfl, H⟩
  · replace H := H.2 hc
    refine go_aload_n dX4_append_12 rfl ?_
    refine go_getR (k := 0) ⟨by decide, rfl, by decide, Or.inr ⟨_, rfl⟩⟩ K0 fl_X4_9 dX4_append_13 ?_
    refine go_aload_n dX4_append_16 rfl ?_
    refine go_getI (k := 1) ⟨by decide, rfl, by decide, rfl⟩ K0 fl_X4_15 dX4_append_17 ?_
    refine go_aload_n dX4_append_20 rfl ?_
    obtain ⟨n4, ⟨hn4, hn4b⟩, H⟩ := H
    obtain ⟨hv5, H⟩ := H
    refine go_aastA (j := n4) k2 (by decide) hv5 hn4 hn4b dX4_append_21 ?_
    show go_W mt_X4_append fr_C 22 [some (pv_r a0), some (pv_r a1)] [] (mm_pr M (mm_r M a0 0) n4 a1) (qv_ P)
    obtain ⟨M6, hM6⟩ : ∃ M', M' = mm_pr M (mm_r M a0 0) n4 a1 := ⟨_, rfl⟩
    have k7 : mm_k M6 a0 = (4, 2) := (by rw [hM6]; exact K0)
    have k8 : ak_ M6 (mm_r M a0 0) 3 l1 := (by rw [hM6]; exact k2)
    rw [← hM6]
    replace H := H M6 hM6
    refine go_aload_n dX4_append_22 rfl ?_
    refine go_dup pv_1r dX4_append_23 ?_
    refine go_getI (k := 1) ⟨by decide, rfl, by decide, rfl⟩ k7 fl_X4_15 dX4_append_24 ?_
    refine go_iconst (v := (1 : Int32)) rfl dX4_append_27 ?_
    refine go_iadd dX4_append_28 ?_
    refine go_putI (k := 1) ⟨by decide, rfl, by decide, rfl⟩ k7 rfl (Or.inl rfl) fl_X4_15 dX4_append_29 ?_
    show go_W mt_X4_append fr_C 32 [some (pv_r a0), some (pv_r a1)] [] (mm_pi M6 a0 1 (mm_i M6 a0 1 + (1 : Int32))) (qv_ P)
    obtain ⟨M9, hM9⟩ : ∃ M', M' = mm_pi M6 a0 1 (mm_i M6 a0 1 + (1 : Int32)) := ⟨_, rfl⟩
    have k10 : mm_k M9 a0 = (4, 2) := (by rw [hM9]; exact k7)
    have k11 : ak_ M9 (mm_r M a0 0) 3 l1 := (by rw [hM9]; exact k8)
    rw [← hM9]
    replace H := H M9 hM9
    exact go_vret rfl dX4_append_32 ⟨rfl, H⟩
set_option maxRecDepth 20000 in
theorem wc_X4_insertByNumber_0 {M : mm_T} {a0 a1 : Nat} {P : mm_T → Prop} (K0 : mm_k M a0 = (4, 2)) (H : ∃ l1, ak_ M (mm_r M a0 0) 3 l1 ∧ ((((mm_i M a0 1 < (nI l1)) → cw_v mt_X4_insertByNumber 18 [some (pv_r a0), some (pv_r a1), some (pv_i (mm_i M a0 1))] [] M P) ∧ ((¬ mm_i M a0 1 < (nI l1)) → P M)))) : cw_v mt_X4_insertByNumber 0 [some (pv_r a0), some (pv_r a1), none] [] M P := by
  refine go_aload_n dX4_insertByNumber_0 rfl ?_
  refine go_getI (k := 1) ⟨by decide, rfl, by decide, rfl⟩ K0 fl_X4_15 dX4_insertByNumber_1 ?_
  refine go_aload_n dX4_insertByNumber_4 rfl ?_
  refine go_getR (k := 0) ⟨by decide, rfl, by decide, Or.inr ⟨_, rfl⟩⟩ K0 fl_X4_9 dX4_insertByNumber_5 ?_
  obtain ⟨l1, k2, H⟩ := H
  refine go_alenA k2 dX4_insertByNumber_8 ?_
  refine go_icmp_lt (tgt := 13) dX4_insertByNumber_9 (by decide) (fun hc => ?_) (fun hc => ?_)
  · replace H := H.1 hc
    refine go_aload_n dX4_insertByNumber_13 rfl ?_
    refine go_getI (k := 1) ⟨by decide, rfl, by decide, rfl⟩ K0 fl_X4_15 dX4_insertByNumber_14 ?_
    refine go_istore_n (by decide) dX4_insertByNumber_17 ?_
    show go_W mt_X4_insertByNumber fr_C 18 [some (pv_r a0), some (pv_r a1), some (pv_i (mm_i M a0 1))] [] M (qv_ P)
    exact H
  · replace H := H.2 hc
    exact go_vret rfl dX4_insertByNumber_12 ⟨rfl, H⟩
set_option maxRecDepth 20000 in
theorem wc_X4_insertByNumber_18 {M : mm_T} {a0 a1 : Nat} {x2 : Int32} {P : mm_T → Prop} (K0 : mm_k M a0 = (4, 2)) (H : (((x2 ≤ 0) → ∃ l1, ak_ M (mm_r M a0 0) 3 l1 ∧ (∃ n4, (x2 = nI n4 ∧ n4 < l1) ∧ ((a1 = 0 ∨ mm_k M a1 = (6, 17)) ∧ (∀ M6, M6 = mm_pr M (mm_r M a0 0) n4 a1 → ∀ M9, M9 = mm_pi M6 a0 1 (mm_i M6 a0 1 + (1 : Int32)) → P M9)))) ∧ ((¬ x2 ≤ 0) → ∃ l12, ak_ M (mm_r M a0 0) 3 l12 ∧ (∃ n15, ((x2 - (1 : Int32)) = nI n15 ∧ n15 < l12) ∧ (mm_k M (mm_r M (mm_r M a0 0) n15) = (6, 17) ∧ (mm_k M a1 = (6, 17) ∧ ((((mm_i M (mm_r M (mm_r M a0 0) n15) 0 ≤ mm_i M a1 0) → ∃ n19, (x2 = nI n19 ∧ n19 < l12) ∧ (∀ M20, M20 = mm_pr M (mm_r M a0 0) n19 a1 → ∀ M25, M25 = mm_pi M20 a0 1 (mm_i M20 a0 1 + (1 : Int32)) → P M25)) ∧ ((¬ mm_i M (mm_r M (mm_r M a0 0) n15) 0 ≤ mm_i M a1 0) → n15 < l12 ∧ (∃ n32, (x2 = nI n32 ∧ n32 < l12) ∧ (∀ M33, M33 = mm_pr M (mm_r M a0 0) n32 (mm_r M (mm_r M a0 0) n15) → cw_v mt_X4_insertByNumber 18 [some (pv_r a0), some (pv_r a1), some (pv_i (x2 + (-1 : Int32)))] [] M33 P))))))))))) : cw_v mt_X4_insertByNumber 18 [some (pv_r a0), some (pv_r a1), some (pv_i x2)] [] M P := by
  refine go_iload_n dX4_insertByNumber_18 rfl ?_
  refine go_if_le (tgt := 60) dX4_insertByNumber_19 (by decide) (fun hc => ?_) (fun hc => ?_)
  · replace H := H.1 hc
    refine go_aload_n dX4_insertByNumber_60 rfl ?_
    refine go_getR (k := 0) ⟨by decide, rfl, by decide, Or.inr ⟨_, rfl⟩⟩ K0 fl_X4_9 dX4_insertByNumber_61 ?_
    refine go_iload_n dX4_insertByNumber_64 rfl ?_
    refine go_aload_n dX4_insertByNumber_65 rfl ?_
    obtain ⟨l1, k2, H⟩ := H
    obtain ⟨n4, ⟨hn4, hn4b⟩, H⟩ := H
    obtain ⟨hv5, H⟩ := H
    refine go_aastA (j := n4) k2 (by decide) hv5 hn4 hn4b dX4_insertByNumber_66 ?_
    show go_W mt_X4_insertByNumber fr_C 67 [some (pv_r a0), some (pv_r a1), some (pv_i x2)] [] (mm_pr M (mm_r M a0 0) n4 a1) (qv_ P)
    obtain ⟨M6, hM6⟩ : ∃ M', M' = mm_pr M (mm_r M a0 0) n4 a1 := ⟨_, rfl⟩
    have k7 : mm_k M6 a0 = (4, 2) := (by rw [hM6]; exact K0)
    have k8 : ak_ M6 (mm_r M a0 0) 3 l1 := (by rw [hM6]; exact k2)
    rw [← hM6]
    replace H := H M6 hM6
    refine go_aload_n dX4_insertByNumber_67 rfl ?_
    refine go_dup pv_1r dX4_insertByNumber_68 ?_
    refine go_getI (k := 1) ⟨by decide, rfl, by decide, rfl⟩ k7 fl_X4_15 dX4_insertByNumber_69 ?_
    refine go_iconst (v := (1 : Int32)) rfl dX4_insertByNumber_72 ?_
    refine go_iadd dX4_insertByNumber_73 ?_
    refine go_putI (k := 1) ⟨by decide, rfl, by decide, rfl⟩ k7 rfl (Or.inl rfl) fl_X4_15 dX4_insertByNumber_74 ?_
    show go_W mt_X4_insertByNumber fr_C 77 [some (pv_r a0), some (pv_r a1), some (pv_i x2)] [] (mm_pi M6 a0 1 (mm_i M6 a0 1 + (1 : Int32))) (qv_ P)
    obtain ⟨M9, hM9⟩ : ∃ M', M' = mm_pi M6 a0 1 (mm_i M6 a0 1 + (1 : Int32)) := ⟨_, rfl⟩
    have k10 : mm_k M9 a0 = (4, 2) := (by rw [hM9]; exact k7)
    have k11 : ak_ M9 (mm_r M a0 0) 3 l1 := (by rw [hM9]; exact k8)
    rw [← hM9]
    replace H := H M9 hM9
    exact go_vret rfl dX4_insertByNumber_77 ⟨rfl, H⟩
  · replace H := H.2 hc
    refine go_aload_n dX4_insertByNumber_22 rfl ?_
    refine go_getR (k := 0) ⟨by decide, rfl, by decide, Or.inr ⟨_, rfl⟩⟩ K0 fl_X4_9 dX4_insertByNumber_23 ?_
    refine go_iload_n dX4_insertByNumber_26 rfl ?_
    refine go_iconst (v := (1 : Int32)) rfl dX4_insertByNumber_27 ?_
    refine go_isub dX4_insertByNumber_28 ?_
    obtain ⟨l12, k13, H⟩ := H
    obtain ⟨n15, ⟨hn15, hn15b⟩, H⟩ := H
    refine go_aaldA (j := n15) k13 (by decide) hn15 hn15b dX4_insertByNumber_29 ?_
    obtain ⟨k16, H⟩ := H
    refine go_getI (k := 0) ⟨by decide, rfl, by decide, rfl⟩ k16 fl_X4_19 dX4_insertByNumber_30 ?_
    refine go_aload_n dX4_insertByNumber_33 rfl ?_
    obtain ⟨k17, H⟩ := H
    refine go_getI (k := 0) ⟨by decide, rfl, by decide, rfl⟩ k17 fl_X4_19 dX4_insertByNumber_34 ?_
    refine go_icmp_le (tgt := 60) dX4_insertByNumber_37 (by decide) (fun hc => ?_) (fun hc => ?_)
    · replace H := H.1 hc
      refine go_aload_n dX4_insertByNumber_60 rfl ?_
      refine go_getR (k := 0) ⟨by decide, rfl, by decide, Or.inr ⟨_, rfl⟩⟩ K0 fl_X4_9 dX4_insertByNumber_61 ?_
      refine go_iload_n dX4_insertByNumber_64 rfl ?_
      refine go_aload_n dX4_insertByNumber_65 rfl ?_
      obtain ⟨n19, ⟨hn19, hn19b⟩, H⟩ := H
      refine go_aastA (j := n19) k13 (by decide) (Or.inr k17) hn19 hn19b dX4_insertByNumber_66 ?_
      show go_W mt_X4_insertByNumber fr_C 67 [some (pv_r a0), some (pv_r a1), some (pv_i x2)] [] (mm_pr M (mm_r M a0 0) n19 a1) (qv_ P)
      obtain ⟨M20, hM20⟩ : ∃ M', M' = mm_pr M (mm_r M a0 0) n19 a1 := ⟨_, rfl⟩
      have k21 : mm_k M20 a0 = (4, 2) := (by rw [hM20]; exact K0)
      have k22 : mm_k M20 (mm_r M (mm_r M a0 0) n15) = (6, 17) := (by rw [hM20]; exact k16)
      have k23 : mm_k M20 a1 = (6, 17) := (by rw [hM20]; exact k17)
      have k24 : ak_ M20 (mm_r M a0 0) 3 l12 := (by rw [hM20]; exact k13)
      rw [← hM20]
      replace H := H M20 hM20
      refine go_aload_n dX4_insertByNumber_67 rfl ?_
      refine go_dup pv_1r dX4_insertByNumber_68 ?_
      refine go_getI (k := 1) ⟨by decide, rfl, by decide, rfl⟩ k21 fl_X4_15 dX4_insertByNumber_69 ?_
      refine go_iconst (v := (1 : Int32)) rfl dX4_insertByNumber_72 ?_
      refine go_iadd dX4_insertByNumber_73 ?_
      refine go_putI (k := 1) ⟨by decide, rfl, by decide, rfl⟩ k21 rfl (Or.inl rfl) fl_X4_15 dX4_insertByNumber_74 ?_
      show go_W mt_X4_insertByNumber fr_C 77 [some (pv_r a0), some (pv_r a1), some (pv_i x2)] [] (mm_pi M20 a0 1 (mm_i M20 a0 1 + (1 : Int32))) (qv_ P)
      obtain ⟨M25, hM25⟩ : ∃ M', M' = mm_pi M20 a0 1 (mm_i M20 a0 1 + (1 : Int32)) := ⟨_, rfl⟩
      have k26 : mm_k M25 a0 = (4, 2) := (by rw [hM25]; exact k21)
      have k27 : mm_k M25 (mm_r M (mm_r M a0 0) n15) = (6, 17) := (by rw [hM25]; exact k22)
      have k28 : mm_k M25 a1 = (6, 17) := (by rw [hM25]; exact k23)
      have k29 : ak_ M25 (mm_r M a0 0) 3 l12 := (by rw [hM25]; exact k24)
      rw [← hM25]
      replace H := H M25 hM25
      exact go_vret rfl dX4_insertByNumber_77 ⟨rfl, H⟩
    · replace H := H.2 hc
      refine go_aload_n dX4_insertByNumber_40 rfl ?_
      refine go_getR (k := 0) ⟨by decide, rfl, by decide, Or.inr ⟨_, rfl⟩⟩ K0 fl_X4_9 dX4_insertByNumber_41 ?_
      refine go_iload_n dX4_insertByNumber_44 rfl ?_
      refine go_aload_n dX4_insertByNumber_45 rfl ?_
      refine go_getR (k := 0) ⟨by decide, rfl, by decide, Or.inr ⟨_, rfl⟩⟩ K0 fl_X4_9 dX4_insertByNumber_46 ?_
      refine go_iload_n dX4_insertByNumber_49 rfl ?_
      refine go_iconst (v := (1 : Int32)) rfl dX4_insertByNumber_50 ?_
      refine go_isub dX4_insertByNumber_51 ?_
      obtain ⟨hb30, H⟩ := H
      refine go_aaldA (j := n15) k13 (by decide) hn15 hb30 dX4_insertByNumber_52 ?_
      obtain ⟨n32, ⟨hn32, hn32b⟩, H⟩ := H
      refine go_aastA (j := n32) k13 (by decide) (Or.inr k16) hn32 hn32b dX4_insertByNumber_53 ?_
      show go_W mt_X4_insertByNumber fr_C 54 [some (pv_r a0), some (pv_r a1), some (pv_i x2)] [] (mm_pr M (mm_r M a0 0) n32 (mm_r M (mm_r M a0 0) n15)) (qv_ P)
      obtain ⟨M33, hM33⟩ : ∃ M', M' = mm_pr M (mm_r M a0 0) n32 (mm_r M (mm_r M a0 0) n15) := ⟨_, rfl⟩
      have k34 : mm_k M33 a0 = (4, 2) := (by rw [hM33]; exact K0)
      have k35 : mm_k M33 (mm_r M (mm_r M a0 0) n15) = (6, 17) := (by rw [hM33]; exact k16)
      have k36 : mm_k M33 a1 = (6, 17) := (by rw [hM33]; exact k17)
      have k37 : ak_ M33 (mm_r M a0 0) 3 l12 := (by rw [hM33]; exact k13)
      rw [← hM33]
      replace H := H M33 hM33
      refine go_iinc (v := (-1 : Int32)) (by decide) rfl rfl dX4_insertByNumber_54 ?_
      show go_W mt_X4_insertByNumber fr_C 57 [some (pv_r a0), some (pv_r a1), some (pv_i (x2 + (-1 : Int32)))] [] M33 (qv_ P)
      refine go_goto (tgt := 18) dX4_insertByNumber_57 (by decide) ?_
      exact H
set_option maxRecDepth 20000 in
theorem wc_X4_drop_0 {M : mm_T} {a0 a1 : Nat} {P : mm_T → Prop} (K0 : mm_k M a0 = (4, 2)) (H : cw_v mt_X4_drop 4 [some (pv_r a0), some (pv_r a1), some (pv_i (0 : Int32)), some (pv_i (0 : Int32))] [] M P) : cw_v mt_X4_drop 0 [some (pv_r a0), some (pv_r a1), none, none] [] M P := by
  refine go_iconst (v := (0 : Int32)) rfl dX4_drop_0 ?_
  refine go_istore_n (by decide) dX4_drop_1 ?_
  show go_W mt_X4_drop fr_C 2 [some (pv_r a0), some (pv_r a1), some (pv_i (0 : Int32)), none] [] M (qv_ P)
  refine go_iconst (v := (0 : Int32)) rfl dX4_drop_2 ?_
  refine go_istore_n (by decide) dX4_drop_3 ?_
  show go_W mt_X4_drop fr_C 4 [some (pv_r a0), some (pv_r a1), some (pv_i (0 : Int32)), some (pv_i (0 : Int32))] [] M (qv_ P)
  exact H
set_option maxRecDepth 20000 in
theorem wc_X4_drop_4 {M : mm_T} {a0 a1 : Nat} {x2 x3 : Int32} {P : mm_T → Prop} (K0 : mm_k M a0 = (4, 2)) (H : (((mm_i M a0 1 ≤ x3) → ∀ M1, M1 = mm_pi M a0 1 x2 → P M1) ∧ ((¬ mm_i M a0 1 ≤ x3) → ∃ l3, ak_ M (mm_r M a0 0) 3 l3 ∧ (∃ n6, (x3 = nI n6 ∧ n6 < l3) ∧ ((mm_r M (mm_r M a0 0) n6 = 0 ∨ ob_ M (mm_r M (mm_r M a0 0) n6)) ∧ (a1 = 0 ∨ ob_ M a1) ∧ (((mm_r M (mm_r M a0 0) n6 = a1) → cw_v mt_X4_drop 4 [some (pv_r a0), some (pv_r a1), some (pv_i x2), some (pv_i (nI (n6 + 1)))] [] M P) ∧ ((¬ mm_r M (mm_r M a0 0) n6 = a1) → n6 < l3 ∧ (∃ n11, (x2 = nI n11 ∧ n11 < l3) ∧ ((mm_r M (mm_r M a0 0) n6 = 0 ∨ mm_k M (mm_r M (mm_r M a0 0) n6) = (6, 17)) ∧ (∀ M13, M13 = mm_pr M (mm_r M a0 0) n11 (mm_r M (mm_r M a0 0) n6) → cw_v mt_X4_drop 4 [some (pv_r a0), some (pv_r a1), some (pv_i (nI (n11 + 1))), some (pv_i (nI (n6 + 1)))] [] M13 P)))))))))) : cw_v mt_X4_drop 4 [some (pv_r a0), some (pv_r a1), some (pv_i x2), some (pv_i x3)] [] M P := by
  refine go_iload_n dX4_drop_4 rfl ?_
  refine go_aload_n dX4_drop_5 rfl ?_
  refine go_getI (k := 1) ⟨by decide, rfl, by decide, rfl⟩ K0 fl_X4_15 dX4_drop_6 ?_
  refine go_icmp_ge (tgt := 43) dX4_drop_9 (by decide) (fun hc => ?_) (fun hc => ?_)
  · replace H := H.1 hc
    refine go_aload_n dX4_drop_43 rfl ?_
    refine go_iload_n dX4_drop_44 rfl ?_
    refine go_putI (k := 1) ⟨by decide, rfl, by decide, rfl⟩ K0 rfl (Or.inl rfl) fl_X4_15 dX4_drop_45 ?_
    show go_W mt_X4_drop fr_C 48 [some (pv_r a0), some (pv_r a1), some (pv_i x2), some (pv_i x3)] [] (mm_pi M a0 1 x2) (qv_ P)
    obtain ⟨M1, hM1⟩ : ∃ M', M' = mm_pi M a0 1 x2 := ⟨_, rfl⟩
    have k2 : mm_k M1 a0 = (4, 2) := (by rw [hM1]; exact K0)
    rw [← hM1]
    replace H := H M1 hM1
    exact go_vret rfl dX4_drop_48 ⟨rfl, H⟩
  · replace H := H.2 hc
    refine go_aload_n dX4_drop_12 rfl ?_
    refine go_getR (k := 0) ⟨by decide, rfl, by decide, Or.inr ⟨_, rfl⟩⟩ K0 fl_X4_9 dX4_drop_13 ?_
    refine go_iload_n dX4_drop_16 rfl ?_
    obtain ⟨l3, k4, H⟩ := H
    obtain ⟨n6, ⟨hn6, hn6b⟩, H⟩ := H
    refine go_aaldA (j := n6) k4 (by decide) hn6 hn6b dX4_drop_17 ?_
    refine go_aload_n dX4_drop_18 rfl ?_
    obtain ⟨ho7, H⟩ := H
    obtain ⟨ho8, H⟩ := H
    refine go_acmpO_eq (tgt := 37) ho7 ho8 dX4_drop_19 (by decide) (fun hc => ?_) (fun hc => ?_)
    · replace H := H.1 hc
      refine go_iincN (n := n6) (k := 1) hn6 (by decide) rfl rfl dX4_drop_37 ?_
      show go_W mt_X4_drop fr_C 40 [some (pv_r a0), some (pv_r a1), some (pv_i x2), some (pv_i (nI (n6 + 1)))] [] M (qv_ P)
      refine go_goto (tgt := 4) dX4_drop_40 (by decide) ?_
      exact H
    · replace H := H.2 hc
      refine go_aload_n dX4_drop_22 rfl ?_
      refine go_getR (k := 0) ⟨by decide, rfl, by decide, Or.inr ⟨_, rfl⟩⟩ K0 fl_X4_9 dX4_drop_23 ?_
      refine go_iload_n dX4_drop_26 rfl ?_
      refine go_aload_n dX4_drop_27 rfl ?_
      refine go_getR (k := 0) ⟨by decide, rfl, by decide, Or.inr ⟨_, rfl⟩⟩ K0 fl_X4_9 dX4_drop_28 ?_
      refine go_iload_n dX4_drop_31 rfl ?_
      obtain ⟨hb9, H⟩ := H
      refine go_aaldA (j := n6) k4 (by decide) hn6 hb9 dX4_drop_32 ?_
      obtain ⟨n11, ⟨hn11, hn11b⟩, H⟩ := H
      obtain ⟨hv12, H⟩ := H
      refine go_aastA (j := n11) k4 (by decide) hv12 hn11 hn11b dX4_drop_33 ?_
      show go_W mt_X4_drop fr_C 34 [some (pv_r a0), some (pv_r a1), some (pv_i x2), some (pv_i x3)] [] (mm_pr M (mm_r M a0 0) n11 (mm_r M (mm_r M a0 0) n6)) (qv_ P)
      obtain ⟨M13, hM13⟩ : ∃ M', M' = mm_pr M (mm_r M a0 0) n11 (mm_r M (mm_r M a0 0) n6) := ⟨_, rfl⟩
      have k14 : mm_k M13 a0 = (4, 2) := (by rw [hM13]; exact K0)
      have k15 : ak_ M13 (mm_r M a0 0) 3 l3 := (by rw [hM13]; exact k4)
      rw [← hM13]
      replace H := H M13 hM13
      refine go_iincN (n := n11) (k := 1) hn11 (by decide) rfl rfl dX4_drop_34 ?_
      show go_W mt_X4_drop fr_C 37 [some (pv_r a0), some (pv_r a1), some (pv_i (nI (n11 + 1))), some (pv_i x3)] [] M13 (qv_ P)
      refine go_iincN (n := n6) (k := 1) hn6 (by decide) rfl rfl dX4_drop_37 ?_
      show go_W mt_X4_drop fr_C 40 [some (pv_r a0), some (pv_r a1), some (pv_i (nI (n11 + 1))), some (pv_i (nI (n6 + 1)))] [] M13 (qv_ P)
      refine go_goto (tgt := 4) dX4_drop_40 (by decide) ?_
      exact H
set_option maxRecDepth 20000 in
theorem wc_X5_init_0 {M : mm_T} {a0 : Nat} {P : mm_T → Prop} (K0 : mm_k M a0 = (5, 3)) (H : (mm_n M + 1 ≤ nb_ ∧ mm_t M (mm_n M) + 400 ≤ sb_) ∧ (∀ M1, M1 = mm_w M 25 400 → ∀ M4, M4 = mm_pr M1 a0 0 (mm_n M) → (mm_n M4 + 1 ≤ nb_ ∧ mm_t M4 (mm_n M4) + 400 ≤ sb_) ∧ (∀ M7, M7 = mm_w M4 25 400 → ∀ M11, M11 = mm_pr M7 a0 1 (mm_n M4) → P M11))) : cw_v mt_X5_init 0 [some (pv_r a0)] [] M P := by
  refine go_aload_n dX5_init_0 rfl ?_
  refine go_objInitK (by decide) K0 (Nat.le_of_ble_eq_true rfl) ⟨by decide, by decide⟩ ml_X5_3 im_J_Object_init cd_J_Object_init dX5_init_1 ?_
  refine go_aload_n dX5_init_4 rfl ?_
  refine go_sipush (v := (400 : Int32)) rfl dX5_init_5 ?_
  obtain ⟨hr, H⟩ := H
  refine go_newIA 25 ⟨by decide, by decide⟩ rfl (by decide) ac_int hr.1 hr.2 dX5_init_8 ?_
  show go_W mt_X5_init fr_C 10 [some (pv_r a0)] [pv_r (mm_n M), pv_r a0] (mm_w M 25 400) (qv_ P)
  obtain ⟨M1, hM1⟩ : ∃ M', M' = mm_w M 25 400 := ⟨_, rfl⟩
  have k2 : mm_k M1 a0 = (5, 3) := (by rw [hM1]; exact ks_S K0 (by decide) (mm_S_w (fr := fr_C)))
  have k3 : ak_ M1 (mm_n M) 0 400 := by rw [hM1]; exact ⟨_, mm_k_w, by decide, by decide, by omega, rfl⟩
  rw [← hM1]
  replace H := H M1 hM1
  refine go_putR (k := 0) ⟨by decide, rfl, by decide, Or.inr ⟨_, rfl⟩⟩ k2 rfl (Or.inr ⟨rfl, rfl⟩) fl_X5_9 dX5_init_10 ?_
  show go_W mt_X5_init fr_C 13 [some (pv_r a0)] [] (mm_pr M1 a0 0 (mm_n M)) (qv_ P)
  obtain ⟨M4, hM4⟩ : ∃ M', M' = mm_pr M1 a0 0 (mm_n M) := ⟨_, rfl⟩
  have k5 : mm_k M4 a0 = (5, 3) := (by rw [hM4]; exact k2)
  have k6 : ak_ M4 (mm_n M) 0 400 := (by rw [hM4]; exact k3)
  rw [← hM4]
  replace H := H M4 hM4
  refine go_aload_n dX5_init_13 rfl ?_
  refine go_sipush (v := (400 : Int32)) rfl dX5_init_14 ?_
  obtain ⟨hr, H⟩ := H
  refine go_newIA 25 ⟨by decide, by decide⟩ rfl (by decide) ac_int hr.1 hr.2 dX5_init_17 ?_
  show go_W mt_X5_init fr_C 19 [some (pv_r a0)] [pv_r (mm_n M4), pv_r a0] (mm_w M4 25 400) (qv_ P)
  obtain ⟨M7, hM7⟩ : ∃ M', M' = mm_w M4 25 400 := ⟨_, rfl⟩
  have k8 : mm_k M7 a0 = (5, 3) := (by rw [hM7]; exact ks_S k5 (by decide) (mm_S_w (fr := fr_C)))
  have k9 : ak_ M7 (mm_n M) 0 400 := (by rw [hM7]; exact ak_S k6 (mm_S_w (fr := fr_C)))
  have k10 : ak_ M7 (mm_n M4) 0 400 := by rw [hM7]; exact ⟨_, mm_k_w, by decide, by decide, by omega, rfl⟩
  rw [← hM7]
  replace H := H M7 hM7
  refine go_putR (k := 1) ⟨by decide, rfl, by decide, Or.inr ⟨_, rfl⟩⟩ k8 rfl (Or.inr ⟨rfl, rfl⟩) fl_X5_15 dX5_init_19 ?_
  show go_W mt_X5_init fr_C 22 [some (pv_r a0)] [] (mm_pr M7 a0 1 (mm_n M4)) (qv_ P)
  obtain ⟨M11, hM11⟩ : ∃ M', M' = mm_pr M7 a0 1 (mm_n M4) := ⟨_, rfl⟩
  have k12 : mm_k M11 a0 = (5, 3) := (by rw [hM11]; exact k8)
  have k13 : ak_ M11 (mm_n M) 0 400 := (by rw [hM11]; exact k9)
  have k14 : ak_ M11 (mm_n M4) 0 400 := (by rw [hM11]; exact k10)
  rw [← hM11]
  replace H := H M11 hM11
  exact go_vret rfl dX5_init_22 ⟨rfl, H⟩
set_option maxRecDepth 20000 in
theorem wc_X5_find_0 {M : mm_T} {a0 : Nat} {x1 : Int32} {P : Int32 → mm_T → Prop} (K0 : mm_k M a0 = (5, 3)) (H : cw_i mt_X5_find 2 [some (pv_r a0), some (pv_i x1), some (pv_i (0 : Int32))] [] M P) : cw_i mt_X5_find 0 [some (pv_r a0), some (pv_i x1), none] [] M P := by
  refine go_iconst (v := (0 : Int32)) rfl dX5_find_0 ?_
  refine go_istore_n (by decide) dX5_find_1 ?_
  show go_W mt_X5_find fr_C 2 [some (pv_r a0), some (pv_i x1), some (pv_i (0 : Int32))] [] M (qi_ P)
  exact H
set_option maxRecDepth 20000 in
theorem wc_X5_find_2 {M : mm_T} {a0 : Nat} {x1 x2 : Int32} {P : Int32 → mm_T → Prop} (K0 : mm_k M a0 = (5, 3)) (H : (((mm_i M a0 2 ≤ x2) → P (-1 : Int32) M) ∧ ((¬ mm_i M a0 2 ≤ x2) → ∃ l1, ak_ M (mm_r M a0 0) 0 l1 ∧ (∃ n4, (x2 = nI n4 ∧ n4 < l1) ∧ ((((¬ mm_i M (mm_r M a0 0) n4 = x1) → cw_i mt_X5_find 2 [some (pv_r a0), some (pv_i x1), some (pv_i (nI (n4 + 1)))] [] M P) ∧ ((mm_i M (mm_r M a0 0) n4 = x1) → P x2 M))))))) : cw_i mt_X5_find 2 [some (pv_r a0), some (pv_i x1), some (pv_i x2)] [] M P := by
  refine go_iload_n dX5_find_2 rfl ?_
  refine go_aload_n dX5_find_3 rfl ?_
  refine go_getI (k := 2) ⟨by decide, rfl, by decide, rfl⟩ K0 fl_X5_18 dX5_find_4 ?_
  refine go_icmp_ge (tgt := 28) dX5_find_7 (by decide) (fun hc => ?_) (fun hc => ?_)
  · replace H := H.1 hc
    refine go_iconst (v := (-1 : Int32)) rfl dX5_find_28 ?_
    exact go_iret rfl rfl dX5_find_29 ⟨_, rfl, H⟩
  · replace H := H.2 hc
    refine go_aload_n dX5_find_10 rfl ?_
    refine go_getR (k := 0) ⟨by decide, rfl, by decide, Or.inr ⟨_, rfl⟩⟩ K0 fl_X5_9 dX5_find_11 ?_
    refine go_iload_n dX5_find_14 rfl ?_
    obtain ⟨l1, k2, H⟩ := H
    obtain ⟨n4, ⟨hn4, hn4b⟩, H⟩ := H
    refine go_ialdA (j := n4) k2 hn4 hn4b dX5_find_15 ?_
    refine go_iload_n dX5_find_16 rfl ?_
    refine go_icmp_ne (tgt := 22) dX5_find_17 (by decide) (fun hc => ?_) (fun hc => ?_)
    · replace H := H.1 hc
      refine go_iincN (n := n4) (k := 1) hn4 (by decide) rfl rfl dX5_find_22 ?_
      show go_W mt_X5_find fr_C 25 [some (pv_r a0), some (pv_i x1), some (pv_i (nI (n4 + 1)))] [] M (qi_ P)
      refine go_goto (tgt := 2) dX5_find_25 (by decide) ?_
      exact H
    · replace H := H.2 hc
      refine go_iload_n dX5_find_20 rfl ?_
      exact go_iret rfl rfl dX5_find_21 ⟨_, rfl, H⟩
set_option maxRecDepth 20000 in
theorem wc_X5_count_0 {M : mm_T} {a0 : Nat} {x1 : Int32} {P : Int32 → mm_T → Prop} (K0 : mm_k M a0 = (5, 3)) (H : cs_i mt_X5_find [pv_r a0, pv_i x1] M (fun v2 M1 => (((¬ v2 = (-1 : Int32)) → ∃ l4, ak_ M1 (mm_r M1 a0 1) 0 l4 ∧ (∃ n7, (v2 = nI n7 ∧ n7 < l4) ∧ (P (mm_i M1 (mm_r M1 a0 1) n7) M1))) ∧ ((v2 = (-1 : Int32)) → P (0 : Int32) M1)))) : cw_i mt_X5_count 0 [some (pv_r a0), some (pv_i x1), none] [] M P := by
  refine go_aload_n dX5_count_0 rfl ?_
  refine go_iload_n dX5_count_1 rfl ?_
  refine go_V (av := [pv_i x1]) (st := []) (ci := 5) ok_X5_find ⟨by decide, by decide⟩ ml_X5_22 rfl (by decide) (fun v hv => by simp only [List.mem_cons, List.not_mem_nil, or_false] at hv; rcases hv with rfl <;> first | exact pv_1i | exact pv_1r) (Nat.le_of_ble_eq_true rfl) (fun _ h => h) (by decide) rfl K0 dX5_count_2 H (fun r M1 hq hS => ?_)
  obtain ⟨v2, rfl, H⟩ := hq
  have k3 : mm_k M1 a0 = (5, 3) := ks_S K0 (by decide) hS
  show go_W mt_X5_count fr_C 5 [some (pv_r a0), some (pv_i x1), none] [pv_i v2] M1 (qi_ P)
  refine go_istore_n (by decide) dX5_count_5 ?_
  show go_W mt_X5_count fr_C 6 [some (pv_r a0), some (pv_i x1), some (pv_i v2)] [] M1 (qi_ P)
  refine go_iload_n dX5_count_6 rfl ?_
  refine go_iconst (v := (-1 : Int32)) rfl dX5_count_7 ?_
  refine go_icmp_ne (tgt := 15) dX5_count_8 (by decide) (fun hc => ?_) (fun hc => ?_)
  · replace H := H.1 hc
    refine go_aload_n dX5_count_15 rfl ?_
    refine go_getR (k := 1) ⟨by decide, rfl, by decide, Or.inr ⟨_, rfl⟩⟩ k3 fl_X5_15 dX5_count_16 ?_
    refine go_iload_n dX5_count_19 rfl ?_
    obtain ⟨l4, k5, H⟩ := H
    obtain ⟨n7, ⟨hn7, hn7b⟩, H⟩ := H
    refine go_ialdA (j := n7) k5 hn7 hn7b dX5_count_20 ?_
    exact go_iret rfl rfl dX5_count_21 ⟨_, rfl, H⟩
  · replace H := H.2 hc
    refine go_iconst (v := (0 : Int32)) rfl dX5_count_11 ?_
    refine go_goto (tgt := 21) dX5_count_12 (by decide) ?_
    exact go_iret rfl rfl dX5_count_21 ⟨_, rfl, H⟩
set_option maxRecDepth 20000 in
theorem wc_X5_add_0 {M : mm_T} {a0 : Nat} {x1 : Int32} {P : mm_T → Prop} (K0 : mm_k M a0 = (5, 3)) (H : cs_i mt_X5_find [pv_r a0, pv_i x1] M (fun v2 M1 => (((v2 = (-1 : Int32)) → ∃ l4, ak_ M1 (mm_r M1 a0 0) 0 l4 ∧ (((((nI l4) ≤ mm_i M1 a0 2) → P M1) ∧ ((¬ (nI l4) ≤ mm_i M1 a0 2) → cs_v mt_X5_insert [pv_r a0, pv_i x1] M1 (fun M6 => P M6))))) ∧ ((¬ v2 = (-1 : Int32)) → ∃ l9, ak_ M1 (mm_r M1 a0 1) 0 l9 ∧ (∃ n12, (v2 = nI n12 ∧ n12 < l9) ∧ (n12 < l9 ∧ (∀ M14, M14 = mm_pi M1 (mm_r M1 a0 1) n12 (mm_i M1 (mm_r M1 a0 1) n12 + (1 : Int32)) → P M14))))))) : cw_v mt_X5_add 0 [some (pv_r a0), some (pv_i x1), none] [] M P := by
  refine go_aload_n dX5_add_0 rfl ?_
  refine go_iload_n dX5_add_1 rfl ?_
  refine go_V (av := [pv_i x1]) (st := []) (ci := 5) ok_X5_find ⟨by decide, by decide⟩ ml_X5_22 rfl (by decide) (fun v hv => by simp only [List.mem_cons, List.not_mem_nil, or_false] at hv; rcases hv with rfl <;> first | exact pv_1i | exact pv_1r) (Nat.le_of_ble_eq_true rfl) (fun _ h => h) (by decide) rfl K0 dX5_add_2 H (fun r M1 hq hS => ?_)
  obtain ⟨v2, rfl, H⟩ := hq
  have k3 : mm_k M1 a0 = (5, 3) := ks_S K0 (by decide) hS
  show go_W mt_X5_add fr_C 5 [some (pv_r a0), some (pv_i x1), none] [pv_i v2] M1 (qv_ P)
  refine go_istore_n (by decide) dX5_add_5 ?_
  show go_W mt_X5_add fr_C 6 [some (pv_r a0), some (pv_i x1), some (pv_i v2)] [] M1 (qv_ P)
  refine go_iload_n dX5_add_6 rfl ?_
  refine go_iconst (v := (-1 : Int32)) rfl dX5_add_7 ?_
  refine go_icmp_eq (tgt := 24) dX5_add_8 (by decide) (fun hc => ?_) (fun hc => ?_)
  · replace H := H.1 hc
    refine go_aload_n dX5_add_24 rfl ?_
    refine go_getI (k := 2) ⟨by decide, rfl, by decide, rfl⟩ k3 fl_X5_18 dX5_add_25 ?_
    refine go_aload_n dX5_add_28 rfl ?_
    refine go_getR (k := 0) ⟨by decide, rfl, by decide, Or.inr ⟨_, rfl⟩⟩ k3 fl_X5_9 dX5_add_29 ?_
    obtain ⟨l4, k5, H⟩ := H
    refine go_alenA k5 dX5_add_32 ?_
    refine go_icmp_ge (tgt := 41) dX5_add_33 (by decide) (fun hc => ?_) (fun hc => ?_)
    · replace H := H.1 hc
      exact go_vret rfl dX5_add_41 ⟨rfl, H⟩
    · replace H := H.2 hc
      refine go_aload_n dX5_add_36 rfl ?_
      refine go_iload_n dX5_add_37 rfl ?_
      refine go_V (av := [pv_i x1]) (st := []) (ci := 5) ok_X5_insert ⟨by decide, by decide⟩ ml_X5_26 rfl (by decide) (fun v hv => by simp only [List.mem_cons, List.not_mem_nil, or_false] at hv; rcases hv with rfl <;> first | exact pv_1i | exact pv_1r) (Nat.le_of_ble_eq_true rfl) (fun _ h => h) (by decide) rfl k3 dX5_add_38 H (fun r M6 hq hS => ?_)
      obtain ⟨rfl, H⟩ := hq
      have k7 : mm_k M6 a0 = (5, 3) := ks_S k3 (by decide) hS
      have k8 : ak_ M6 (mm_r M1 a0 0) 0 l4 := ak_S k5 hS
      show go_W mt_X5_add fr_C 41 [some (pv_r a0), some (pv_i x1), some (pv_i v2)] [] M6 (qv_ P)
      exact go_vret rfl dX5_add_41 ⟨rfl, H⟩
  · replace H := H.2 hc
    refine go_aload_n dX5_add_11 rfl ?_
    refine go_getR (k := 1) ⟨by decide, rfl, by decide, Or.inr ⟨_, rfl⟩⟩ k3 fl_X5_15 dX5_add_12 ?_
    refine go_iload_n dX5_add_15 rfl ?_
    refine go_dup2 pv_1i pv_1r dX5_add_16 ?_
    obtain ⟨l9, k10, H⟩ := H
    obtain ⟨n12, ⟨hn12, hn12b⟩, H⟩ := H
    refine go_ialdA (j := n12) k10 hn12 hn12b dX5_add_17 ?_
    refine go_iconst (v := (1 : Int32)) rfl dX5_add_18 ?_
    refine go_iadd dX5_add_19 ?_
    obtain ⟨hb13, H⟩ := H
    refine go_iastA (j := n12) k10 hn12 hb13 dX5_add_20 ?_
    show go_W mt_X5_add fr_C 21 [some (pv_r a0), some (pv_i x1), some (pv_i v2)] [] (mm_pi M1 (mm_r M1 a0 1) n12 (mm_i M1 (mm_r M1 a0 1) n12 + (1 : Int32))) (qv_ P)
    obtain ⟨M14, hM14⟩ : ∃ M', M' = mm_pi M1 (mm_r M1 a0 1) n12 (mm_i M1 (mm_r M1 a0 1) n12 + (1 : Int32)) := ⟨_, rfl⟩
    have k15 : mm_k M14 a0 = (5, 3) := (by rw [hM14]; exact k3)
    have k16 : ak_ M14 (mm_r M1 a0 1) 0 l9 := (by rw [hM14]; exact k10)
    rw [← hM14]
    replace H := H M14 hM14
    refine go_goto (tgt := 41) dX5_add_21 (by decide) ?_
    exact go_vret rfl dX5_add_41 ⟨rfl, H⟩
set_option maxRecDepth 20000 in
theorem wc_X5_insert_0 {M : mm_T} {a0 : Nat} {x1 : Int32} {P : mm_T → Prop} (K0 : mm_k M a0 = (5, 3)) (H : cw_v mt_X5_insert 5 [some (pv_r a0), some (pv_i x1), some (pv_i (mm_i M a0 2))] [] M P) : cw_v mt_X5_insert 0 [some (pv_r a0), some (pv_i x1), none] [] M P := by
  refine go_aload_n dX5_insert_0 rfl ?_
  refine go_getI (k := 2) ⟨by decide, rfl, by decide, rfl⟩ K0 fl_X5_18 dX5_insert_1 ?_
  refine go_istore_n (by decide) dX5_insert_4 ?_
  show go_W mt_X5_insert fr_C 5 [some (pv_r a0), some (pv_i x1), some (pv_i (mm_i M a0 2))] [] M (qv_ P)
  exact H
set_option maxRecDepth 20000 in
theorem wc_X5_insert_5 {M : mm_T} {a0 : Nat} {x1 x2 : Int32} {P : mm_T → Prop} (K0 : mm_k M a0 = (5, 3)) (H : (((x2 ≤ 0) → ∃ l1, ak_ M (mm_r M a0 0) 0 l1 ∧ (∃ n4, (x2 = nI n4 ∧ n4 < l1) ∧ (∀ M5, M5 = mm_pi M (mm_r M a0 0) n4 x1 → ∃ l8, ak_ M5 (mm_r M5 a0 1) 0 l8 ∧ (n4 < l8 ∧ (∀ M11, M11 = mm_pi M5 (mm_r M5 a0 1) n4 (1 : Int32) → ∀ M15, M15 = mm_pi M11 a0 2 (mm_i M11 a0 2 + (1 : Int32)) → P M15))))) ∧ ((¬ x2 ≤ 0) → ∃ l19, ak_ M (mm_r M a0 0) 0 l19 ∧ (∃ n22, ((x2 - (1 : Int32)) = nI n22 ∧ n22 < l19) ∧ ((((mm_i M (mm_r M a0 0) n22 ≤ x1) → ∃ n24, (x2 = nI n24 ∧ n24 < l19) ∧ (∀ M25, M25 = mm_pi M (mm_r M a0 0) n24 x1 → ∃ l28, ak_ M25 (mm_r M25 a0 1) 0 l28 ∧ (n24 < l28 ∧ (∀ M31, M31 = mm_pi M25 (mm_r M25 a0 1) n24 (1 : Int32) → ∀ M35, M35 = mm_pi M31 a0 2 (mm_i M31 a0 2 + (1 : Int32)) → P M35)))) ∧ ((¬ mm_i M (mm_r M a0 0) n22 ≤ x1) → n22 < l19 ∧ (∃ n41, (x2 = nI n41 ∧ n41 < l19) ∧ (∀ M42, M42 = mm_pi M (mm_r M a0 0) n41 (mm_i M (mm_r M a0 0) n22) → ∃ l45, ak_ M42 (mm_r M42 a0 1) 0 l45 ∧ (n22 < l45 ∧ (n41 < l45 ∧ (∀ M49, M49 = mm_pi M42 (mm_r M42 a0 1) n41 (mm_i M42 (mm_r M42 a0 1) n22) → cw_v mt_X5_insert 5 [some (pv_r a0), some (pv_i x1), some (pv_i (x2 + (-1 : Int32)))] [] M49 P)))))))))))) : cw_v mt_X5_insert 5 [some (pv_r a0), some (pv_i x1), some (pv_i x2)] [] M P := by
  refine go_iload_n dX5_insert_5 rfl ?_
  refine go_if_le (tgt := 55) dX5_insert_6 (by decide) (fun hc => ?_) (fun hc => ?_)
  · replace H := H.1 hc
    refine go_aload_n dX5_insert_55 rfl ?_
    refine go_getR (k := 0) ⟨by decide, rfl, by decide, Or.inr ⟨_, rfl⟩⟩ K0 fl_X5_9 dX5_insert_56 ?_
    refine go_iload_n dX5_insert_59 rfl ?_
    refine go_iload_n dX5_insert_60 rfl ?_
    obtain ⟨l1, k2, H⟩ := H
    obtain ⟨n4, ⟨hn4, hn4b⟩, H⟩ := H
    refine go_iastA (j := n4) k2 hn4 hn4b dX5_insert_61 ?_
    show go_W mt_X5_insert fr_C 62 [some (pv_r a0), some (pv_i x1), some (pv_i x2)] [] (mm_pi M (mm_r M a0 0) n4 x1) (qv_ P)
    obtain ⟨M5, hM5⟩ : ∃ M', M' = mm_pi M (mm_r M a0 0) n4 x1 := ⟨_, rfl⟩
    have k6 : mm_k M5 a0 = (5, 3) := (by rw [hM5]; exact K0)
    have k7 : ak_ M5 (mm_r M a0 0) 0 l1 := (by rw [hM5]; exact k2)
    rw [← hM5]
    replace H := H M5 hM5
    refine go_aload_n dX5_insert_62 rfl ?_
    refine go_getR (k := 1) ⟨by decide, rfl, by decide, Or.inr ⟨_, rfl⟩⟩ k6 fl_X5_15 dX5_insert_63 ?_
    refine go_iload_n dX5_insert_66 rfl ?_
    refine go_iconst (v := (1 : Int32)) rfl dX5_insert_67 ?_
    obtain ⟨l8, k9, H⟩ := H
    obtain ⟨hb10, H⟩ := H
    refine go_iastA (j := n4) k9 hn4 hb10 dX5_insert_68 ?_
    show go_W mt_X5_insert fr_C 69 [some (pv_r a0), some (pv_i x1), some (pv_i x2)] [] (mm_pi M5 (mm_r M5 a0 1) n4 (1 : Int32)) (qv_ P)
    obtain ⟨M11, hM11⟩ : ∃ M', M' = mm_pi M5 (mm_r M5 a0 1) n4 (1 : Int32) := ⟨_, rfl⟩
    have k12 : mm_k M11 a0 = (5, 3) := (by rw [hM11]; exact k6)
    have k13 : ak_ M11 (mm_r M a0 0) 0 l1 := (by rw [hM11]; exact k7)
    have k14 : ak_ M11 (mm_r M5 a0 1) 0 l8 := (by rw [hM11]; exact k9)
    rw [← hM11]
    replace H := H M11 hM11
    refine go_aload_n dX5_insert_69 rfl ?_
    refine go_dup pv_1r dX5_insert_70 ?_
    refine go_getI (k := 2) ⟨by decide, rfl, by decide, rfl⟩ k12 fl_X5_18 dX5_insert_71 ?_
    refine go_iconst (v := (1 : Int32)) rfl dX5_insert_74 ?_
    refine go_iadd dX5_insert_75 ?_
    refine go_putI (k := 2) ⟨by decide, rfl, by decide, rfl⟩ k12 rfl (Or.inl rfl) fl_X5_18 dX5_insert_76 ?_
    show go_W mt_X5_insert fr_C 79 [some (pv_r a0), some (pv_i x1), some (pv_i x2)] [] (mm_pi M11 a0 2 (mm_i M11 a0 2 + (1 : Int32))) (qv_ P)
    obtain ⟨M15, hM15⟩ : ∃ M', M' = mm_pi M11 a0 2 (mm_i M11 a0 2 + (1 : Int32)) := ⟨_, rfl⟩
    have k16 : mm_k M15 a0 = (5, 3) := (by rw [hM15]; exact k12)
    have k17 : ak_ M15 (mm_r M a0 0) 0 l1 := (by rw [hM15]; exact k13)
    have k18 : ak_ M15 (mm_r M5 a0 1) 0 l8 := (by rw [hM15]; exact k14)
    rw [← hM15]
    replace H := H M15 hM15
    exact go_vret rfl dX5_insert_79 ⟨rfl, H⟩
  · replace H := H.2 hc
    refine go_aload_n dX5_insert_9 rfl ?_
    refine go_getR (k := 0) ⟨by decide, rfl, by decide, Or.inr ⟨_, rfl⟩⟩ K0 fl_X5_9 dX5_insert_10 ?_
    refine go_iload_n dX5_insert_13 rfl ?_
    refine go_iconst (v := (1 : Int32)) rfl dX5_insert_14 ?_
    refine go_isub dX5_insert_15 ?_
    obtain ⟨l19, k20, H⟩ := H
    obtain ⟨n22, ⟨hn22, hn22b⟩, H⟩ := H
    refine go_ialdA (j := n22) k20 hn22 hn22b dX5_insert_16 ?_
    refine go_iload_n dX5_insert_17 rfl ?_
    refine go_icmp_le (tgt := 55) dX5_insert_18 (by decide) (fun hc => ?_) (fun hc => ?_)
    · replace H := H.1 hc
      refine go_aload_n dX5_insert_55 rfl ?_
      refine go_getR (k := 0) ⟨by decide, rfl, by decide, Or.inr ⟨_, rfl⟩⟩ K0 fl_X5_9 dX5_insert_56 ?_
      refine go_iload_n dX5_insert_59 rfl ?_
      refine go_iload_n dX5_insert_60 rfl ?_
      obtain ⟨n24, ⟨hn24, hn24b⟩, H⟩ := H
      refine go_iastA (j := n24) k20 hn24 hn24b dX5_insert_61 ?_
      show go_W mt_X5_insert fr_C 62 [some (pv_r a0), some (pv_i x1), some (pv_i x2)] [] (mm_pi M (mm_r M a0 0) n24 x1) (qv_ P)
      obtain ⟨M25, hM25⟩ : ∃ M', M' = mm_pi M (mm_r M a0 0) n24 x1 := ⟨_, rfl⟩
      have k26 : mm_k M25 a0 = (5, 3) := (by rw [hM25]; exact K0)
      have k27 : ak_ M25 (mm_r M a0 0) 0 l19 := (by rw [hM25]; exact k20)
      rw [← hM25]
      replace H := H M25 hM25
      refine go_aload_n dX5_insert_62 rfl ?_
      refine go_getR (k := 1) ⟨by decide, rfl, by decide, Or.inr ⟨_, rfl⟩⟩ k26 fl_X5_15 dX5_insert_63 ?_
      refine go_iload_n dX5_insert_66 rfl ?_
      refine go_iconst (v := (1 : Int32)) rfl dX5_insert_67 ?_
      obtain ⟨l28, k29, H⟩ := H
      obtain ⟨hb30, H⟩ := H
      refine go_iastA (j := n24) k29 hn24 hb30 dX5_insert_68 ?_
      show go_W mt_X5_insert fr_C 69 [some (pv_r a0), some (pv_i x1), some (pv_i x2)] [] (mm_pi M25 (mm_r M25 a0 1) n24 (1 : Int32)) (qv_ P)
      obtain ⟨M31, hM31⟩ : ∃ M', M' = mm_pi M25 (mm_r M25 a0 1) n24 (1 : Int32) := ⟨_, rfl⟩
      have k32 : mm_k M31 a0 = (5, 3) := (by rw [hM31]; exact k26)
      have k33 : ak_ M31 (mm_r M a0 0) 0 l19 := (by rw [hM31]; exact k27)
      have k34 : ak_ M31 (mm_r M25 a0 1) 0 l28 := (by rw [hM31]; exact k29)
      rw [← hM31]
      replace H := H M31 hM31
      refine go_aload_n dX5_insert_69 rfl ?_
      refine go_dup pv_1r dX5_insert_70 ?_
      refine go_getI (k := 2) ⟨by decide, rfl, by decide, rfl⟩ k32 fl_X5_18 dX5_insert_71 ?_
      refine go_iconst (v := (1 : Int32)) rfl dX5_insert_74 ?_
      refine go_iadd dX5_insert_75 ?_
      refine go_putI (k := 2) ⟨by decide, rfl, by decide, rfl⟩ k32 rfl (Or.inl rfl) fl_X5_18 dX5_insert_76 ?_
      show go_W mt_X5_insert fr_C 79 [some (pv_r a0), some (pv_i x1), some (pv_i x2)] [] (mm_pi M31 a0 2 (mm_i M31 a0 2 + (1 : Int32))) (qv_ P)
      obtain ⟨M35, hM35⟩ : ∃ M', M' = mm_pi M31 a0 2 (mm_i M31 a0 2 + (1 : Int32)) := ⟨_, rfl⟩
      have k36 : mm_k M35 a0 = (5, 3) := (by rw [hM35]; exact k32)
      have k37 : ak_ M35 (mm_r M a0 0) 0 l19 := (by rw [hM35]; exact k33)
      have k38 : ak_ M35 (mm_r M25 a0 1) 0 l28 := (by rw [hM35]; exact k34)
      rw [← hM35]
      replace H := H M35 hM35
      exact go_vret rfl dX5_insert_79 ⟨rfl, H⟩
    · replace H := H.2 hc
      refine go_aload_n dX5_insert_21 rfl ?_
      refine go_getR (k := 0) ⟨by decide, rfl, by decide, Or.inr ⟨_, rfl⟩⟩ K0 fl_X5_9 dX5_insert_22 ?_
      refine go_iload_n dX5_insert_25 rfl ?_
      refine go_aload_n dX5_insert_26 rfl ?_
      refine go_getR (k := 0) ⟨by decide, rfl, by decide, Or.inr ⟨_, rfl⟩⟩ K0 fl_X5_9 dX5_insert_27 ?_
      refine go_iload_n dX5_insert_30 rfl ?_
      refine go_iconst (v := (1 : Int32)) rfl dX5_insert_31 ?_
      refine go_isub dX5_insert_32 ?_
      obtain ⟨hb39, H⟩ := H
      refine go_ialdA (j := n22) k20 hn22 hb39 dX5_insert_33 ?_
      obtain ⟨n41, ⟨hn41, hn41b⟩, H⟩ := H
      refine go_iastA (j := n41) k20 hn41 hn41b dX5_insert_34 ?_
      show go_W mt_X5_insert fr_C 35 [some (pv_r a0), some (pv_i x1), some (pv_i x2)] [] (mm_pi M (mm_r M a0 0) n41 (mm_i M (mm_r M a0 0) n22)) (qv_ P)
      obtain ⟨M42, hM42⟩ : ∃ M', M' = mm_pi M (mm_r M a0 0) n41 (mm_i M (mm_r M a0 0) n22) := ⟨_, rfl⟩
      have k43 : mm_k M42 a0 = (5, 3) := (by rw [hM42]; exact K0)
      have k44 : ak_ M42 (mm_r M a0 0) 0 l19 := (by rw [hM42]; exact k20)
      rw [← hM42]
      replace H := H M42 hM42
      refine go_aload_n dX5_insert_35 rfl ?_
      refine go_getR (k := 1) ⟨by decide, rfl, by decide, Or.inr ⟨_, rfl⟩⟩ k43 fl_X5_15 dX5_insert_36 ?_
      refine go_iload_n dX5_insert_39 rfl ?_
      refine go_aload_n dX5_insert_40 rfl ?_
      refine go_getR (k := 1) ⟨by decide, rfl, by decide, Or.inr ⟨_, rfl⟩⟩ k43 fl_X5_15 dX5_insert_41 ?_
      refine go_iload_n dX5_insert_44 rfl ?_
      refine go_iconst (v := (1 : Int32)) rfl dX5_insert_45 ?_
      refine go_isub dX5_insert_46 ?_
      obtain ⟨l45, k46, H⟩ := H
      obtain ⟨hb47, H⟩ := H
      refine go_ialdA (j := n22) k46 hn22 hb47 dX5_insert_47 ?_
      obtain ⟨hb48, H⟩ := H
      refine go_iastA (j := n41) k46 hn41 hb48 dX5_insert_48 ?_
      show go_W mt_X5_insert fr_C 49 [some (pv_r a0), some (pv_i x1), some (pv_i x2)] [] (mm_pi M42 (mm_r M42 a0 1) n41 (mm_i M42 (mm_r M42 a0 1) n22)) (qv_ P)
      obtain ⟨M49, hM49⟩ : ∃ M', M' = mm_pi M42 (mm_r M42 a0 1) n41 (mm_i M42 (mm_r M42 a0 1) n22) := ⟨_, rfl⟩
      have k50 : mm_k M49 a0 = (5, 3) := (by rw [hM49]; exact k43)
      have k51 : ak_ M49 (mm_r M a0 0) 0 l19 := (by rw [hM49]; exact k44)
      have k52 : ak_ M49 (mm_r M42 a0 1) 0 l45 := (by rw [hM49]; exact k46)
      rw [← hM49]
      replace H := H M49 hM49
      refine go_iinc (v := (-1 : Int32)) (by decide) rfl rfl dX5_insert_49 ?_
      show go_W mt_X5_insert fr_C 52 [some (pv_r a0), some (pv_i x1), some (pv_i (x2 + (-1 : Int32)))] [] M49 (qv_ P)
      refine go_goto (tgt := 5) dX5_insert_52 (by decide) ?_
      exact H
set_option maxRecDepth 20000 in
theorem wc_X5_forget_0 {M : mm_T} {a0 : Nat} {x1 : Int32} {P : mm_T → Prop} (K0 : mm_k M a0 = (5, 3)) (H : cs_i mt_X5_find [pv_r a0, pv_i x1] M (fun v2 M1 => (((v2 = (-1 : Int32)) → P M1) ∧ ((¬ v2 = (-1 : Int32)) → ∃ l4, ak_ M1 (mm_r M1 a0 1) 0 l4 ∧ (∃ n7, (v2 = nI n7 ∧ n7 < l4) ∧ (∀ M8, M8 = mm_pi M1 (mm_r M1 a0 1) n7 (0 : Int32) → P M8)))))) : cw_v mt_X5_forget 0 [some (pv_r a0), some (pv_i x1), none] [] M P := by
  refine go_aload_n dX5_forget_0 rfl ?_
  refine go_iload_n dX5_forget_1 rfl ?_
  refine go_V (av := [pv_i x1]) (st := []) (ci := 5) ok_X5_find ⟨by decide, by decide⟩ ml_X5_22 rfl (by decide) (fun v hv => by simp only [List.mem_cons, List.not_mem_nil, or_false] at hv; rcases hv with rfl <;> first | exact pv_1i | exact pv_1r) (Nat.le_of_ble_eq_true rfl) (fun _ h => h) (by decide) rfl K0 dX5_forget_2 H (fun r M1 hq hS => ?_)
  obtain ⟨v2, rfl, H⟩ := hq
  have k3 : mm_k M1 a0 = (5, 3) := ks_S K0 (by decide) hS
  show go_W mt_X5_forget fr_C 5 [some (pv_r a0), some (pv_i x1), none] [pv_i v2] M1 (qv_ P)
  refine go_istore_n (by decide) dX5_forget_5 ?_
  show go_W mt_X5_forget fr_C 6 [some (pv_r a0), some (pv_i x1), some (pv_i v2)] [] M1 (qv_ P)
  refine go_iload_n dX5_forget_6 rfl ?_
  refine go_iconst (v := (-1 : Int32)) rfl dX5_forget_7 ?_
  refine go_icmp_eq (tgt := 18) dX5_forget_8 (by decide) (fun hc => ?_) (fun hc => ?_)
  · replace H := H.1 hc
    exact go_vret rfl dX5_forget_18 ⟨rfl, H⟩
  · replace H := H.2 hc
    refine go_aload_n dX5_forget_11 rfl ?_
    refine go_getR (k := 1) ⟨by decide, rfl, by decide, Or.inr ⟨_, rfl⟩⟩ k3 fl_X5_15 dX5_forget_12 ?_
    refine go_iload_n dX5_forget_15 rfl ?_
    refine go_iconst (v := (0 : Int32)) rfl dX5_forget_16 ?_
    obtain ⟨l4, k5, H⟩ := H
    obtain ⟨n7, ⟨hn7, hn7b⟩, H⟩ := H
    refine go_iastA (j := n7) k5 hn7 hn7b dX5_forget_17 ?_
    show go_W mt_X5_forget fr_C 18 [some (pv_r a0), some (pv_i x1), some (pv_i v2)] [] (mm_pi M1 (mm_r M1 a0 1) n7 (0 : Int32)) (qv_ P)
    obtain ⟨M8, hM8⟩ : ∃ M', M' = mm_pi M1 (mm_r M1 a0 1) n7 (0 : Int32) := ⟨_, rfl⟩
    have k9 : mm_k M8 a0 = (5, 3) := (by rw [hM8]; exact k3)
    have k10 : ak_ M8 (mm_r M1 a0 1) 0 l4 := (by rw [hM8]; exact k5)
    rw [← hM8]
    replace H := H M8 hM8
    exact go_vret rfl dX5_forget_18 ⟨rfl, H⟩
set_option maxRecDepth 20000 in
theorem wc_X5_kthWith_0 {M : mm_T} {a0 : Nat} {x1 x2 : Int32} {P : Int32 → mm_T → Prop} (K0 : mm_k M a0 = (5, 3)) (H : cw_i mt_X5_kthWith 5 [some (pv_r a0), some (pv_i x1), some (pv_i x2), some (pv_i (0 : Int32)), some (pv_i (0 : Int32))] [] M P) : cw_i mt_X5_kthWith 0 [some (pv_r a0), some (pv_i x1), some (pv_i x2), none, none] [] M P := by
  refine go_iconst (v := (0 : Int32)) rfl dX5_kthWith_0 ?_
  refine go_istore_n (by decide) dX5_kthWith_1 ?_
  show go_W mt_X5_kthWith fr_C 2 [some (pv_r a0), some (pv_i x1), some (pv_i x2), some (pv_i (0 : Int32)), none] [] M (qi_ P)
  refine go_iconst (v := (0 : Int32)) rfl dX5_kthWith_2 ?_
  refine go_istore (by decide) dX5_kthWith_3 ?_
  show go_W mt_X5_kthWith fr_C 5 [some (pv_r a0), some (pv_i x1), some (pv_i x2), some (pv_i (0 : Int32)), some (pv_i (0 : Int32))] [] M (qi_ P)
  exact H
set_option maxRecDepth 20000 in
theorem wc_X5_kthWith_5 {M : mm_T} {a0 : Nat} {x1 x2 x3 x4 : Int32} {P : Int32 → mm_T → Prop} (K0 : mm_k M a0 = (5, 3)) (H : (((mm_i M a0 2 ≤ x4) → P (-1 : Int32) M) ∧ ((¬ mm_i M a0 2 ≤ x4) → ∃ l1, ak_ M (mm_r M a0 1) 0 l1 ∧ (∃ n4, (x4 = nI n4 ∧ n4 < l1) ∧ ((((x1 ≤ mm_i M (mm_r M a0 1) n4) → (((¬ x3 = x2) → cw_i mt_X5_kthWith 5 [some (pv_r a0), some (pv_i x1), some (pv_i x2), some (pv_i (x3 + (1 : Int32))), some (pv_i (nI (n4 + 1)))] [] M P) ∧ ((x3 = x2) → ∃ l5, ak_ M (mm_r M a0 0) 0 l5 ∧ (n4 < l5 ∧ (P (mm_i M (mm_r M a0 0) n4) M))))) ∧ ((¬ x1 ≤ mm_i M (mm_r M a0 1) n4) → cw_i mt_X5_kthWith 5 [some (pv_r a0), some (pv_i x1), some (pv_i x2), some (pv_i x3), some (pv_i (nI (n4 + 1)))] [] M P))))))) : cw_i mt_X5_kthWith 5 [some (pv_r a0), some (pv_i x1), some (pv_i x2), some (pv_i x3), some (pv_i x4)] [] M P := by
  refine go_iload dX5_kthWith_5 rfl ?_
  refine go_aload_n dX5_kthWith_7 rfl ?_
  refine go_getI (k := 2) ⟨by decide, rfl, by decide, rfl⟩ K0 fl_X5_18 dX5_kthWith_8 ?_
  refine go_icmp_ge (tgt := 50) dX5_kthWith_11 (by decide) (fun hc => ?_) (fun hc => ?_)
  · replace H := H.1 hc
    refine go_iconst (v := (-1 : Int32)) rfl dX5_kthWith_50 ?_
    exact go_iret rfl rfl dX5_kthWith_51 ⟨_, rfl, H⟩
  · replace H := H.2 hc
    refine go_aload_n dX5_kthWith_14 rfl ?_
    refine go_getR (k := 1) ⟨by decide, rfl, by decide, Or.inr ⟨_, rfl⟩⟩ K0 fl_X5_15 dX5_kthWith_15 ?_
    refine go_iload dX5_kthWith_18 rfl ?_
    obtain ⟨l1, k2, H⟩ := H
    obtain ⟨n4, ⟨hn4, hn4b⟩, H⟩ := H
    refine go_ialdA (j := n4) k2 hn4 hn4b dX5_kthWith_20 ?_
    refine go_iload_n dX5_kthWith_21 rfl ?_
    refine go_icmp_ge (tgt := 28) dX5_kthWith_22 (by decide) (fun hc => ?_) (fun hc => ?_)
    · replace H := H.1 hc
      refine go_iload_n dX5_kthWith_28 rfl ?_
      refine go_iload_n dX5_kthWith_29 rfl ?_
      refine go_icmp_ne (tgt := 41) dX5_kthWith_30 (by decide) (fun hc => ?_) (fun hc => ?_)
      · replace H := H.1 hc
        refine go_iinc (v := (1 : Int32)) (by decide) rfl rfl dX5_kthWith_41 ?_
        show go_W mt_X5_kthWith fr_C 44 [some (pv_r a0), some (pv_i x1), some (pv_i x2), some (pv_i (x3 + (1 : Int32))), some (pv_i x4)] [] M (qi_ P)
        refine go_iincN (n := n4) (k := 1) hn4 (by decide) rfl rfl dX5_kthWith_44 ?_
        show go_W mt_X5_kthWith fr_C 47 [some (pv_r a0), some (pv_i x1), some (pv_i x2), some (pv_i (x3 + (1 : Int32))), some (pv_i (nI (n4 + 1)))] [] M (qi_ P)
        refine go_goto (tgt := 5) dX5_kthWith_47 (by decide) ?_
        exact H
      · replace H := H.2 hc
        refine go_aload_n dX5_kthWith_33 rfl ?_
        refine go_getR (k := 0) ⟨by decide, rfl, by decide, Or.inr ⟨_, rfl⟩⟩ K0 fl_X5_9 dX5_kthWith_34 ?_
        refine go_iload dX5_kthWith_37 rfl ?_
        obtain ⟨l5, k6, H⟩ := H
        obtain ⟨hb7, H⟩ := H
        refine go_ialdA (j := n4) k6 hn4 hb7 dX5_kthWith_39 ?_
        exact go_iret rfl rfl dX5_kthWith_40 ⟨_, rfl, H⟩
    · replace H := H.2 hc
      refine go_goto (tgt := 44) dX5_kthWith_25 (by decide) ?_
      refine go_iincN (n := n4) (k := 1) hn4 (by decide) rfl rfl dX5_kthWith_44 ?_
      show go_W mt_X5_kthWith fr_C 47 [some (pv_r a0), some (pv_i x1), some (pv_i x2), some (pv_i x3), some (pv_i (nI (n4 + 1)))] [] M (qi_ P)
      refine go_goto (tgt := 5) dX5_kthWith_47 (by decide) ?_
      exact H
set_option maxRecDepth 20000 in
theorem wc_X6_init_0 {M : mm_T} {a0 a2 a3 : Nat} {x1 : Int32} {P : mm_T → Prop} (K0 : mm_k M a0 = (6, 17)) (H : ∀ M1, M1 = mm_pi M a0 7 (-1 : Int32) → ∀ M3, M3 = mm_pi M1 a0 13 (-1 : Int32) → ∀ M5, M5 = mm_pi M3 a0 16 (-1 : Int32) → ∀ M7, M7 = mm_pi M5 a0 0 x1 → ∀ M9, M9 = mm_pr M7 a0 2 a2 → ∀ M11, M11 = mm_pr M9 a0 1 a3 → P M11) : cw_v mt_X6_init 0 [some (pv_r a0), some (pv_i x1), some (pv_r a2), some (pv_r a3)] [] M P := by
  refine go_aload_n dX6_init_0 rfl ?_
  refine go_objInitK (by decide) K0 (Nat.le_of_ble_eq_true rfl) ⟨by decide, by decide⟩ ml_X6_3 im_J_Object_init cd_J_Object_init dX6_init_1 ?_
  refine go_aload_n dX6_init_4 rfl ?_
  refine go_iconst (v := (-1 : Int32)) rfl dX6_init_5 ?_
  refine go_putI (k := 7) ⟨by decide, rfl, by decide, rfl⟩ K0 rfl (Or.inr ⟨rfl, rfl⟩) fl_X6_9 dX6_init_6 ?_
  show go_W mt_X6_init fr_C 9 [some (pv_r a0), some (pv_i x1), some (pv_r a2), some (pv_r a3)] [] (mm_pi M a0 7 (-1 : Int32)) (qv_ P)
  obtain ⟨M1, hM1⟩ : ∃ M', M' = mm_pi M a0 7 (-1 : Int32) := ⟨_, rfl⟩
  have k2 : mm_k M1 a0 = (6, 17) := (by rw [hM1]; exact K0)
  rw [← hM1]
  replace H := H M1 hM1
  refine go_aload_n dX6_init_9 rfl ?_
  refine go_iconst (v := (-1 : Int32)) rfl dX6_init_10 ?_
  refine go_putI (k := 13) ⟨by decide, rfl, by decide, rfl⟩ k2 rfl (Or.inr ⟨rfl, rfl⟩) fl_X6_15 dX6_init_11 ?_
  show go_W mt_X6_init fr_C 14 [some (pv_r a0), some (pv_i x1), some (pv_r a2), some (pv_r a3)] [] (mm_pi M1 a0 13 (-1 : Int32)) (qv_ P)
  obtain ⟨M3, hM3⟩ : ∃ M', M' = mm_pi M1 a0 13 (-1 : Int32) := ⟨_, rfl⟩
  have k4 : mm_k M3 a0 = (6, 17) := (by rw [hM3]; exact k2)
  rw [← hM3]
  replace H := H M3 hM3
  refine go_aload_n dX6_init_14 rfl ?_
  refine go_iconst (v := (-1 : Int32)) rfl dX6_init_15 ?_
  refine go_putI (k := 16) ⟨by decide, rfl, by decide, rfl⟩ k4 rfl (Or.inr ⟨rfl, rfl⟩) fl_X6_18 dX6_init_16 ?_
  show go_W mt_X6_init fr_C 19 [some (pv_r a0), some (pv_i x1), some (pv_r a2), some (pv_r a3)] [] (mm_pi M3 a0 16 (-1 : Int32)) (qv_ P)
  obtain ⟨M5, hM5⟩ : ∃ M', M' = mm_pi M3 a0 16 (-1 : Int32) := ⟨_, rfl⟩
  have k6 : mm_k M5 a0 = (6, 17) := (by rw [hM5]; exact k4)
  rw [← hM5]
  replace H := H M5 hM5
  refine go_aload_n dX6_init_19 rfl ?_
  refine go_iload_n dX6_init_20 rfl ?_
  refine go_putI (k := 0) ⟨by decide, rfl, by decide, rfl⟩ k6 rfl (Or.inr ⟨rfl, rfl⟩) fl_X6_21 dX6_init_21 ?_
  show go_W mt_X6_init fr_C 24 [some (pv_r a0), some (pv_i x1), some (pv_r a2), some (pv_r a3)] [] (mm_pi M5 a0 0 x1) (qv_ P)
  obtain ⟨M7, hM7⟩ : ∃ M', M' = mm_pi M5 a0 0 x1 := ⟨_, rfl⟩
  have k8 : mm_k M7 a0 = (6, 17) := (by rw [hM7]; exact k6)
  rw [← hM7]
  replace H := H M7 hM7
  refine go_aload_n dX6_init_24 rfl ?_
  refine go_aload_n dX6_init_25 rfl ?_
  refine go_putR (k := 2) ⟨by decide, rfl, by decide, Or.inl ⟨_, rfl⟩⟩ k8 rfl (Or.inr ⟨rfl, rfl⟩) fl_X6_24 dX6_init_26 ?_
  show go_W mt_X6_init fr_C 29 [some (pv_r a0), some (pv_i x1), some (pv_r a2), some (pv_r a3)] [] (mm_pr M7 a0 2 a2) (qv_ P)
  obtain ⟨M9, hM9⟩ : ∃ M', M' = mm_pr M7 a0 2 a2 := ⟨_, rfl⟩
  have k10 : mm_k M9 a0 = (6, 17) := (by rw [hM9]; exact k8)
  rw [← hM9]
  replace H := H M9 hM9
  refine go_aload_n dX6_init_29 rfl ?_
  refine go_aload_n dX6_init_30 rfl ?_
  refine go_putR (k := 1) ⟨by decide, rfl, by decide, Or.inl ⟨_, rfl⟩⟩ k10 rfl (Or.inr ⟨rfl, rfl⟩) fl_X6_28 dX6_init_31 ?_
  show go_W mt_X6_init fr_C 34 [some (pv_r a0), some (pv_i x1), some (pv_r a2), some (pv_r a3)] [] (mm_pr M9 a0 1 a3) (qv_ P)
  obtain ⟨M11, hM11⟩ : ∃ M', M' = mm_pr M9 a0 1 a3 := ⟨_, rfl⟩
  have k12 : mm_k M11 a0 = (6, 17) := (by rw [hM11]; exact k10)
  rw [← hM11]
  replace H := H M11 hM11
  exact go_vret rfl dX6_init_34 ⟨rfl, H⟩
set_option maxRecDepth 20000 in
theorem wc_X6_copyFrom_0 {M : mm_T} {a0 a1 a2 : Nat} {P : mm_T → Prop} (K0 : mm_k M a0 = (6, 17)) (H : mm_k M a1 = (6, 17) ∧ (∀ M2, M2 = mm_pi M a0 0 (mm_i M a1 0) → ∀ M5, M5 = mm_pr M2 a0 1 (mm_r M2 a1 1) → ∀ M8, M8 = mm_pr M5 a0 2 a2 → ∀ M11, M11 = mm_pi M8 a0 3 (mm_i M8 a1 3) → ∀ M14, M14 = mm_pi M11 a0 4 (mm_i M11 a1 4) → ∀ M17, M17 = mm_pi M14 a0 6 (mm_i M14 a1 6) → ∀ M20, M20 = mm_pi M17 a0 7 (mm_i M17 a1 7) → ∀ M23, M23 = mm_pi M20 a0 9 (mm_i M20 a1 9) → ∀ M26, M26 = mm_pi M23 a0 12 (mm_i M23 a1 12) → P M26)) : cw_v mt_X6_copyFrom 0 [some (pv_r a0), some (pv_r a1), some (pv_r a2)] [] M P := by
  refine go_aload_n dX6_copyFrom_0 rfl ?_
  refine go_aload_n dX6_copyFrom_1 rfl ?_
  obtain ⟨k1, H⟩ := H
  refine go_getI (k := 0) ⟨by decide, rfl, by decide, rfl⟩ k1 fl_X6_21 dX6_copyFrom_2 ?_
  refine go_putI (k := 0) ⟨by decide, rfl, by decide, rfl⟩ K0 rfl (Or.inl rfl) fl_X6_21 dX6_copyFrom_5 ?_
  show go_W mt_X6_copyFrom fr_C 8 [some (pv_r a0), some (pv_r a1), some (pv_r a2)] [] (mm_pi M a0 0 (mm_i M a1 0)) (qv_ P)
  obtain ⟨M2, hM2⟩ : ∃ M', M' = mm_pi M a0 0 (mm_i M a1 0) := ⟨_, rfl⟩
  have k3 : mm_k M2 a0 = (6, 17) := (by rw [hM2]; exact K0)
  have k4 : mm_k M2 a1 = (6, 17) := (by rw [hM2]; exact k1)
  rw [← hM2]
  replace H := H M2 hM2
  refine go_aload_n dX6_copyFrom_8 rfl ?_
  refine go_aload_n dX6_copyFrom_9 rfl ?_
  refine go_getR (k := 1) ⟨by decide, rfl, by decide, Or.inl ⟨_, rfl⟩⟩ k4 fl_X6_28 dX6_copyFrom_10 ?_
  refine go_putR (k := 1) ⟨by decide, rfl, by decide, Or.inl ⟨_, rfl⟩⟩ k3 rfl (Or.inl rfl) fl_X6_28 dX6_copyFrom_13 ?_
  show go_W mt_X6_copyFrom fr_C 16 [some (pv_r a0), some (pv_r a1), some (pv_r a2)] [] (mm_pr M2 a0 1 (mm_r M2 a1 1)) (qv_ P)
  obtain ⟨M5, hM5⟩ : ∃ M', M' = mm_pr M2 a0 1 (mm_r M2 a1 1) := ⟨_, rfl⟩
  have k6 : mm_k M5 a0 = (6, 17) := (by rw [hM5]; exact k3)
  have k7 : mm_k M5 a1 = (6, 17) := (by rw [hM5]; exact k4)
  rw [← hM5]
  replace H := H M5 hM5
  refine go_aload_n dX6_copyFrom_16 rfl ?_
  refine go_aload_n dX6_copyFrom_17 rfl ?_
  refine go_putR (k := 2) ⟨by decide, rfl, by decide, Or.inl ⟨_, rfl⟩⟩ k6 rfl (Or.inl rfl) fl_X6_24 dX6_copyFrom_18 ?_
  show go_W mt_X6_copyFrom fr_C 21 [some (pv_r a0), some (pv_r a1), some (pv_r a2)] [] (mm_pr M5 a0 2 a2) (qv_ P)
  obtain ⟨M8, hM8⟩ : ∃ M', M' = mm_pr M5 a0 2 a2 := ⟨_, rfl⟩
  have k9 : mm_k M8 a0 = (6, 17) := (by rw [hM8]; exact k6)
  have k10 : mm_k M8 a1 = (6, 17) := (by rw [hM8]; exact k7)
  rw [← hM8]
  replace H := H M8 hM8
  refine go_aload_n dX6_copyFrom_21 rfl ?_
  refine go_aload_n dX6_copyFrom_22 rfl ?_
  refine go_getI (k := 3) ⟨by decide, rfl, by decide, rfl⟩ k10 fl_X6_32 dX6_copyFrom_23 ?_
  refine go_putI (k := 3) ⟨by decide, rfl, by decide, rfl⟩ k9 rfl (Or.inl rfl) fl_X6_32 dX6_copyFrom_26 ?_
  show go_W mt_X6_copyFrom fr_C 29 [some (pv_r a0), some (pv_r a1), some (pv_r a2)] [] (mm_pi M8 a0 3 (mm_i M8 a1 3)) (qv_ P)
  obtain ⟨M11, hM11⟩ : ∃ M', M' = mm_pi M8 a0 3 (mm_i M8 a1 3) := ⟨_, rfl⟩
  have k12 : mm_k M11 a0 = (6, 17) := (by rw [hM11]; exact k9)
  have k13 : mm_k M11 a1 = (6, 17) := (by rw [hM11]; exact k10)
  rw [← hM11]
  replace H := H M11 hM11
  refine go_aload_n dX6_copyFrom_29 rfl ?_
  refine go_aload_n dX6_copyFrom_30 rfl ?_
  refine go_getI (k := 4) ⟨by decide, rfl, by decide, rfl⟩ k13 fl_X6_35 dX6_copyFrom_31 ?_
  refine go_putI (k := 4) ⟨by decide, rfl, by decide, rfl⟩ k12 rfl (Or.inl rfl) fl_X6_35 dX6_copyFrom_34 ?_
  show go_W mt_X6_copyFrom fr_C 37 [some (pv_r a0), some (pv_r a1), some (pv_r a2)] [] (mm_pi M11 a0 4 (mm_i M11 a1 4)) (qv_ P)
  obtain ⟨M14, hM14⟩ : ∃ M', M' = mm_pi M11 a0 4 (mm_i M11 a1 4) := ⟨_, rfl⟩
  have k15 : mm_k M14 a0 = (6, 17) := (by rw [hM14]; exact k12)
  have k16 : mm_k M14 a1 = (6, 17) := (by rw [hM14]; exact k13)
  rw [← hM14]
  replace H := H M14 hM14
  refine go_aload_n dX6_copyFrom_37 rfl ?_
  refine go_aload_n dX6_copyFrom_38 rfl ?_
  refine go_getI (k := 6) ⟨by decide, rfl, by decide, rfl⟩ k16 fl_X6_38 dX6_copyFrom_39 ?_
  refine go_putI (k := 6) ⟨by decide, rfl, by decide, rfl⟩ k15 rfl (Or.inl rfl) fl_X6_38 dX6_copyFrom_42 ?_
  show go_W mt_X6_copyFrom fr_C 45 [some (pv_r a0), some (pv_r a1), some (pv_r a2)] [] (mm_pi M14 a0 6 (mm_i M14 a1 6)) (qv_ P)
  obtain ⟨M17, hM17⟩ : ∃ M', M' = mm_pi M14 a0 6 (mm_i M14 a1 6) := ⟨_, rfl⟩
  have k18 : mm_k M17 a0 = (6, 17) := (by rw [hM17]; exact k15)
  have k19 : mm_k M17 a1 = (6, 17) := (by rw [hM17]; exact k16)
  rw [← hM17]
  replace H := H M17 hM17
  refine go_aload_n dX6_copyFrom_45 rfl ?_
  refine go_aload_n dX6_copyFrom_46 rfl ?_
  refine go_getI (k := 7) ⟨by decide, rfl, by decide, rfl⟩ k19 fl_X6_9 dX6_copyFrom_47 ?_
  refine go_putI (k := 7) ⟨by decide, rfl, by decide, rfl⟩ k18 rfl (Or.inl rfl) fl_X6_9 dX6_copyFrom_50 ?_
  show go_W mt_X6_copyFrom fr_C 53 [some (pv_r a0), some (pv_r a1), some (pv_r a2)] [] (mm_pi M17 a0 7 (mm_i M17 a1 7)) (qv_ P)
  obtain ⟨M20, hM20⟩ : ∃ M', M' = mm_pi M17 a0 7 (mm_i M17 a1 7) := ⟨_, rfl⟩
  have k21 : mm_k M20 a0 = (6, 17) := (by rw [hM20]; exact k18)
  have k22 : mm_k M20 a1 = (6, 17) := (by rw [hM20]; exact k19)
  rw [← hM20]
  replace H := H M20 hM20
  refine go_aload_n dX6_copyFrom_53 rfl ?_
  refine go_aload_n dX6_copyFrom_54 rfl ?_
  refine go_getI (k := 9) ⟨by decide, rfl, by decide, rfl⟩ k22 fl_X6_41 dX6_copyFrom_55 ?_
  refine go_putI (k := 9) ⟨by decide, rfl, by decide, rfl⟩ k21 rfl (Or.inl rfl) fl_X6_41 dX6_copyFrom_58 ?_
  show go_W mt_X6_copyFrom fr_C 61 [some (pv_r a0), some (pv_r a1), some (pv_r a2)] [] (mm_pi M20 a0 9 (mm_i M20 a1 9)) (qv_ P)
  obtain ⟨M23, hM23⟩ : ∃ M', M' = mm_pi M20 a0 9 (mm_i M20 a1 9) := ⟨_, rfl⟩
  have k24 : mm_k M23 a0 = (6, 17) := (by rw [hM23]; exact k21)
  have k25 : mm_k M23 a1 = (6, 17) := (by rw [hM23]; exact k22)
  rw [← hM23]
  replace H := H M23 hM23
  refine go_aload_n dX6_copyFrom_61 rfl ?_
  refine go_aload_n dX6_copyFrom_62 rfl ?_
  refine go_getI (k := 12) ⟨by decide, rfl, by decide, rfl⟩ k25 fl_X6_44 dX6_copyFrom_63 ?_
  refine go_putI (k := 12) ⟨by decide, rfl, by decide, rfl⟩ k24 rfl (Or.inl rfl) fl_X6_44 dX6_copyFrom_66 ?_
  show go_W mt_X6_copyFrom fr_C 69 [some (pv_r a0), some (pv_r a1), some (pv_r a2)] [] (mm_pi M23 a0 12 (mm_i M23 a1 12)) (qv_ P)
  obtain ⟨M26, hM26⟩ : ∃ M', M' = mm_pi M23 a0 12 (mm_i M23 a1 12) := ⟨_, rfl⟩
  have k27 : mm_k M26 a0 = (6, 17) := (by rw [hM26]; exact k24)
  have k28 : mm_k M26 a1 = (6, 17) := (by rw [hM26]; exact k25)
  rw [← hM26]
  replace H := H M26 hM26
  exact go_vret rfl dX6_copyFrom_69 ⟨rfl, H⟩
set_option maxRecDepth 20000 in
theorem wc_X6_stands_0 {M : mm_T} {a0 : Nat} {P : Int32 → mm_T → Prop} (K0 : mm_k M a0 = (6, 17)) (H : (((mm_i M a0 7 < 0) → P (0 : Int32) M) ∧ ((¬ mm_i M a0 7 < 0) → ((((3 : Int32) < mm_i M a0 7) → P (0 : Int32) M) ∧ ((¬ (3 : Int32) < mm_i M a0 7) → P (1 : Int32) M))))) : cw_i mt_X6_stands 0 [some (pv_r a0)] [] M P := by
  refine go_aload_n dX6_stands_0 rfl ?_
  refine go_getI (k := 7) ⟨by decide, rfl, by decide, rfl⟩ K0 fl_X6_9 dX6_stands_1 ?_
  refine go_if_lt (tgt := 19) dX6_stands_4 (by decide) (fun hc => ?_) (fun hc => ?_)
  · replace H := H.1 hc
    refine go_iconst (v := (0 : Int32)) rfl dX6_stands_19 ?_
    exact go_iret rfl rfl dX6_stands_20 ⟨_, rfl, H⟩
  · replace H := H.2 hc
    refine go_aload_n dX6_stands_7 rfl ?_
    refine go_getI (k := 7) ⟨by decide, rfl, by decide, rfl⟩ K0 fl_X6_9 dX6_stands_8 ?_
    refine go_iconst (v := (3 : Int32)) rfl dX6_stands_11 ?_
    refine go_icmp_gt (tgt := 19) dX6_stands_12 (by decide) (fun hc => ?_) (fun hc => ?_)
    · replace H := H.1 hc
      refine go_iconst (v := (0 : Int32)) rfl dX6_stands_19 ?_
      exact go_iret rfl rfl dX6_stands_20 ⟨_, rfl, H⟩
    · replace H := H.2 hc
      refine go_iconst (v := (1 : Int32)) rfl dX6_stands_15 ?_
      refine go_goto (tgt := 20) dX6_stands_16 (by decide) ?_
      exact go_iret rfl rfl dX6_stands_20 ⟨_, rfl, H⟩
set_option maxRecDepth 20000 in
theorem wc_X6_isLoose_0 {M : mm_T} {a0 : Nat} {P : Int32 → mm_T → Prop} (K0 : mm_k M a0 = (6, 17)) (H : (((mm_i M a0 7 < 0) → P (0 : Int32) M) ∧ ((¬ mm_i M a0 7 < 0) → ((((2 : Int32) < mm_i M a0 7) → P (0 : Int32) M) ∧ ((¬ (2 : Int32) < mm_i M a0 7) → P (1 : Int32) M))))) : cw_i mt_X6_isLoose 0 [some (pv_r a0)] [] M P := by
  refine go_aload_n dX6_isLoose_0 rfl ?_
  refine go_getI (k := 7) ⟨by decide, rfl, by decide, rfl⟩ K0 fl_X6_9 dX6_isLoose_1 ?_
  refine go_if_lt (tgt := 19) dX6_isLoose_4 (by decide) (fun hc => ?_) (fun hc => ?_)
  · replace H := H.1 hc
    refine go_iconst (v := (0 : Int32)) rfl dX6_isLoose_19 ?_
    exact go_iret rfl rfl dX6_isLoose_20 ⟨_, rfl, H⟩
  · replace H := H.2 hc
    refine go_aload_n dX6_isLoose_7 rfl ?_
    refine go_getI (k := 7) ⟨by decide, rfl, by decide, rfl⟩ K0 fl_X6_9 dX6_isLoose_8 ?_
    refine go_iconst (v := (2 : Int32)) rfl dX6_isLoose_11 ?_
    refine go_icmp_gt (tgt := 19) dX6_isLoose_12 (by decide) (fun hc => ?_) (fun hc => ?_)
    · replace H := H.1 hc
      refine go_iconst (v := (0 : Int32)) rfl dX6_isLoose_19 ?_
      exact go_iret rfl rfl dX6_isLoose_20 ⟨_, rfl, H⟩
    · replace H := H.2 hc
      refine go_iconst (v := (1 : Int32)) rfl dX6_isLoose_15 ?_
      refine go_goto (tgt := 20) dX6_isLoose_16 (by decide) ?_
      exact go_iret rfl rfl dX6_isLoose_20 ⟨_, rfl, H⟩
set_option maxRecDepth 20000 in
theorem wc_X6_isBehindLost_0 {M : mm_T} {a0 : Nat} {P : Int32 → mm_T → Prop} (K0 : mm_k M a0 = (6, 17)) (H : (((mm_r M a0 1 = 0) → P (0 : Int32) M) ∧ ((¬ mm_r M a0 1 = 0) → mm_k M (mm_r M a0 1) = (6, 17) ∧ ((((mm_i M (mm_r M a0 1) 7 = (5 : Int32)) → P (1 : Int32) M) ∧ ((¬ mm_i M (mm_r M a0 1) 7 = (5 : Int32)) → (((¬ mm_i M (mm_r M a0 1) 7 = (6 : Int32)) → P (0 : Int32) M) ∧ ((mm_i M (mm_r M a0 1) 7 = (6 : Int32)) → P (1 : Int32) M)))))))) : cw_i mt_X6_isBehindLost 0 [some (pv_r a0)] [] M P := by
  refine go_aload_n dX6_isBehindLost_0 rfl ?_
  refine go_getR (k := 1) ⟨by decide, rfl, by decide, Or.inl ⟨_, rfl⟩⟩ K0 fl_X6_28 dX6_isBehindLost_1 ?_
  refine go_ifnull (tgt := 34) dX6_isBehindLost_4 (by decide) (fun hc => ?_) (fun hc => ?_)
  · replace H := H.1 hc
    refine go_iconst (v := (0 : Int32)) rfl dX6_isBehindLost_34 ?_
    exact go_iret rfl rfl dX6_isBehindLost_35 ⟨_, rfl, H⟩
  · replace H := H.2 hc
    refine go_aload_n dX6_isBehindLost_7 rfl ?_
    refine go_getR (k := 1) ⟨by decide, rfl, by decide, Or.inl ⟨_, rfl⟩⟩ K0 fl_X6_28 dX6_isBehindLost_8 ?_
    obtain ⟨k1, H⟩ := H
    refine go_getI (k := 7) ⟨by decide, rfl, by decide, rfl⟩ k1 fl_X6_9 dX6_isBehindLost_11 ?_
    refine go_iconst (v := (5 : Int32)) rfl dX6_isBehindLost_14 ?_
    refine go_icmp_eq (tgt := 30) dX6_isBehindLost_15 (by decide) (fun hc => ?_) (fun hc => ?_)
    · replace H := H.1 hc
      refine go_iconst (v := (1 : Int32)) rfl dX6_isBehindLost_30 ?_
      refine go_goto (tgt := 35) dX6_isBehindLost_31 (by decide) ?_
      exact go_iret rfl rfl dX6_isBehindLost_35 ⟨_, rfl, H⟩
    · replace H := H.2 hc
      refine go_aload_n dX6_isBehindLost_18 rfl ?_
      refine go_getR (k := 1) ⟨by decide, rfl, by decide, Or.inl ⟨_, rfl⟩⟩ K0 fl_X6_28 dX6_isBehindLost_19 ?_
      refine go_getI (k := 7) ⟨by decide, rfl, by decide, rfl⟩ k1 fl_X6_9 dX6_isBehindLost_22 ?_
      refine go_bipush (v := (6 : Int32)) rfl dX6_isBehindLost_25 ?_
      refine go_icmp_ne (tgt := 34) dX6_isBehindLost_27 (by decide) (fun hc => ?_) (fun hc => ?_)
      · replace H := H.1 hc
        refine go_iconst (v := (0 : Int32)) rfl dX6_isBehindLost_34 ?_
        exact go_iret rfl rfl dX6_isBehindLost_35 ⟨_, rfl, H⟩
      · replace H := H.2 hc
        refine go_iconst (v := (1 : Int32)) rfl dX6_isBehindLost_30 ?_
        refine go_goto (tgt := 35) dX6_isBehindLost_31 (by decide) ?_
        exact go_iret rfl rfl dX6_isBehindLost_35 ⟨_, rfl, H⟩
set_option maxRecDepth 20000 in
theorem wc_X6_endsBy_0 {M : mm_T} {a0 : Nat} {x1 : Int32} {P : Int32 → mm_T → Prop} (K0 : mm_k M a0 = (6, 17)) (H : (((¬ mm_i M a0 7 = (3 : Int32)) → P (0 : Int32) M) ∧ ((mm_i M a0 7 = (3 : Int32)) → (((x1 < mm_i M a0 12) → P (0 : Int32) M) ∧ ((¬ x1 < mm_i M a0 12) → P (1 : Int32) M))))) : cw_i mt_X6_endsBy 0 [some (pv_r a0), some (pv_i x1)] [] M P := by
  refine go_aload_n dX6_endsBy_0 rfl ?_
  refine go_getI (k := 7) ⟨by decide, rfl, by decide, rfl⟩ K0 fl_X6_9 dX6_endsBy_1 ?_
  refine go_iconst (v := (3 : Int32)) rfl dX6_endsBy_4 ?_
  refine go_icmp_ne (tgt := 20) dX6_endsBy_5 (by decide) (fun hc => ?_) (fun hc => ?_)
  · replace H := H.1 hc
    refine go_iconst (v := (0 : Int32)) rfl dX6_endsBy_20 ?_
    exact go_iret rfl rfl dX6_endsBy_21 ⟨_, rfl, H⟩
  · replace H := H.2 hc
    refine go_aload_n dX6_endsBy_8 rfl ?_
    refine go_getI (k := 12) ⟨by decide, rfl, by decide, rfl⟩ K0 fl_X6_44 dX6_endsBy_9 ?_
    refine go_iload_n dX6_endsBy_12 rfl ?_
    refine go_icmp_gt (tgt := 20) dX6_endsBy_13 (by decide) (fun hc => ?_) (fun hc => ?_)
    · replace H := H.1 hc
      refine go_iconst (v := (0 : Int32)) rfl dX6_endsBy_20 ?_
      exact go_iret rfl rfl dX6_endsBy_21 ⟨_, rfl, H⟩
    · replace H := H.2 hc
      refine go_iconst (v := (1 : Int32)) rfl dX6_endsBy_16 ?_
      refine go_goto (tgt := 21) dX6_endsBy_17 (by decide) ?_
      exact go_iret rfl rfl dX6_endsBy_21 ⟨_, rfl, H⟩
set_option maxRecDepth 20000 in
theorem wc_X6_dueBy_0 {M : mm_T} {a0 : Nat} {x1 : Int32} {P : Int32 → mm_T → Prop} (K0 : mm_k M a0 = (6, 17)) (H : (((¬ mm_i M a0 7 = (2 : Int32)) → P (0 : Int32) M) ∧ ((mm_i M a0 7 = (2 : Int32)) → (((x1 < mm_i M a0 9) → P (0 : Int32) M) ∧ ((¬ x1 < mm_i M a0 9) → P (1 : Int32) M))))) : cw_i mt_X6_dueBy 0 [some (pv_r a0), some (pv_i x1)] [] M P := by
  refine go_aload_n dX6_dueBy_0 rfl ?_
  refine go_getI (k := 7) ⟨by decide, rfl, by decide, rfl⟩ K0 fl_X6_9 dX6_dueBy_1 ?_
  refine go_iconst (v := (2 : Int32)) rfl dX6_dueBy_4 ?_
  refine go_icmp_ne (tgt := 20) dX6_dueBy_5 (by decide) (fun hc => ?_) (fun hc => ?_)
  · replace H := H.1 hc
    refine go_iconst (v := (0 : Int32)) rfl dX6_dueBy_20 ?_
    exact go_iret rfl rfl dX6_dueBy_21 ⟨_, rfl, H⟩
  · replace H := H.2 hc
    refine go_aload_n dX6_dueBy_8 rfl ?_
    refine go_getI (k := 9) ⟨by decide, rfl, by decide, rfl⟩ K0 fl_X6_41 dX6_dueBy_9 ?_
    refine go_iload_n dX6_dueBy_12 rfl ?_
    refine go_icmp_gt (tgt := 20) dX6_dueBy_13 (by decide) (fun hc => ?_) (fun hc => ?_)
    · replace H := H.1 hc
      refine go_iconst (v := (0 : Int32)) rfl dX6_dueBy_20 ?_
      exact go_iret rfl rfl dX6_dueBy_21 ⟨_, rfl, H⟩
    · replace H := H.2 hc
      refine go_iconst (v := (1 : Int32)) rfl dX6_dueBy_16 ?_
      refine go_goto (tgt := 21) dX6_dueBy_17 (by decide) ?_
      exact go_iret rfl rfl dX6_dueBy_21 ⟨_, rfl, H⟩
set_option maxRecDepth 20000 in
theorem wc_X6_rankBy_0 {M : mm_T} {a0 : Nat} {x1 : Int32} {P : Int32 → mm_T → Prop} (K0 : mm_k M a0 = (6, 17)) (H : P ((mm_i M a0 3 * x1) - mm_i M a0 6) M) : cw_i mt_X6_rankBy 0 [some (pv_r a0), some (pv_i x1)] [] M P := by
  refine go_aload_n dX6_rankBy_0 rfl ?_
  refine go_getI (k := 3) ⟨by decide, rfl, by decide, rfl⟩ K0 fl_X6_32 dX6_rankBy_1 ?_
  refine go_iload_n dX6_rankBy_4 rfl ?_
  refine go_imul dX6_rankBy_5 ?_
  refine go_aload_n dX6_rankBy_6 rfl ?_
  refine go_getI (k := 6) ⟨by decide, rfl, by decide, rfl⟩ K0 fl_X6_38 dX6_rankBy_7 ?_
  refine go_isub dX6_rankBy_10 ?_
  exact go_iret rfl rfl dX6_rankBy_11 ⟨_, rfl, H⟩
set_option maxRecDepth 20000 in
theorem wc_X6_giveTo_0 {M : mm_T} {a0 a1 : Nat} {x2 x3 : Int32} {P : mm_T → Prop} (K0 : mm_k M a0 = (6, 17)) (H : ∀ M1, M1 = mm_pr M a0 10 a1 → ∀ M3, M3 = mm_pi M1 a0 11 x2 → ∀ M5, M5 = mm_pi M3 a0 12 x3 → mm_k M5 a1 = (9, 5) ∧ (∀ M8, M8 = mm_pr M5 a1 1 a0 → P M8)) : cw_v mt_X6_giveTo 0 [some (pv_r a0), some (pv_r a1), some (pv_i x2), some (pv_i x3)] [] M P := by
  refine go_aload_n dX6_giveTo_0 rfl ?_
  refine go_aload_n dX6_giveTo_1 rfl ?_
  refine go_putR (k := 10) ⟨by decide, rfl, by decide, Or.inl ⟨_, rfl⟩⟩ K0 rfl (Or.inl rfl) fl_X6_47 dX6_giveTo_2 ?_
  show go_W mt_X6_giveTo fr_C 5 [some (pv_r a0), some (pv_r a1), some (pv_i x2), some (pv_i x3)] [] (mm_pr M a0 10 a1) (qv_ P)
  obtain ⟨M1, hM1⟩ : ∃ M', M' = mm_pr M a0 10 a1 := ⟨_, rfl⟩
  have k2 : mm_k M1 a0 = (6, 17) := (by rw [hM1]; exact K0)
  rw [← hM1]
  replace H := H M1 hM1
  refine go_aload_n dX6_giveTo_5 rfl ?_
  refine go_iload_n dX6_giveTo_6 rfl ?_
  refine go_putI (k := 11) ⟨by decide, rfl, by decide, rfl⟩ k2 rfl (Or.inl rfl) fl_X6_51 dX6_giveTo_7 ?_
  show go_W mt_X6_giveTo fr_C 10 [some (pv_r a0), some (pv_r a1), some (pv_i x2), some (pv_i x3)] [] (mm_pi M1 a0 11 x2) (qv_ P)
  obtain ⟨M3, hM3⟩ : ∃ M', M' = mm_pi M1 a0 11 x2 := ⟨_, rfl⟩
  have k4 : mm_k M3 a0 = (6, 17) := (by rw [hM3]; exact k2)
  rw [← hM3]
  replace H := H M3 hM3
  refine go_aload_n dX6_giveTo_10 rfl ?_
  refine go_iload_n dX6_giveTo_11 rfl ?_
  refine go_putI (k := 12) ⟨by decide, rfl, by decide, rfl⟩ k4 rfl (Or.inl rfl) fl_X6_44 dX6_giveTo_12 ?_
  show go_W mt_X6_giveTo fr_C 15 [some (pv_r a0), some (pv_r a1), some (pv_i x2), some (pv_i x3)] [] (mm_pi M3 a0 12 x3) (qv_ P)
  obtain ⟨M5, hM5⟩ : ∃ M', M' = mm_pi M3 a0 12 x3 := ⟨_, rfl⟩
  have k6 : mm_k M5 a0 = (6, 17) := (by rw [hM5]; exact k4)
  rw [← hM5]
  replace H := H M5 hM5
  refine go_aload_n dX6_giveTo_15 rfl ?_
  refine go_aload_n dX6_giveTo_16 rfl ?_
  obtain ⟨k7, H⟩ := H
  refine go_putR (k := 1) ⟨by decide, rfl, by decide, Or.inl ⟨_, rfl⟩⟩ k7 rfl (Or.inl rfl) fl_X6_54 dX6_giveTo_17 ?_
  show go_W mt_X6_giveTo fr_C 20 [some (pv_r a0), some (pv_r a1), some (pv_i x2), some (pv_i x3)] [] (mm_pr M5 a1 1 a0) (qv_ P)
  obtain ⟨M8, hM8⟩ : ∃ M', M' = mm_pr M5 a1 1 a0 := ⟨_, rfl⟩
  have k9 : mm_k M8 a0 = (6, 17) := (by rw [hM8]; exact k6)
  have k10 : mm_k M8 a1 = (9, 5) := (by rw [hM8]; exact k7)
  rw [← hM8]
  replace H := H M8 hM8
  exact go_vret rfl dX6_giveTo_20 ⟨rfl, H⟩
set_option maxRecDepth 20000 in
theorem wc_X6_letGo_0 {M : mm_T} {a0 : Nat} {P : Nat → mm_T → Prop} (K0 : mm_k M a0 = (6, 17)) (H : (((mm_r M a0 10 = 0) → ∀ M1, M1 = mm_pr M a0 10 0 → P (mm_r M a0 10) M1) ∧ ((¬ mm_r M a0 10 = 0) → mm_k M (mm_r M a0 10) = (9, 5) ∧ (∀ M4, M4 = mm_pr M (mm_r M a0 10) 1 0 → ∀ M7, M7 = mm_pr M4 a0 10 0 → P (mm_r M a0 10) M7)))) : cw_r mt_X6_letGo 0 [some (pv_r a0), none] [] M P := by
  refine go_aload_n dX6_letGo_0 rfl ?_
  refine go_getR (k := 10) ⟨by decide, rfl, by decide, Or.inl ⟨_, rfl⟩⟩ K0 fl_X6_47 dX6_letGo_1 ?_
  refine go_astore_n (by decide) dX6_letGo_4 ?_
  show go_W mt_X6_letGo fr_C 5 [some (pv_r a0), some (pv_r (mm_r M a0 10))] [] M (qr_ P)
  refine go_aload_n dX6_letGo_5 rfl ?_
  refine go_ifnull (tgt := 14) dX6_letGo_6 (by decide) (fun hc => ?_) (fun hc => ?_)
  · replace H := H.1 hc
    refine go_aload_n dX6_letGo_14 rfl ?_
    refine go_null dX6_letGo_15 ?_
    refine go_putR (k := 10) ⟨by decide, rfl, by decide, Or.inl ⟨_, rfl⟩⟩ K0 rfl (Or.inl rfl) fl_X6_47 dX6_letGo_16 ?_
    show go_W mt_X6_letGo fr_C 19 [some (pv_r a0), some (pv_r (mm_r M a0 10))] [] (mm_pr M a0 10 0) (qr_ P)
    obtain ⟨M1, hM1⟩ : ∃ M', M' = mm_pr M a0 10 0 := ⟨_, rfl⟩
    have k2 : mm_k M1 a0 = (6, 17) := (by rw [hM1]; exact K0)
    rw [← hM1]
    replace H := H M1 hM1
    refine go_aload_n dX6_letGo_19 rfl ?_
    exact go_aret rfl (Or.inl ⟨_, rfl⟩) dX6_letGo_20 ⟨_, rfl, H⟩
  · replace H := H.2 hc
    refine go_aload_n dX6_letGo_9 rfl ?_
    refine go_null dX6_letGo_10 ?_
    obtain ⟨k3, H⟩ := H
    refine go_putR (k := 1) ⟨by decide, rfl, by decide, Or.inl ⟨_, rfl⟩⟩ k3 rfl (Or.inl rfl) fl_X6_54 dX6_letGo_11 ?_
    show go_W mt_X6_letGo fr_C 14 [some (pv_r a0), some (pv_r (mm_r M a0 10))] [] (mm_pr M (mm_r M a0 10) 1 0) (qr_ P)
    obtain ⟨M4, hM4⟩ : ∃ M', M' = mm_pr M (mm_r M a0 10) 1 0 := ⟨_, rfl⟩
    have k5 : mm_k M4 a0 = (6, 17) := (by rw [hM4]; exact K0)
    have k6 : mm_k M4 (mm_r M a0 10) = (9, 5) := (by rw [hM4]; exact k3)
    rw [← hM4]
    replace H := H M4 hM4
    refine go_aload_n dX6_letGo_14 rfl ?_
    refine go_null dX6_letGo_15 ?_
    refine go_putR (k := 10) ⟨by decide, rfl, by decide, Or.inl ⟨_, rfl⟩⟩ k5 rfl (Or.inl rfl) fl_X6_47 dX6_letGo_16 ?_
    show go_W mt_X6_letGo fr_C 19 [some (pv_r a0), some (pv_r (mm_r M a0 10))] [] (mm_pr M4 a0 10 0) (qr_ P)
    obtain ⟨M7, hM7⟩ : ∃ M', M' = mm_pr M4 a0 10 0 := ⟨_, rfl⟩
    have k8 : mm_k M7 a0 = (6, 17) := (by rw [hM7]; exact k5)
    have k9 : mm_k M7 (mm_r M a0 10) = (9, 5) := (by rw [hM7]; exact k6)
    rw [← hM7]
    replace H := H M7 hM7
    refine go_aload_n dX6_letGo_19 rfl ?_
    exact go_aret rfl (Or.inl ⟨_, rfl⟩) dX6_letGo_20 ⟨_, rfl, H⟩
set_option maxRecDepth 20000 in
theorem wc_X6_addCause_0 {M : mm_T} {a0 : Nat} {x1 : Int32} {P : mm_T → Prop} (K0 : mm_k M a0 = (6, 17)) (H : ∀ M1, M1 = mm_pi M a0 16 x1 → (((¬ mm_r M1 a0 14 = 0) → ((((20 : Int32) ≤ mm_i M1 a0 15) → P M1) ∧ ((¬ (20 : Int32) ≤ mm_i M1 a0 15) → ∃ l3, ak_ M1 (mm_r M1 a0 14) 0 l3 ∧ (∃ n6, (mm_i M1 a0 15 = nI n6 ∧ n6 < l3) ∧ (∀ M7, M7 = mm_pi M1 (mm_r M1 a0 14) n6 x1 → ∀ M10, M10 = mm_pi M7 a0 15 (mm_i M7 a0 15 + (1 : Int32)) → P M10))))) ∧ ((mm_r M1 a0 14 = 0) → (mm_n M1 + 1 ≤ nb_ ∧ mm_t M1 (mm_n M1) + 20 ≤ sb_) ∧ (∀ M13, M13 = mm_w M1 26 20 → ∀ M16, M16 = mm_pr M13 a0 14 (mm_n M1) → ((((20 : Int32) ≤ mm_i M16 a0 15) → P M16) ∧ ((¬ (20 : Int32) ≤ mm_i M16 a0 15) → ∃ l19, ak_ M16 (mm_r M16 a0 14) 0 l19 ∧ (∃ n22, (mm_i M16 a0 15 = nI n22 ∧ n22 < l19) ∧ (∀ M23, M23 = mm_pi M16 (mm_r M16 a0 14) n22 x1 → ∀ M27, M27 = mm_pi M23 a0 15 (mm_i M23 a0 15 + (1 : Int32)) → P M27)))))))) : cw_v mt_X6_addCause 0 [some (pv_r a0), some (pv_i x1)] [] M P := by
  refine go_aload_n dX6_addCause_0 rfl ?_
  refine go_iload_n dX6_addCause_1 rfl ?_
  refine go_putI (k := 16) ⟨by decide, rfl, by decide, rfl⟩ K0 rfl (Or.inl rfl) fl_X6_18 dX6_addCause_2 ?_
  show go_W mt_X6_addCause fr_C 5 [some (pv_r a0), some (pv_i x1)] [] (mm_pi M a0 16 x1) (qv_ P)
  obtain ⟨M1, hM1⟩ : ∃ M', M' = mm_pi M a0 16 x1 := ⟨_, rfl⟩
  have k2 : mm_k M1 a0 = (6, 17) := (by rw [hM1]; exact K0)
  rw [← hM1]
  replace H := H M1 hM1
  refine go_aload_n dX6_addCause_5 rfl ?_
  refine go_getR (k := 14) ⟨by decide, rfl, by decide, Or.inr ⟨_, rfl⟩⟩ k2 fl_X6_59 dX6_addCause_6 ?_
  refine go_ifnonnull (tgt := 20) dX6_addCause_9 (by decide) (fun hc => ?_) (fun hc => ?_)
  · replace H := H.1 hc
    refine go_aload_n dX6_addCause_20 rfl ?_
    refine go_getI (k := 15) ⟨by decide, rfl, by decide, rfl⟩ k2 fl_X6_63 dX6_addCause_21 ?_
    refine go_bipush (v := (20 : Int32)) rfl dX6_addCause_24 ?_
    refine go_icmp_ge (tgt := 49) dX6_addCause_26 (by decide) (fun hc => ?_) (fun hc => ?_)
    · replace H := H.1 hc
      exact go_vret rfl dX6_addCause_49 ⟨rfl, H⟩
    · replace H := H.2 hc
      refine go_aload_n dX6_addCause_29 rfl ?_
      refine go_getR (k := 14) ⟨by decide, rfl, by decide, Or.inr ⟨_, rfl⟩⟩ k2 fl_X6_59 dX6_addCause_30 ?_
      refine go_aload_n dX6_addCause_33 rfl ?_
      refine go_getI (k := 15) ⟨by decide, rfl, by decide, rfl⟩ k2 fl_X6_63 dX6_addCause_34 ?_
      refine go_iload_n dX6_addCause_37 rfl ?_
      obtain ⟨l3, k4, H⟩ := H
      obtain ⟨n6, ⟨hn6, hn6b⟩, H⟩ := H
      refine go_iastA (j := n6) k4 hn6 hn6b dX6_addCause_38 ?_
      show go_W mt_X6_addCause fr_C 39 [some (pv_r a0), some (pv_i x1)] [] (mm_pi M1 (mm_r M1 a0 14) n6 x1) (qv_ P)
      obtain ⟨M7, hM7⟩ : ∃ M', M' = mm_pi M1 (mm_r M1 a0 14) n6 x1 := ⟨_, rfl⟩
      have k8 : mm_k M7 a0 = (6, 17) := (by rw [hM7]; exact k2)
      have k9 : ak_ M7 (mm_r M1 a0 14) 0 l3 := (by rw [hM7]; exact k4)
      rw [← hM7]
      replace H := H M7 hM7
      refine go_aload_n dX6_addCause_39 rfl ?_
      refine go_dup pv_1r dX6_addCause_40 ?_
      refine go_getI (k := 15) ⟨by decide, rfl, by decide, rfl⟩ k8 fl_X6_63 dX6_addCause_41 ?_
      refine go_iconst (v := (1 : Int32)) rfl dX6_addCause_44 ?_
      refine go_iadd dX6_addCause_45 ?_
      refine go_putI (k := 15) ⟨by decide, rfl, by decide, rfl⟩ k8 rfl (Or.inl rfl) fl_X6_63 dX6_addCause_46 ?_
      show go_W mt_X6_addCause fr_C 49 [some (pv_r a0), some (pv_i x1)] [] (mm_pi M7 a0 15 (mm_i M7 a0 15 + (1 : Int32))) (qv_ P)
      obtain ⟨M10, hM10⟩ : ∃ M', M' = mm_pi M7 a0 15 (mm_i M7 a0 15 + (1 : Int32)) := ⟨_, rfl⟩
      have k11 : mm_k M10 a0 = (6, 17) := (by rw [hM10]; exact k8)
      have k12 : ak_ M10 (mm_r M1 a0 14) 0 l3 := (by rw [hM10]; exact k9)
      rw [← hM10]
      replace H := H M10 hM10
      exact go_vret rfl dX6_addCause_49 ⟨rfl, H⟩
  · replace H := H.2 hc
    refine go_aload_n dX6_addCause_12 rfl ?_
    refine go_bipush (v := (20 : Int32)) rfl dX6_addCause_13 ?_
    obtain ⟨hr, H⟩ := H
    refine go_newIA 26 ⟨by decide, by decide⟩ rfl (by decide) ac_int hr.1 hr.2 dX6_addCause_15 ?_
    show go_W mt_X6_addCause fr_C 17 [some (pv_r a0), some (pv_i x1)] [pv_r (mm_n M1), pv_r a0] (mm_w M1 26 20) (qv_ P)
    obtain ⟨M13, hM13⟩ : ∃ M', M' = mm_w M1 26 20 := ⟨_, rfl⟩
    have k14 : mm_k M13 a0 = (6, 17) := (by rw [hM13]; exact ks_S k2 (by decide) (mm_S_w (fr := fr_C)))
    have k15 : ak_ M13 (mm_n M1) 0 20 := by rw [hM13]; exact ⟨_, mm_k_w, by decide, by decide, by omega, rfl⟩
    rw [← hM13]
    replace H := H M13 hM13
    refine go_putR (k := 14) ⟨by decide, rfl, by decide, Or.inr ⟨_, rfl⟩⟩ k14 rfl (Or.inl rfl) fl_X6_59 dX6_addCause_17 ?_
    show go_W mt_X6_addCause fr_C 20 [some (pv_r a0), some (pv_i x1)] [] (mm_pr M13 a0 14 (mm_n M1)) (qv_ P)
    obtain ⟨M16, hM16⟩ : ∃ M', M' = mm_pr M13 a0 14 (mm_n M1) := ⟨_, rfl⟩
    have k17 : mm_k M16 a0 = (6, 17) := (by rw [hM16]; exact k14)
    have k18 : ak_ M16 (mm_n M1) 0 20 := (by rw [hM16]; exact k15)
    rw [← hM16]
    replace H := H M16 hM16
    refine go_aload_n dX6_addCause_20 rfl ?_
    refine go_getI (k := 15) ⟨by decide, rfl, by decide, rfl⟩ k17 fl_X6_63 dX6_addCause_21 ?_
    refine go_bipush (v := (20 : Int32)) rfl dX6_addCause_24 ?_
    refine go_icmp_ge (tgt := 49) dX6_addCause_26 (by decide) (fun hc => ?_) (fun hc => ?_)
    · replace H := H.1 hc
      exact go_vret rfl dX6_addCause_49 ⟨rfl, H⟩
    · replace H := H.2 hc
      refine go_aload_n dX6_addCause_29 rfl ?_
      refine go_getR (k := 14) ⟨by decide, rfl, by decide, Or.inr ⟨_, rfl⟩⟩ k17 fl_X6_59 dX6_addCause_30 ?_
      refine go_aload_n dX6_addCause_33 rfl ?_
      refine go_getI (k := 15) ⟨by decide, rfl, by decide, rfl⟩ k17 fl_X6_63 dX6_addCause_34 ?_
      refine go_iload_n dX6_addCause_37 rfl ?_
      obtain ⟨l19, k20, H⟩ := H
      obtain ⟨n22, ⟨hn22, hn22b⟩, H⟩ := H
      refine go_iastA (j := n22) k20 hn22 hn22b dX6_addCause_38 ?_
      show go_W mt_X6_addCause fr_C 39 [some (pv_r a0), some (pv_i x1)] [] (mm_pi M16 (mm_r M16 a0 14) n22 x1) (qv_ P)
      obtain ⟨M23, hM23⟩ : ∃ M', M' = mm_pi M16 (mm_r M16 a0 14) n22 x1 := ⟨_, rfl⟩
      have k24 : mm_k M23 a0 = (6, 17) := (by rw [hM23]; exact k17)
      have k25 : ak_ M23 (mm_n M1) 0 20 := (by rw [hM23]; exact k18)
      have k26 : ak_ M23 (mm_r M16 a0 14) 0 l19 := (by rw [hM23]; exact k20)
      rw [← hM23]
      replace H := H M23 hM23
      refine go_aload_n dX6_addCause_39 rfl ?_
      refine go_dup pv_1r dX6_addCause_40 ?_
      refine go_getI (k := 15) ⟨by decide, rfl, by decide, rfl⟩ k24 fl_X6_63 dX6_addCause_41 ?_
      refine go_iconst (v := (1 : Int32)) rfl dX6_addCause_44 ?_
      refine go_iadd dX6_addCause_45 ?_
      refine go_putI (k := 15) ⟨by decide, rfl, by decide, rfl⟩ k24 rfl (Or.inl rfl) fl_X6_63 dX6_addCause_46 ?_
      show go_W mt_X6_addCause fr_C 49 [some (pv_r a0), some (pv_i x1)] [] (mm_pi M23 a0 15 (mm_i M23 a0 15 + (1 : Int32))) (qv_ P)
      obtain ⟨M27, hM27⟩ : ∃ M', M' = mm_pi M23 a0 15 (mm_i M23 a0 15 + (1 : Int32)) := ⟨_, rfl⟩
      have k28 : mm_k M27 a0 = (6, 17) := (by rw [hM27]; exact k24)
      have k29 : ak_ M27 (mm_n M1) 0 20 := (by rw [hM27]; exact k25)
      have k30 : ak_ M27 (mm_r M16 a0 14) 0 l19 := (by rw [hM27]; exact k26)
      rw [← hM27]
      replace H := H M27 hM27
      exact go_vret rfl dX6_addCause_49 ⟨rfl, H⟩
set_option maxRecDepth 20000 in
theorem wc_X6_causeAt_0 {M : mm_T} {a0 : Nat} {x1 : Int32} {P : Int32 → mm_T → Prop} (K0 : mm_k M a0 = (6, 17)) (H : (((¬ x1 = (-1 : Int32)) → (((mm_r M a0 14 = 0) → P (-1 : Int32) M) ∧ ((¬ mm_r M a0 14 = 0) → (((x1 < 0) → P (-1 : Int32) M) ∧ ((¬ x1 < 0) → (((x1 < mm_i M a0 15) → ∃ l1, ak_ M (mm_r M a0 14) 0 l1 ∧ (∃ n4, (x1 = nI n4 ∧ n4 < l1) ∧ (P (mm_i M (mm_r M a0 14) n4) M))) ∧ ((¬ x1 < mm_i M a0 15) → P (-1 : Int32) M))))))) ∧ ((x1 = (-1 : Int32)) → P (mm_i M a0 15) M))) : cw_i mt_X6_causeAt 0 [some (pv_r a0), some (pv_i x1)] [] M P := by
  refine go_iload_n dX6_causeAt_0 rfl ?_
  refine go_iconst (v := (-1 : Int32)) rfl dX6_causeAt_1 ?_
  refine go_icmp_ne (tgt := 10) dX6_causeAt_2 (by decide) (fun hc => ?_) (fun hc => ?_)
  · replace H := H.1 hc
    refine go_aload_n dX6_causeAt_10 rfl ?_
    refine go_getR (k := 14) ⟨by decide, rfl, by decide, Or.inr ⟨_, rfl⟩⟩ K0 fl_X6_59 dX6_causeAt_11 ?_
    refine go_ifnull (tgt := 29) dX6_causeAt_14 (by decide) (fun hc => ?_) (fun hc => ?_)
    · replace H := H.1 hc
      refine go_iconst (v := (-1 : Int32)) rfl dX6_causeAt_29 ?_
      refine go_goto (tgt := 39) dX6_causeAt_30 (by decide) ?_
      exact go_iret rfl rfl dX6_causeAt_39 ⟨_, rfl, H⟩
    · replace H := H.2 hc
      refine go_iload_n dX6_causeAt_17 rfl ?_
      refine go_if_lt (tgt := 29) dX6_causeAt_18 (by decide) (fun hc => ?_) (fun hc => ?_)
      · replace H := H.1 hc
        refine go_iconst (v := (-1 : Int32)) rfl dX6_causeAt_29 ?_
        refine go_goto (tgt := 39) dX6_causeAt_30 (by decide) ?_
        exact go_iret rfl rfl dX6_causeAt_39 ⟨_, rfl, H⟩
      · replace H := H.2 hc
        refine go_iload_n dX6_causeAt_21 rfl ?_
        refine go_aload_n dX6_causeAt_22 rfl ?_
        refine go_getI (k := 15) ⟨by decide, rfl, by decide, rfl⟩ K0 fl_X6_63 dX6_causeAt_23 ?_
        refine go_icmp_lt (tgt := 33) dX6_causeAt_26 (by decide) (fun hc => ?_) (fun hc => ?_)
        · replace H := H.1 hc
          refine go_aload_n dX6_causeAt_33 rfl ?_
          refine go_getR (k := 14) ⟨by decide, rfl, by decide, Or.inr ⟨_, rfl⟩⟩ K0 fl_X6_59 dX6_causeAt_34 ?_
          refine go_iload_n dX6_causeAt_37 rfl ?_
          obtain ⟨l1, k2, H⟩ := H
          obtain ⟨n4, ⟨hn4, hn4b⟩, H⟩ := H
          refine go_ialdA (j := n4) k2 hn4 hn4b dX6_causeAt_38 ?_
          exact go_iret rfl rfl dX6_causeAt_39 ⟨_, rfl, H⟩
        · replace H := H.2 hc
          refine go_iconst (v := (-1 : Int32)) rfl dX6_causeAt_29 ?_
          refine go_goto (tgt := 39) dX6_causeAt_30 (by decide) ?_
          exact go_iret rfl rfl dX6_causeAt_39 ⟨_, rfl, H⟩
  · replace H := H.2 hc
    refine go_aload_n dX6_causeAt_5 rfl ?_
    refine go_getI (k := 15) ⟨by decide, rfl, by decide, rfl⟩ K0 fl_X6_63 dX6_causeAt_6 ?_
    exact go_iret rfl rfl dX6_causeAt_9 ⟨_, rfl, H⟩
set_option maxRecDepth 20000 in
theorem wc_X6_tell_0 {M : mm_T} {a0 : Nat} {x1 : Int32} {P : Int32 → mm_T → Prop} (K0 : mm_k M a0 = (6, 17)) (H : ((x1 = (0 : Int32)) → mm_k M (mm_r M a0 2) = (3, 14) ∧ (P (mm_i M (mm_r M a0 2) 0) M)) ∧ ((x1 = (1 : Int32)) → P (mm_i M a0 3) M) ∧ ((x1 = (2 : Int32)) → P (mm_i M a0 4) M) ∧ ((x1 = (3 : Int32)) → P (mm_i M a0 5) M) ∧ ((x1 = (4 : Int32)) → (((¬ mm_r M a0 1 = 0) → mm_k M (mm_r M a0 1) = (6, 17) ∧ (P (mm_i M (mm_r M a0 1) 0) M)) ∧ ((mm_r M a0 1 = 0) → P (-1 : Int32) M))) ∧ ((x1 = (5 : Int32)) → P (mm_i M a0 6) M) ∧ ((x1 = (6 : Int32)) → P (mm_i M a0 7) M) ∧ ((x1 = (7 : Int32)) → P (mm_i M a0 8) M) ∧ ((x1 = (8 : Int32)) → (((¬ mm_i M a0 7 = (2 : Int32)) → P (-1 : Int32) M) ∧ ((mm_i M a0 7 = (2 : Int32)) → P (mm_i M a0 9) M))) ∧ ((x1 = (9 : Int32)) → (((¬ mm_r M a0 10 = 0) → mm_k M (mm_r M a0 10) = (9, 5) ∧ (P (mm_i M (mm_r M a0 10) 0) M)) ∧ ((mm_r M a0 10 = 0) → P (-1 : Int32) M))) ∧ ((x1 = (10 : Int32)) → (((¬ mm_i M a0 7 = (3 : Int32)) → P (-1 : Int32) M) ∧ ((mm_i M a0 7 = (3 : Int32)) → P (mm_i M a0 11) M))) ∧ ((x1 = (11 : Int32)) → (((¬ mm_i M a0 7 = (3 : Int32)) → P (-1 : Int32) M) ∧ ((mm_i M a0 7 = (3 : Int32)) → P (mm_i M a0 12) M))) ∧ ((x1 = (12 : Int32)) → P (mm_i M a0 13) M) ∧ ((¬ x1 = (0 : Int32) ∧ ¬ x1 = (1 : Int32) ∧ ¬ x1 = (2 : Int32) ∧ ¬ x1 = (3 : Int32) ∧ ¬ x1 = (4 : Int32) ∧ ¬ x1 = (5 : Int32) ∧ ¬ x1 = (6 : Int32) ∧ ¬ x1 = (7 : Int32) ∧ ¬ x1 = (8 : Int32) ∧ ¬ x1 = (9 : Int32) ∧ ¬ x1 = (10 : Int32) ∧ ¬ x1 = (11 : Int32) ∧ ¬ x1 = (12 : Int32)) → P (-1 : Int32) M)) : cw_i mt_X6_tell 0 [some (pv_r a0), some (pv_i x1)] [] M P := by
  refine go_iload_n dX6_tell_0 rfl ?_
  by_cases hc0 : x1 = (0 : Int32)
  · replace H := H.1 hc0
    refine go_tabIn (v := (0 : Int32)) (tgt := 68) hc0 (by decide) (by decide) rfl (by decide) dX6_tell_1 ?_
    refine go_aload_n dX6_tell_68 rfl ?_
    refine go_getR (k := 2) ⟨by decide, rfl, by decide, Or.inl ⟨_, rfl⟩⟩ K0 fl_X6_24 dX6_tell_69 ?_
    obtain ⟨k1, H⟩ := H
    refine go_getI (k := 0) ⟨by decide, rfl, by decide, rfl⟩ k1 fl_X6_66 dX6_tell_72 ?_
    exact go_iret rfl rfl dX6_tell_75 ⟨_, rfl, H⟩
  replace H := H.2
  by_cases hc1 : x1 = (1 : Int32)
  · replace H := H.1 hc1
    refine go_tabIn (v := (1 : Int32)) (tgt := 76) hc1 (by decide) (by decide) rfl (by decide) dX6_tell_1 ?_
    refine go_aload_n dX6_tell_76 rfl ?_
    refine go_getI (k := 3) ⟨by decide, rfl, by decide, rfl⟩ K0 fl_X6_32 dX6_tell_77 ?_
    exact go_iret rfl rfl dX6_tell_80 ⟨_, rfl, H⟩
  replace H := H.2
  by_cases hc2 : x1 = (2 : Int32)
  · replace H := H.1 hc2
    refine go_tabIn (v := (2 : Int32)) (tgt := 81) hc2 (by decide) (by decide) rfl (by decide) dX6_tell_1 ?_
    refine go_aload_n dX6_tell_81 rfl ?_
    refine go_getI (k := 4) ⟨by decide, rfl, by decide, rfl⟩ K0 fl_X6_35 dX6_tell_82 ?_
    exact go_iret rfl rfl dX6_tell_85 ⟨_, rfl, H⟩
  replace H := H.2
  by_cases hc3 : x1 = (3 : Int32)
  · replace H := H.1 hc3
    refine go_tabIn (v := (3 : Int32)) (tgt := 86) hc3 (by decide) (by decide) rfl (by decide) dX6_tell_1 ?_
    refine go_aload_n dX6_tell_86 rfl ?_
    refine go_getI (k := 5) ⟨by decide, rfl, by decide, rfl⟩ K0 fl_X6_69 dX6_tell_87 ?_
    exact go_iret rfl rfl dX6_tell_90 ⟨_, rfl, H⟩
  replace H := H.2
  by_cases hc4 : x1 = (4 : Int32)
  · replace H := H.1 hc4
    refine go_tabIn (v := (4 : Int32)) (tgt := 91) hc4 (by decide) (by decide) rfl (by decide) dX6_tell_1 ?_
    refine go_aload_n dX6_tell_91 rfl ?_
    refine go_getR (k := 1) ⟨by decide, rfl, by decide, Or.inl ⟨_, rfl⟩⟩ K0 fl_X6_28 dX6_tell_92 ?_
    refine go_ifnonnull (tgt := 102) dX6_tell_95 (by decide) (fun hc => ?_) (fun hc => ?_)
    · replace H := H.1 hc
      refine go_aload_n dX6_tell_102 rfl ?_
      refine go_getR (k := 1) ⟨by decide, rfl, by decide, Or.inl ⟨_, rfl⟩⟩ K0 fl_X6_28 dX6_tell_103 ?_
      obtain ⟨k2, H⟩ := H
      refine go_getI (k := 0) ⟨by decide, rfl, by decide, rfl⟩ k2 fl_X6_21 dX6_tell_106 ?_
      exact go_iret rfl rfl dX6_tell_109 ⟨_, rfl, H⟩
    · replace H := H.2 hc
      refine go_iconst (v := (-1 : Int32)) rfl dX6_tell_98 ?_
      refine go_goto (tgt := 109) dX6_tell_99 (by decide) ?_
      exact go_iret rfl rfl dX6_tell_109 ⟨_, rfl, H⟩
  replace H := H.2
  by_cases hc5 : x1 = (5 : Int32)
  · replace H := H.1 hc5
    refine go_tabIn (v := (5 : Int32)) (tgt := 110) hc5 (by decide) (by decide) rfl (by decide) dX6_tell_1 ?_
    refine go_aload_n dX6_tell_110 rfl ?_
    refine go_getI (k := 6) ⟨by decide, rfl, by decide, rfl⟩ K0 fl_X6_38 dX6_tell_111 ?_
    exact go_iret rfl rfl dX6_tell_114 ⟨_, rfl, H⟩
  replace H := H.2
  by_cases hc6 : x1 = (6 : Int32)
  · replace H := H.1 hc6
    refine go_tabIn (v := (6 : Int32)) (tgt := 115) hc6 (by decide) (by decide) rfl (by decide) dX6_tell_1 ?_
    refine go_aload_n dX6_tell_115 rfl ?_
    refine go_getI (k := 7) ⟨by decide, rfl, by decide, rfl⟩ K0 fl_X6_9 dX6_tell_116 ?_
    exact go_iret rfl rfl dX6_tell_119 ⟨_, rfl, H⟩
  replace H := H.2
  by_cases hc7 : x1 = (7 : Int32)
  · replace H := H.1 hc7
    refine go_tabIn (v := (7 : Int32)) (tgt := 120) hc7 (by decide) (by decide) rfl (by decide) dX6_tell_1 ?_
    refine go_aload_n dX6_tell_120 rfl ?_
    refine go_getI (k := 8) ⟨by decide, rfl, by decide, rfl⟩ K0 fl_X6_72 dX6_tell_121 ?_
    exact go_iret rfl rfl dX6_tell_124 ⟨_, rfl, H⟩
  replace H := H.2
  by_cases hc8 : x1 = (8 : Int32)
  · replace H := H.1 hc8
    refine go_tabIn (v := (8 : Int32)) (tgt := 125) hc8 (by decide) (by decide) rfl (by decide) dX6_tell_1 ?_
    refine go_aload_n dX6_tell_125 rfl ?_
    refine go_getI (k := 7) ⟨by decide, rfl, by decide, rfl⟩ K0 fl_X6_9 dX6_tell_126 ?_
    refine go_iconst (v := (2 : Int32)) rfl dX6_tell_129 ?_
    refine go_icmp_ne (tgt := 140) dX6_tell_130 (by decide) (fun hc => ?_) (fun hc => ?_)
    · replace H := H.1 hc
      refine go_iconst (v := (-1 : Int32)) rfl dX6_tell_140 ?_
      exact go_iret rfl rfl dX6_tell_141 ⟨_, rfl, H⟩
    · replace H := H.2 hc
      refine go_aload_n dX6_tell_133 rfl ?_
      refine go_getI (k := 9) ⟨by decide, rfl, by decide, rfl⟩ K0 fl_X6_41 dX6_tell_134 ?_
      refine go_goto (tgt := 141) dX6_tell_137 (by decide) ?_
      exact go_iret rfl rfl dX6_tell_141 ⟨_, rfl, H⟩
  replace H := H.2
  by_cases hc9 : x1 = (9 : Int32)
  · replace H := H.1 hc9
    refine go_tabIn (v := (9 : Int32)) (tgt := 142) hc9 (by decide) (by decide) rfl (by decide) dX6_tell_1 ?_
    refine go_aload_n dX6_tell_142 rfl ?_
    refine go_getR (k := 10) ⟨by decide, rfl, by decide, Or.inl ⟨_, rfl⟩⟩ K0 fl_X6_47 dX6_tell_143 ?_
    refine go_ifnonnull (tgt := 153) dX6_tell_146 (by decide) (fun hc => ?_) (fun hc => ?_)
    · replace H := H.1 hc
      refine go_aload_n dX6_tell_153 rfl ?_
      refine go_getR (k := 10) ⟨by decide, rfl, by decide, Or.inl ⟨_, rfl⟩⟩ K0 fl_X6_47 dX6_tell_154 ?_
      obtain ⟨k3, H⟩ := H
      refine go_getI (k := 0) ⟨by decide, rfl, by decide, rfl⟩ k3 fl_X6_75 dX6_tell_157 ?_
      exact go_iret rfl rfl dX6_tell_160 ⟨_, rfl, H⟩
    · replace H := H.2 hc
      refine go_iconst (v := (-1 : Int32)) rfl dX6_tell_149 ?_
      refine go_goto (tgt := 160) dX6_tell_150 (by decide) ?_
      exact go_iret rfl rfl dX6_tell_160 ⟨_, rfl, H⟩
  replace H := H.2
  by_cases hc10 : x1 = (10 : Int32)
  · replace H := H.1 hc10
    refine go_tabIn (v := (10 : Int32)) (tgt := 161) hc10 (by decide) (by decide) rfl (by decide) dX6_tell_1 ?_
    refine go_aload_n dX6_tell_161 rfl ?_
    refine go_getI (k := 7) ⟨by decide, rfl, by decide, rfl⟩ K0 fl_X6_9 dX6_tell_162 ?_
    refine go_iconst (v := (3 : Int32)) rfl dX6_tell_165 ?_
    refine go_icmp_ne (tgt := 176) dX6_tell_166 (by decide) (fun hc => ?_) (fun hc => ?_)
    · replace H := H.1 hc
      refine go_iconst (v := (-1 : Int32)) rfl dX6_tell_176 ?_
      exact go_iret rfl rfl dX6_tell_177 ⟨_, rfl, H⟩
    · replace H := H.2 hc
      refine go_aload_n dX6_tell_169 rfl ?_
      refine go_getI (k := 11) ⟨by decide, rfl, by decide, rfl⟩ K0 fl_X6_51 dX6_tell_170 ?_
      refine go_goto (tgt := 177) dX6_tell_173 (by decide) ?_
      exact go_iret rfl rfl dX6_tell_177 ⟨_, rfl, H⟩
  replace H := H.2
  by_cases hc11 : x1 = (11 : Int32)
  · replace H := H.1 hc11
    refine go_tabIn (v := (11 : Int32)) (tgt := 178) hc11 (by decide) (by decide) rfl (by decide) dX6_tell_1 ?_
    refine go_aload_n dX6_tell_178 rfl ?_
    refine go_getI (k := 7) ⟨by decide, rfl, by decide, rfl⟩ K0 fl_X6_9 dX6_tell_179 ?_
    refine go_iconst (v := (3 : Int32)) rfl dX6_tell_182 ?_
    refine go_icmp_ne (tgt := 193) dX6_tell_183 (by decide) (fun hc => ?_) (fun hc => ?_)
    · replace H := H.1 hc
      refine go_iconst (v := (-1 : Int32)) rfl dX6_tell_193 ?_
      exact go_iret rfl rfl dX6_tell_194 ⟨_, rfl, H⟩
    · replace H := H.2 hc
      refine go_aload_n dX6_tell_186 rfl ?_
      refine go_getI (k := 12) ⟨by decide, rfl, by decide, rfl⟩ K0 fl_X6_44 dX6_tell_187 ?_
      refine go_goto (tgt := 194) dX6_tell_190 (by decide) ?_
      exact go_iret rfl rfl dX6_tell_194 ⟨_, rfl, H⟩
  replace H := H.2
  by_cases hc12 : x1 = (12 : Int32)
  · replace H := H.1 hc12
    refine go_tabIn (v := (12 : Int32)) (tgt := 195) hc12 (by decide) (by decide) rfl (by decide) dX6_tell_1 ?_
    refine go_aload_n dX6_tell_195 rfl ?_
    refine go_getI (k := 13) ⟨by decide, rfl, by decide, rfl⟩ K0 fl_X6_15 dX6_tell_196 ?_
    exact go_iret rfl rfl dX6_tell_199 ⟨_, rfl, H⟩
  replace H := H.2
  replace H := H ⟨hc0, hc1, hc2, hc3, hc4, hc5, hc6, hc7, hc8, hc9, hc10, hc11, hc12⟩
  have he0 : (x1).toInt ≠ 0 := fun h => hc0 (Int32.toInt_inj.mp (h.trans (by decide)))
  have he1 : (x1).toInt ≠ 1 := fun h => hc1 (Int32.toInt_inj.mp (h.trans (by decide)))
  have he2 : (x1).toInt ≠ 2 := fun h => hc2 (Int32.toInt_inj.mp (h.trans (by decide)))
  have he3 : (x1).toInt ≠ 3 := fun h => hc3 (Int32.toInt_inj.mp (h.trans (by decide)))
  have he4 : (x1).toInt ≠ 4 := fun h => hc4 (Int32.toInt_inj.mp (h.trans (by decide)))
  have he5 : (x1).toInt ≠ 5 := fun h => hc5 (Int32.toInt_inj.mp (h.trans (by decide)))
  have he6 : (x1).toInt ≠ 6 := fun h => hc6 (Int32.toInt_inj.mp (h.trans (by decide)))
  have he7 : (x1).toInt ≠ 7 := fun h => hc7 (Int32.toInt_inj.mp (h.trans (by decide)))
  have he8 : (x1).toInt ≠ 8 := fun h => hc8 (Int32.toInt_inj.mp (h.trans (by decide)))
  have he9 : (x1).toInt ≠ 9 := fun h => hc9 (Int32.toInt_inj.mp (h.trans (by decide)))
  have he10 : (x1).toInt ≠ 10 := fun h => hc10 (Int32.toInt_inj.mp (h.trans (by decide)))
  have he11 : (x1).toInt ≠ 11 := fun h => hc11 (Int32.toInt_inj.mp (h.trans (by decide)))
  have he12 : (x1).toInt ≠ 12 := fun h => hc12 (Int32.toInt_inj.mp (h.trans (by decide)))
  refine go_tabOut (tgt := 200) (by omega) (by decide) dX6_tell_1 ?_
  refine go_iconst (v := (-1 : Int32)) rfl dX6_tell_200 ?_
  exact go_iret rfl rfl dX6_tell_201 ⟨_, rfl, H⟩
set_option maxRecDepth 20000 in
theorem wc_X7_init_0 {M : mm_T} {a0 a1 : Nat} {x2 x3 x4 x5 x6 : Int32} {P : mm_T → Prop} (K0 : mm_k M a0 = (7, 8)) (H : ∀ M1, M1 = mm_pr M a0 0 a1 → ∀ M3, M3 = mm_pi M1 a0 1 x2 → ∀ M5, M5 = mm_pi M3 a0 2 x3 → ∀ M7, M7 = mm_pi M5 a0 3 x4 → ∀ M9, M9 = mm_pi M7 a0 4 x5 → ∀ M11, M11 = mm_pi M9 a0 7 x6 → P M11) : cw_v mt_X7_init 0 [some (pv_r a0), some (pv_r a1), some (pv_i x2), some (pv_i x3), some (pv_i x4), some (pv_i x5), some (pv_i x6)] [] M P := by
  refine go_aload_n dX7_init_0 rfl ?_
  refine go_objInitK (by decide) K0 (Nat.le_of_ble_eq_true rfl) ⟨by decide, by decide⟩ ml_X7_3 im_J_Object_init cd_J_Object_init dX7_init_1 ?_
  refine go_aload_n dX7_init_4 rfl ?_
  refine go_aload_n dX7_init_5 rfl ?_
  refine go_putR (k := 0) ⟨by decide, rfl, by decide, Or.inl ⟨_, rfl⟩⟩ K0 rfl (Or.inr ⟨rfl, rfl⟩) fl_X7_9 dX7_init_6 ?_
  show go_W mt_X7_init fr_C 9 [some (pv_r a0), some (pv_r a1), some (pv_i x2), some (pv_i x3), some (pv_i x4), some (pv_i x5), some (pv_i x6)] [] (mm_pr M a0 0 a1) (qv_ P)
  obtain ⟨M1, hM1⟩ : ∃ M', M' = mm_pr M a0 0 a1 := ⟨_, rfl⟩
  have k2 : mm_k M1 a0 = (7, 8) := (by rw [hM1]; exact K0)
  rw [← hM1]
  replace H := H M1 hM1
  refine go_aload_n dX7_init_9 rfl ?_
  refine go_iload_n dX7_init_10 rfl ?_
  refine go_putI (k := 1) ⟨by decide, rfl, by decide, rfl⟩ k2 rfl (Or.inr ⟨rfl, rfl⟩) fl_X7_15 dX7_init_11 ?_
  show go_W mt_X7_init fr_C 14 [some (pv_r a0), some (pv_r a1), some (pv_i x2), some (pv_i x3), some (pv_i x4), some (pv_i x5), some (pv_i x6)] [] (mm_pi M1 a0 1 x2) (qv_ P)
  obtain ⟨M3, hM3⟩ : ∃ M', M' = mm_pi M1 a0 1 x2 := ⟨_, rfl⟩
  have k4 : mm_k M3 a0 = (7, 8) := (by rw [hM3]; exact k2)
  rw [← hM3]
  replace H := H M3 hM3
  refine go_aload_n dX7_init_14 rfl ?_
  refine go_iload_n dX7_init_15 rfl ?_
  refine go_putI (k := 2) ⟨by decide, rfl, by decide, rfl⟩ k4 rfl (Or.inr ⟨rfl, rfl⟩) fl_X7_19 dX7_init_16 ?_
  show go_W mt_X7_init fr_C 19 [some (pv_r a0), some (pv_r a1), some (pv_i x2), some (pv_i x3), some (pv_i x4), some (pv_i x5), some (pv_i x6)] [] (mm_pi M3 a0 2 x3) (qv_ P)
  obtain ⟨M5, hM5⟩ : ∃ M', M' = mm_pi M3 a0 2 x3 := ⟨_, rfl⟩
  have k6 : mm_k M5 a0 = (7, 8) := (by rw [hM5]; exact k4)
  rw [← hM5]
  replace H := H M5 hM5
  refine go_aload_n dX7_init_19 rfl ?_
  refine go_iload dX7_init_20 rfl ?_
  refine go_putI (k := 3) ⟨by decide, rfl, by decide, rfl⟩ k6 rfl (Or.inr ⟨rfl, rfl⟩) fl_X7_22 dX7_init_22 ?_
  show go_W mt_X7_init fr_C 25 [some (pv_r a0), some (pv_r a1), some (pv_i x2), some (pv_i x3), some (pv_i x4), some (pv_i x5), some (pv_i x6)] [] (mm_pi M5 a0 3 x4) (qv_ P)
  obtain ⟨M7, hM7⟩ : ∃ M', M' = mm_pi M5 a0 3 x4 := ⟨_, rfl⟩
  have k8 : mm_k M7 a0 = (7, 8) := (by rw [hM7]; exact k6)
  rw [← hM7]
  replace H := H M7 hM7
  refine go_aload_n dX7_init_25 rfl ?_
  refine go_iload dX7_init_26 rfl ?_
  refine go_putI (k := 4) ⟨by decide, rfl, by decide, rfl⟩ k8 rfl (Or.inr ⟨rfl, rfl⟩) fl_X7_25 dX7_init_28 ?_
  show go_W mt_X7_init fr_C 31 [some (pv_r a0), some (pv_r a1), some (pv_i x2), some (pv_i x3), some (pv_i x4), some (pv_i x5), some (pv_i x6)] [] (mm_pi M7 a0 4 x5) (qv_ P)
  obtain ⟨M9, hM9⟩ : ∃ M', M' = mm_pi M7 a0 4 x5 := ⟨_, rfl⟩
  have k10 : mm_k M9 a0 = (7, 8) := (by rw [hM9]; exact k8)
  rw [← hM9]
  replace H := H M9 hM9
  refine go_aload_n dX7_init_31 rfl ?_
  refine go_iload dX7_init_32 rfl ?_
  refine go_putI (k := 7) ⟨by decide, rfl, by decide, rfl⟩ k10 rfl (Or.inr ⟨rfl, rfl⟩) fl_X7_28 dX7_init_34 ?_
  show go_W mt_X7_init fr_C 37 [some (pv_r a0), some (pv_r a1), some (pv_i x2), some (pv_i x3), some (pv_i x4), some (pv_i x5), some (pv_i x6)] [] (mm_pi M9 a0 7 x6) (qv_ P)
  obtain ⟨M11, hM11⟩ : ∃ M', M' = mm_pi M9 a0 7 x6 := ⟨_, rfl⟩
  have k12 : mm_k M11 a0 = (7, 8) := (by rw [hM11]; exact k10)
  rw [← hM11]
  replace H := H M11 hM11
  exact go_vret rfl dX7_init_37 ⟨rfl, H⟩
set_option maxRecDepth 20000 in
theorem wc_X7_ring_0 {M : mm_T} {a0 : Nat} {x1 : Int32} {P : mm_T → Prop} (K0 : mm_k M a0 = (7, 8)) (H : ∀ M1, M1 = mm_pi M a0 7 (mm_i M a0 7 + mm_i M a0 4) → (((x1 = 0) → ∀ M3, M3 = mm_pi M1 a0 6 (mm_i M1 a0 6 + (1 : Int32)) → P M3) ∧ ((¬ x1 = 0) → ∀ M5, M5 = mm_pi M1 a0 5 (mm_i M1 a0 5 + (1 : Int32)) → P M5))) : cw_v mt_X7_ring 0 [some (pv_r a0), some (pv_i x1)] [] M P := by
  refine go_aload_n dX7_ring_0 rfl ?_
  refine go_dup pv_1r dX7_ring_1 ?_
  refine go_getI (k := 7) ⟨by decide, rfl, by decide, rfl⟩ K0 fl_X7_28 dX7_ring_2 ?_
  refine go_aload_n dX7_ring_5 rfl ?_
  refine go_getI (k := 4) ⟨by decide, rfl, by decide, rfl⟩ K0 fl_X7_25 dX7_ring_6 ?_
  refine go_iadd dX7_ring_9 ?_
  refine go_putI (k := 7) ⟨by decide, rfl, by decide, rfl⟩ K0 rfl (Or.inl rfl) fl_X7_28 dX7_ring_10 ?_
  show go_W mt_X7_ring fr_C 13 [some (pv_r a0), some (pv_i x1)] [] (mm_pi M a0 7 (mm_i M a0 7 + mm_i M a0 4)) (qv_ P)
  obtain ⟨M1, hM1⟩ : ∃ M', M' = mm_pi M a0 7 (mm_i M a0 7 + mm_i M a0 4) := ⟨_, rfl⟩
  have k2 : mm_k M1 a0 = (7, 8) := (by rw [hM1]; exact K0)
  rw [← hM1]
  replace H := H M1 hM1
  refine go_iload_n dX7_ring_13 rfl ?_
  refine go_if_eq (tgt := 30) dX7_ring_14 (by decide) (fun hc => ?_) (fun hc => ?_)
  · replace H := H.1 hc
    refine go_aload_n dX7_ring_30 rfl ?_
    refine go_dup pv_1r dX7_ring_31 ?_
    refine go_getI (k := 6) ⟨by decide, rfl, by decide, rfl⟩ k2 fl_X7_34 dX7_ring_32 ?_
    refine go_iconst (v := (1 : Int32)) rfl dX7_ring_35 ?_
    refine go_iadd dX7_ring_36 ?_
    refine go_putI (k := 6) ⟨by decide, rfl, by decide, rfl⟩ k2 rfl (Or.inl rfl) fl_X7_34 dX7_ring_37 ?_
    show go_W mt_X7_ring fr_C 40 [some (pv_r a0), some (pv_i x1)] [] (mm_pi M1 a0 6 (mm_i M1 a0 6 + (1 : Int32))) (qv_ P)
    obtain ⟨M3, hM3⟩ : ∃ M', M' = mm_pi M1 a0 6 (mm_i M1 a0 6 + (1 : Int32)) := ⟨_, rfl⟩
    have k4 : mm_k M3 a0 = (7, 8) := (by rw [hM3]; exact k2)
    rw [← hM3]
    replace H := H M3 hM3
    exact go_vret rfl dX7_ring_40 ⟨rfl, H⟩
  · replace H := H.2 hc
    refine go_aload_n dX7_ring_17 rfl ?_
    refine go_dup pv_1r dX7_ring_18 ?_
    refine go_getI (k := 5) ⟨by decide, rfl, by decide, rfl⟩ k2 fl_X7_31 dX7_ring_19 ?_
    refine go_iconst (v := (1 : Int32)) rfl dX7_ring_22 ?_
    refine go_iadd dX7_ring_23 ?_
    refine go_putI (k := 5) ⟨by decide, rfl, by decide, rfl⟩ k2 rfl (Or.inl rfl) fl_X7_31 dX7_ring_24 ?_
    show go_W mt_X7_ring fr_C 27 [some (pv_r a0), some (pv_i x1)] [] (mm_pi M1 a0 5 (mm_i M1 a0 5 + (1 : Int32))) (qv_ P)
    obtain ⟨M5, hM5⟩ : ∃ M', M' = mm_pi M1 a0 5 (mm_i M1 a0 5 + (1 : Int32)) := ⟨_, rfl⟩
    have k6 : mm_k M5 a0 = (7, 8) := (by rw [hM5]; exact k2)
    rw [← hM5]
    replace H := H M5 hM5
    refine go_goto (tgt := 40) dX7_ring_27 (by decide) ?_
    exact go_vret rfl dX7_ring_40 ⟨rfl, H⟩
set_option maxRecDepth 20000 in
theorem wc_X7_tell_0 {M : mm_T} {a0 : Nat} {x1 : Int32} {P : Int32 → mm_T → Prop} (K0 : mm_k M a0 = (7, 8)) (H : ((x1 = (0 : Int32)) → mm_k M (mm_r M a0 0) = (3, 14) ∧ (P (mm_i M (mm_r M a0 0) 0) M)) ∧ ((x1 = (1 : Int32)) → P (mm_i M a0 1) M) ∧ ((x1 = (2 : Int32)) → P (mm_i M a0 2) M) ∧ ((x1 = (3 : Int32)) → P (mm_i M a0 3) M) ∧ ((x1 = (4 : Int32)) → P (mm_i M a0 4) M) ∧ ((x1 = (5 : Int32)) → P (mm_i M a0 5) M) ∧ ((x1 = (6 : Int32)) → P (mm_i M a0 6) M) ∧ ((x1 = (7 : Int32)) → P (mm_i M a0 7) M) ∧ ((¬ x1 = (0 : Int32) ∧ ¬ x1 = (1 : Int32) ∧ ¬ x1 = (2 : Int32) ∧ ¬ x1 = (3 : Int32) ∧ ¬ x1 = (4 : Int32) ∧ ¬ x1 = (5 : Int32) ∧ ¬ x1 = (6 : Int32) ∧ ¬ x1 = (7 : Int32)) → P (-1 : Int32) M)) : cw_i mt_X7_tell 0 [some (pv_r a0), some (pv_i x1)] [] M P := by
  refine go_iload_n dX7_tell_0 rfl ?_
  by_cases hc0 : x1 = (0 : Int32)
  · replace H := H.1 hc0
    refine go_tabIn (v := (0 : Int32)) (tgt := 48) hc0 (by decide) (by decide) rfl (by decide) dX7_tell_1 ?_
    refine go_aload_n dX7_tell_48 rfl ?_
    refine go_getR (k := 0) ⟨by decide, rfl, by decide, Or.inl ⟨_, rfl⟩⟩ K0 fl_X7_9 dX7_tell_49 ?_
    obtain ⟨k1, H⟩ := H
    refine go_getI (k := 0) ⟨by decide, rfl, by decide, rfl⟩ k1 fl_X7_37 dX7_tell_52 ?_
    exact go_iret rfl rfl dX7_tell_55 ⟨_, rfl, H⟩
  replace H := H.2
  by_cases hc1 : x1 = (1 : Int32)
  · replace H := H.1 hc1
    refine go_tabIn (v := (1 : Int32)) (tgt := 56) hc1 (by decide) (by decide) rfl (by decide) dX7_tell_1 ?_
    refine go_aload_n dX7_tell_56 rfl ?_
    refine go_getI (k := 1) ⟨by decide, rfl, by decide, rfl⟩ K0 fl_X7_15 dX7_tell_57 ?_
    exact go_iret rfl rfl dX7_tell_60 ⟨_, rfl, H⟩
  replace H := H.2
  by_cases hc2 : x1 = (2 : Int32)
  · replace H := H.1 hc2
    refine go_tabIn (v := (2 : Int32)) (tgt := 61) hc2 (by decide) (by decide) rfl (by decide) dX7_tell_1 ?_
    refine go_aload_n dX7_tell_61 rfl ?_
    refine go_getI (k := 2) ⟨by decide, rfl, by decide, rfl⟩ K0 fl_X7_19 dX7_tell_62 ?_
    exact go_iret rfl rfl dX7_tell_65 ⟨_, rfl, H⟩
  replace H := H.2
  by_cases hc3 : x1 = (3 : Int32)
  · replace H := H.1 hc3
    refine go_tabIn (v := (3 : Int32)) (tgt := 66) hc3 (by decide) (by decide) rfl (by decide) dX7_tell_1 ?_
    refine go_aload_n dX7_tell_66 rfl ?_
    refine go_getI (k := 3) ⟨by decide, rfl, by decide, rfl⟩ K0 fl_X7_22 dX7_tell_67 ?_
    exact go_iret rfl rfl dX7_tell_70 ⟨_, rfl, H⟩
  replace H := H.2
  by_cases hc4 : x1 = (4 : Int32)
  · replace H := H.1 hc4
    refine go_tabIn (v := (4 : Int32)) (tgt := 71) hc4 (by decide) (by decide) rfl (by decide) dX7_tell_1 ?_
    refine go_aload_n dX7_tell_71 rfl ?_
    refine go_getI (k := 4) ⟨by decide, rfl, by decide, rfl⟩ K0 fl_X7_25 dX7_tell_72 ?_
    exact go_iret rfl rfl dX7_tell_75 ⟨_, rfl, H⟩
  replace H := H.2
  by_cases hc5 : x1 = (5 : Int32)
  · replace H := H.1 hc5
    refine go_tabIn (v := (5 : Int32)) (tgt := 76) hc5 (by decide) (by decide) rfl (by decide) dX7_tell_1 ?_
    refine go_aload_n dX7_tell_76 rfl ?_
    refine go_getI (k := 5) ⟨by decide, rfl, by decide, rfl⟩ K0 fl_X7_31 dX7_tell_77 ?_
    exact go_iret rfl rfl dX7_tell_80 ⟨_, rfl, H⟩
  replace H := H.2
  by_cases hc6 : x1 = (6 : Int32)
  · replace H := H.1 hc6
    refine go_tabIn (v := (6 : Int32)) (tgt := 81) hc6 (by decide) (by decide) rfl (by decide) dX7_tell_1 ?_
    refine go_aload_n dX7_tell_81 rfl ?_
    refine go_getI (k := 6) ⟨by decide, rfl, by decide, rfl⟩ K0 fl_X7_34 dX7_tell_82 ?_
    exact go_iret rfl rfl dX7_tell_85 ⟨_, rfl, H⟩
  replace H := H.2
  by_cases hc7 : x1 = (7 : Int32)
  · replace H := H.1 hc7
    refine go_tabIn (v := (7 : Int32)) (tgt := 86) hc7 (by decide) (by decide) rfl (by decide) dX7_tell_1 ?_
    refine go_aload_n dX7_tell_86 rfl ?_
    refine go_getI (k := 7) ⟨by decide, rfl, by decide, rfl⟩ K0 fl_X7_28 dX7_tell_87 ?_
    exact go_iret rfl rfl dX7_tell_90 ⟨_, rfl, H⟩
  replace H := H.2
  replace H := H ⟨hc0, hc1, hc2, hc3, hc4, hc5, hc6, hc7⟩
  have he0 : (x1).toInt ≠ 0 := fun h => hc0 (Int32.toInt_inj.mp (h.trans (by decide)))
  have he1 : (x1).toInt ≠ 1 := fun h => hc1 (Int32.toInt_inj.mp (h.trans (by decide)))
  have he2 : (x1).toInt ≠ 2 := fun h => hc2 (Int32.toInt_inj.mp (h.trans (by decide)))
  have he3 : (x1).toInt ≠ 3 := fun h => hc3 (Int32.toInt_inj.mp (h.trans (by decide)))
  have he4 : (x1).toInt ≠ 4 := fun h => hc4 (Int32.toInt_inj.mp (h.trans (by decide)))
  have he5 : (x1).toInt ≠ 5 := fun h => hc5 (Int32.toInt_inj.mp (h.trans (by decide)))
  have he6 : (x1).toInt ≠ 6 := fun h => hc6 (Int32.toInt_inj.mp (h.trans (by decide)))
  have he7 : (x1).toInt ≠ 7 := fun h => hc7 (Int32.toInt_inj.mp (h.trans (by decide)))
  refine go_tabOut (tgt := 91) (by omega) (by decide) dX7_tell_1 ?_
  refine go_iconst (v := (-1 : Int32)) rfl dX7_tell_91 ?_
  exact go_iret rfl rfl dX7_tell_92 ⟨_, rfl, H⟩
set_option maxRecDepth 20000 in
theorem wc_X8_init_0 {M : mm_T} {a0 : Nat} {P : mm_T → Prop} (K0 : mm_k M a0 = (8, 8)) (H : (mm_n M + 1 ≤ nb_ ∧ mm_t M (mm_n M) + 4 ≤ sb_) ∧ (∀ M1, M1 = mm_w M 0 4 → cs_v mt_X0_init [pv_r (mm_n M)] M1 (fun M4 => ∀ M7, M7 = mm_pr M4 a0 0 (mm_n M) → (mm_n M7 + 1 ≤ nb_ ∧ mm_t M7 (mm_n M7) + 48 ≤ sb_) ∧ (∀ M10, M10 = mm_w M7 88 48 → ∀ M14, M14 = mm_pr M10 a0 1 (mm_n M7) → (mm_n M14 + 1 ≤ nb_ ∧ mm_t M14 (mm_n M14) + 5 ≤ sb_) ∧ (∀ M18, M18 = mm_w M14 28 5 → ∀ M23, M23 = mm_pr M18 a0 2 (mm_n M14) → cw_v mt_X8_init 33 [some (pv_r a0), some (pv_i (0 : Int32))] [] M23 P))))) : cw_v mt_X8_init 0 [some (pv_r a0), none] [] M P := by
  refine go_aload_n dX8_init_0 rfl ?_
  refine go_objInitK (by decide) K0 (Nat.le_of_ble_eq_true rfl) ⟨by decide, by decide⟩ ml_X8_3 im_J_Object_init cd_J_Object_init dX8_init_1 ?_
  refine go_aload_n dX8_init_4 rfl ?_
  obtain ⟨hr, H⟩ := H
  refine go_new (ci := 0) (N := 4) (by decide) rfl kl_X8_9 nw_X0 ni_X0 hr.1 hr.2 dX8_init_5 ?_
  show go_W mt_X8_init fr_C 8 [some (pv_r a0), none] [pv_r (mm_n M), pv_r a0] (mm_w M 0 4) (qv_ P)
  obtain ⟨M1, hM1⟩ : ∃ M', M' = mm_w M 0 4 := ⟨_, rfl⟩
  have k2 : mm_k M1 a0 = (8, 8) := (by rw [hM1]; exact ks_S K0 (by decide) (mm_S_w (fr := fr_C)))
  have k3 : mm_k M1 (mm_n M) = (0, 4) := by rw [hM1]; exact mm_k_w
  rw [← hM1]
  replace H := H M1 hM1
  refine go_dup pv_1r dX8_init_8 ?_
  refine go_InK (av := []) (st := [pv_r (mm_n M), pv_r a0]) (by decide) k3 ok_X0_init ⟨by decide, by decide⟩ ml_X8_11 rfl (by decide) (fun v hv => absurd hv List.not_mem_nil) (Nat.le_of_ble_eq_true rfl) (fun _ h => h) dX8_init_9 H (fun r M4 hq hS => ?_)
  obtain ⟨rfl, H⟩ := hq
  have k5 : mm_k M4 a0 = (8, 8) := ks_S k2 (by decide) hS
  have k6 : mm_k M4 (mm_n M) = (0, 4) := ks_S k3 (by decide) hS
  show go_W mt_X8_init fr_C 12 [some (pv_r a0), none] [pv_r (mm_n M), pv_r a0] M4 (qv_ P)
  refine go_putR (k := 0) ⟨by decide, rfl, by decide, Or.inl ⟨_, rfl⟩⟩ k5 rfl (Or.inr ⟨rfl, rfl⟩) fl_X8_12 dX8_init_12 ?_
  show go_W mt_X8_init fr_C 15 [some (pv_r a0), none] [] (mm_pr M4 a0 0 (mm_n M)) (qv_ P)
  obtain ⟨M7, hM7⟩ : ∃ M', M' = mm_pr M4 a0 0 (mm_n M) := ⟨_, rfl⟩
  have k8 : mm_k M7 a0 = (8, 8) := (by rw [hM7]; exact k5)
  have k9 : mm_k M7 (mm_n M) = (0, 4) := (by rw [hM7]; exact k6)
  rw [← hM7]
  replace H := H M7 hM7
  refine go_aload_n dX8_init_15 rfl ?_
  refine go_bipush (v := (48 : Int32)) rfl dX8_init_16 ?_
  obtain ⟨hr, H⟩ := H
  refine go_anewA 88 3 ⟨by decide, by decide⟩ (by decide) (by decide) rfl (by decide) kl_X8_18 hr.1 hr.2 dX8_init_18 ?_
  show go_W mt_X8_init fr_C 21 [some (pv_r a0), none] [pv_r (mm_n M7), pv_r a0] (mm_w M7 88 48) (qv_ P)
  obtain ⟨M10, hM10⟩ : ∃ M', M' = mm_w M7 88 48 := ⟨_, rfl⟩
  have k11 : mm_k M10 a0 = (8, 8) := (by rw [hM10]; exact ks_S k8 (by decide) (mm_S_w (fr := fr_C)))
  have k12 : mm_k M10 (mm_n M) = (0, 4) := (by rw [hM10]; exact ks_S k9 (by decide) (mm_S_w (fr := fr_C)))
  have k13 : ak_ M10 (mm_n M7) 3 48 := by rw [hM10]; exact ⟨_, mm_k_w, by decide, by decide, by omega, rfl⟩
  rw [← hM10]
  replace H := H M10 hM10
  refine go_putR (k := 1) ⟨by decide, rfl, by decide, Or.inr ⟨_, rfl⟩⟩ k11 rfl (Or.inr ⟨rfl, rfl⟩) fl_X8_20 dX8_init_21 ?_
  show go_W mt_X8_init fr_C 24 [some (pv_r a0), none] [] (mm_pr M10 a0 1 (mm_n M7)) (qv_ P)
  obtain ⟨M14, hM14⟩ : ∃ M', M' = mm_pr M10 a0 1 (mm_n M7) := ⟨_, rfl⟩
  have k15 : mm_k M14 a0 = (8, 8) := (by rw [hM14]; exact k11)
  have k16 : mm_k M14 (mm_n M) = (0, 4) := (by rw [hM14]; exact k12)
  have k17 : ak_ M14 (mm_n M7) 3 48 := (by rw [hM14]; exact k13)
  rw [← hM14]
  replace H := H M14 hM14
  refine go_aload_n dX8_init_24 rfl ?_
  refine go_iconst (v := (5 : Int32)) rfl dX8_init_25 ?_
  obtain ⟨hr, H⟩ := H
  refine go_newIA 28 ⟨by decide, by decide⟩ rfl (by decide) ac_int hr.1 hr.2 dX8_init_26 ?_
  show go_W mt_X8_init fr_C 28 [some (pv_r a0), none] [pv_r (mm_n M14), pv_r a0] (mm_w M14 28 5) (qv_ P)
  obtain ⟨M18, hM18⟩ : ∃ M', M' = mm_w M14 28 5 := ⟨_, rfl⟩
  have k19 : mm_k M18 a0 = (8, 8) := (by rw [hM18]; exact ks_S k15 (by decide) (mm_S_w (fr := fr_C)))
  have k20 : mm_k M18 (mm_n M) = (0, 4) := (by rw [hM18]; exact ks_S k16 (by decide) (mm_S_w (fr := fr_C)))
  have k21 : ak_ M18 (mm_n M7) 3 48 := (by rw [hM18]; exact ak_S k17 (mm_S_w (fr := fr_C)))
  have k22 : ak_ M18 (mm_n M14) 0 5 := by rw [hM18]; exact ⟨_, mm_k_w, by decide, by decide, by omega, rfl⟩
  rw [← hM18]
  replace H := H M18 hM18
  refine go_putR (k := 2) ⟨by decide, rfl, by decide, Or.inr ⟨_, rfl⟩⟩ k19 rfl (Or.inr ⟨rfl, rfl⟩) fl_X8_24 dX8_init_28 ?_
  show go_W mt_X8_init fr_C 31 [some (pv_r a0), none] [] (mm_pr M18 a0 2 (mm_n M14)) (qv_ P)
  obtain ⟨M23, hM23⟩ : ∃ M', M' = mm_pr M18 a0 2 (mm_n M14) := ⟨_, rfl⟩
  have k24 : mm_k M23 a0 = (8, 8) := (by rw [hM23]; exact k19)
  have k25 : mm_k M23 (mm_n M) = (0, 4) := (by rw [hM23]; exact k20)
  have k26 : ak_ M23 (mm_n M7) 3 48 := (by rw [hM23]; exact k21)
  have k27 : ak_ M23 (mm_n M14) 0 5 := (by rw [hM23]; exact k22)
  rw [← hM23]
  replace H := H M23 hM23
  refine go_iconst (v := (0 : Int32)) rfl dX8_init_31 ?_
  refine go_istore_n (by decide) dX8_init_32 ?_
  show go_W mt_X8_init fr_C 33 [some (pv_r a0), some (pv_i (0 : Int32))] [] M23 (qv_ P)
  exact H
set_option maxRecDepth 20000 in
theorem wc_X8_init_33 {M : mm_T} {a0 : Nat} {x1 : Int32} {P : mm_T → Prop} (K0 : mm_k M a0 = (8, 8)) (H : ((((48 : Int32) ≤ x1) → P M) ∧ ((¬ (48 : Int32) ≤ x1) → (mm_n M + 1 ≤ nb_ ∧ mm_t M (mm_n M) + 17 ≤ sb_) ∧ (∀ M1, M1 = mm_w M 6 17 → cs_v mt_X6_init [pv_r (mm_n M), pv_i (-1 : Int32), pv_r 0, pv_r 0] M1 (fun M4 => ∃ l7, ak_ M4 (mm_r M a0 1) 3 l7 ∧ (∃ n10, (x1 = nI n10 ∧ n10 < l7) ∧ (∀ M11, M11 = mm_pr M4 (mm_r M a0 1) n10 (mm_n M) → cw_v mt_X8_init 33 [some (pv_r a0), some (pv_i (nI (n10 + 1)))] [] M11 P))))))) : cw_v mt_X8_init 33 [some (pv_r a0), some (pv_i x1)] [] M P := by
  refine go_iload_n dX8_init_33 rfl ?_
  refine go_bipush (v := (48 : Int32)) rfl dX8_init_34 ?_
  refine go_icmp_ge (tgt := 61) dX8_init_36 (by decide) (fun hc => ?_) (fun hc => ?_)
  · replace H := H.1 hc
    exact go_vret rfl dX8_init_61 ⟨rfl, H⟩
  · replace H := H.2 hc
    refine go_aload_n dX8_init_39 rfl ?_
    refine go_getR (k := 1) ⟨by decide, rfl, by decide, Or.inr ⟨_, rfl⟩⟩ K0 fl_X8_20 dX8_init_40 ?_
    refine go_iload_n dX8_init_43 rfl ?_
    obtain ⟨hr, H⟩ := H
    refine go_new (ci := 6) (N := 17) (by decide) rfl kl_X8_18 nw_X6 ni_X6 hr.1 hr.2 dX8_init_44 ?_
    show go_W mt_X8_init fr_C 47 [some (pv_r a0), some (pv_i x1)] [pv_r (mm_n M), pv_i x1, pv_r (mm_r M a0 1)] (mm_w M 6 17) (qv_ P)
    obtain ⟨M1, hM1⟩ : ∃ M', M' = mm_w M 6 17 := ⟨_, rfl⟩
    have k2 : mm_k M1 a0 = (8, 8) := (by rw [hM1]; exact ks_S K0 (by decide) (mm_S_w (fr := fr_C)))
    have k3 : mm_k M1 (mm_n M) = (6, 17) := by rw [hM1]; exact mm_k_w
    rw [← hM1]
    replace H := H M1 hM1
    refine go_dup pv_1r dX8_init_47 ?_
    refine go_iconst (v := (-1 : Int32)) rfl dX8_init_48 ?_
    refine go_null dX8_init_49 ?_
    refine go_null dX8_init_50 ?_
    refine go_InK (av := [pv_i (-1 : Int32), pv_r 0, pv_r 0]) (st := [pv_r (mm_n M), pv_i x1, pv_r (mm_r M a0 1)]) (by decide) k3 ok_X6_init ⟨by decide, by decide⟩ ml_X8_28 rfl (by decide) (fun v hv => by simp only [List.mem_cons, List.not_mem_nil, or_false] at hv; rcases hv with rfl | rfl | rfl <;> first | exact pv_1i | exact pv_1r) (Nat.le_of_ble_eq_true rfl) (fun _ h => h) dX8_init_51 H (fun r M4 hq hS => ?_)
    obtain ⟨rfl, H⟩ := hq
    have k5 : mm_k M4 a0 = (8, 8) := ks_S k2 (by decide) hS
    have k6 : mm_k M4 (mm_n M) = (6, 17) := ks_S k3 (by decide) hS
    show go_W mt_X8_init fr_C 54 [some (pv_r a0), some (pv_i x1)] [pv_r (mm_n M), pv_i x1, pv_r (mm_r M a0 1)] M4 (qv_ P)
    obtain ⟨l7, k8, H⟩ := H
    obtain ⟨n10, ⟨hn10, hn10b⟩, H⟩ := H
    refine go_aastA (j := n10) k8 (by decide) (Or.inr k6) hn10 hn10b dX8_init_54 ?_
    show go_W mt_X8_init fr_C 55 [some (pv_r a0), some (pv_i x1)] [] (mm_pr M4 (mm_r M a0 1) n10 (mm_n M)) (qv_ P)
    obtain ⟨M11, hM11⟩ : ∃ M', M' = mm_pr M4 (mm_r M a0 1) n10 (mm_n M) := ⟨_, rfl⟩
    have k12 : mm_k M11 a0 = (8, 8) := (by rw [hM11]; exact k5)
    have k13 : mm_k M11 (mm_n M) = (6, 17) := (by rw [hM11]; exact k6)
    have k14 : ak_ M11 (mm_r M a0 1) 3 l7 := (by rw [hM11]; exact k8)
    rw [← hM11]
    replace H := H M11 hM11
    refine go_iincN (n := n10) (k := 1) hn10 (by decide) rfl rfl dX8_init_55 ?_
    show go_W mt_X8_init fr_C 58 [some (pv_r a0), some (pv_i (nI (n10 + 1)))] [] M11 (qv_ P)
    refine go_goto (tgt := 33) dX8_init_58 (by decide) ?_
    exact H
set_option maxRecDepth 20000 in
theorem wc_X8_takenAt_0 {M : mm_T} {a0 a1 : Nat} {x2 : Int32} {P : Int32 → mm_T → Prop} (K0 : mm_k M a0 = (8, 8)) (H : cs_v mt_X8_load [pv_r a0, pv_r a1] M (fun M1 => cw_i mt_X8_takenAt 7 [some (pv_r a0), some (pv_r a1), some (pv_i x2), some (pv_i (0 : Int32)), none] [] M1 P)) : cw_i mt_X8_takenAt 0 [some (pv_r a0), some (pv_r a1), some (pv_i x2), none, none] [] M P := by
  refine go_aload_n dX8_takenAt_0 rfl ?_
  refine go_aload_n dX8_takenAt_1 rfl ?_
  refine go_V (av := [pv_r a1]) (st := []) (ci := 8) ok_X8_load ⟨by decide, by decide⟩ ml_X8_87 rfl (by decide) (fun v hv => by simp only [List.mem_cons, List.not_mem_nil, or_false] at hv; rcases hv with rfl <;> first | exact pv_1i | exact pv_1r) (Nat.le_of_ble_eq_true rfl) (fun _ h => h) (by decide) rfl K0 dX8_takenAt_2 H (fun r M1 hq hS => ?_)
  obtain ⟨rfl, H⟩ := hq
  have k2 : mm_k M1 a0 = (8, 8) := ks_S K0 (by decide) hS
  show go_W mt_X8_takenAt fr_C 5 [some (pv_r a0), some (pv_r a1), some (pv_i x2), none, none] [] M1 (qi_ P)
  refine go_iconst (v := (0 : Int32)) rfl dX8_takenAt_5 ?_
  refine go_istore_n (by decide) dX8_takenAt_6 ?_
  show go_W mt_X8_takenAt fr_C 7 [some (pv_r a0), some (pv_r a1), some (pv_i x2), some (pv_i (0 : Int32)), none] [] M1 (qi_ P)
  exact H
set_option maxRecDepth 20000 in
theorem wc_X8_takenAt_7 {M : mm_T} {a0 a1 : Nat} {x2 x3 : Int32} {P : Int32 → mm_T → Prop} (K0 : mm_k M a0 = (8, 8)) (H : ((((48 : Int32) ≤ x3) → P (-1 : Int32) M) ∧ ((¬ (48 : Int32) ≤ x3) → mm_k M (mm_r M a0 0) = (0, 4) ∧ (cs_r mt_X0_serve [pv_r (mm_r M a0 0), pv_i (0 : Int32)] M (fun v3 M2 => (((¬ v3 = 0) → (((¬ x3 = x2) → cw_i mt_X8_takenAt 7 [some (pv_r a0), some (pv_r a1), some (pv_i x2), some (pv_i (x3 + (1 : Int32))), none] [] M2 P) ∧ ((x3 = x2) → mm_k M2 v3 = (6, 17) ∧ (P (mm_i M2 v3 0) M2)))) ∧ ((v3 = 0) → P (-1 : Int32) M2))))))) : cw_i mt_X8_takenAt 7 [some (pv_r a0), some (pv_r a1), some (pv_i x2), some (pv_i x3), none] [] M P := by
  refine go_iload_n dX8_takenAt_7 rfl ?_
  refine go_bipush (v := (48 : Int32)) rfl dX8_takenAt_8 ?_
  refine go_icmp_ge (tgt := 47) dX8_takenAt_10 (by decide) (fun hc => ?_) (fun hc => ?_)
  · replace H := H.1 hc
    refine go_iconst (v := (-1 : Int32)) rfl dX8_takenAt_47 ?_
    exact go_iret rfl rfl dX8_takenAt_48 ⟨_, rfl, H⟩
  · replace H := H.2 hc
    refine go_aload_n dX8_takenAt_13 rfl ?_
    refine go_getR (k := 0) ⟨by decide, rfl, by decide, Or.inl ⟨_, rfl⟩⟩ K0 fl_X8_12 dX8_takenAt_14 ?_
    refine go_iconst (v := (0 : Int32)) rfl dX8_takenAt_17 ?_
    obtain ⟨k1, H⟩ := H
    refine go_V (av := [pv_i (0 : Int32)]) (st := []) (ci := 0) ok_X0_serve ⟨by decide, by decide⟩ ml_X8_91 rfl (by decide) (fun v hv => by simp only [List.mem_cons, List.not_mem_nil, or_false] at hv; rcases hv with rfl <;> first | exact pv_1i | exact pv_1r) (Nat.le_of_ble_eq_true rfl) (fun _ h => h) (by decide) rfl k1 dX8_takenAt_18 H (fun r M2 hq hS => ?_)
    obtain ⟨v3, rfl, H⟩ := hq
    have k4 : mm_k M2 a0 = (8, 8) := ks_S K0 (by decide) hS
    have k5 : mm_k M2 (mm_r M a0 0) = (0, 4) := ks_S k1 (by decide) hS
    show go_W mt_X8_takenAt fr_C 21 [some (pv_r a0), some (pv_r a1), some (pv_i x2), some (pv_i x3), none] [pv_r v3] M2 (qi_ P)
    refine go_astore (by decide) dX8_takenAt_21 ?_
    show go_W mt_X8_takenAt fr_C 23 [some (pv_r a0), some (pv_r a1), some (pv_i x2), some (pv_i x3), some (pv_r v3)] [] M2 (qi_ P)
    refine go_aload dX8_takenAt_23 rfl ?_
    refine go_ifnonnull (tgt := 30) dX8_takenAt_25 (by decide) (fun hc => ?_) (fun hc => ?_)
    · replace H := H.1 hc
      refine go_iload_n dX8_takenAt_30 rfl ?_
      refine go_iload_n dX8_takenAt_31 rfl ?_
      refine go_icmp_ne (tgt := 41) dX8_takenAt_32 (by decide) (fun hc => ?_) (fun hc => ?_)
      · replace H := H.1 hc
        refine go_iinc (v := (1 : Int32)) (by decide) rfl rfl dX8_takenAt_41 ?_
        show go_W mt_X8_takenAt fr_C 44 [some (pv_r a0), some (pv_r a1), some (pv_i x2), some (pv_i (x3 + (1 : Int32))), some (pv_r v3)] [] M2 (qi_ P)
        refine go_goto (tgt := 7) dX8_takenAt_44 (by decide) ?_
        exact go_fg (ls' := [some (pv_r a0), some (pv_r a1), some (pv_i x2), some (pv_i (x3 + (1 : Int32))), none]) ⟨rfl, ⟨rfl, ⟨rfl, ⟨rfl, trivial⟩⟩⟩⟩ H
      · replace H := H.2 hc
        refine go_aload dX8_takenAt_35 rfl ?_
        obtain ⟨k6, H⟩ := H
        refine go_getI (k := 0) ⟨by decide, rfl, by decide, rfl⟩ k6 fl_X8_95 dX8_takenAt_37 ?_
        exact go_iret rfl rfl dX8_takenAt_40 ⟨_, rfl, H⟩
    · replace H := H.2 hc
      refine go_iconst (v := (-1 : Int32)) rfl dX8_takenAt_28 ?_
      exact go_iret rfl rfl dX8_takenAt_29 ⟨_, rfl, H⟩
set_option maxRecDepth 20000 in
theorem wc_X8_turnIn_0 {M : mm_T} {a0 a1 a2 a3 : Nat} {P : Int32 → mm_T → Prop} (K0 : mm_k M a0 = (8, 8)) (H : cs_v mt_X8_load [pv_r a0, pv_r a1] M (fun M1 => mm_k M1 a2 = (6, 17) ∧ (mm_k M1 (mm_r M1 a0 0) = (0, 4) ∧ (cs_r mt_X0_withNumber [pv_r (mm_r M1 a0 0), pv_i (mm_i M1 a2 0)] M1 (fun v6 M5 => mm_k M5 a3 = (3, 14) ∧ (mm_k M5 (mm_r M5 a0 0) = (0, 4) ∧ (cs_r mt_X0_laneAt [pv_r (mm_r M5 a0 0), pv_i (mm_i M5 a3 0)] M5 (fun v13 M12 => (((v6 = 0) → cw_i mt_X8_turnIn 65 [some (pv_r a0), some (pv_r a1), some (pv_r a2), some (pv_r a3), some (pv_r v6), some (pv_r v13), some (pv_i (0 : Int32)), none] [] M12 P) ∧ ((¬ v6 = 0) → (((v13 = 0) → cw_i mt_X8_turnIn 65 [some (pv_r a0), some (pv_r a1), some (pv_r a2), some (pv_r a3), some (pv_r v6), some (pv_r v13), some (pv_i (0 : Int32)), none] [] M12 P) ∧ ((¬ v13 = 0) → mm_k M12 v6 = (6, 17) ∧ ((mm_r M12 v6 2 = 0 ∨ ob_ M12 (mm_r M12 v6 2)) ∧ (v13 = 0 ∨ ob_ M12 v13) ∧ (((mm_r M12 v6 2 = v13) → cw_i mt_X8_turnIn 65 [some (pv_r a0), some (pv_r a1), some (pv_r a2), some (pv_r a3), some (pv_r v6), some (pv_r v13), some (pv_i (0 : Int32)), none] [] M12 P) ∧ ((¬ mm_r M12 v6 2 = v13) → mm_k M12 (mm_r M12 a0 0) = (0, 4) ∧ (cs_v mt_X0_transfer [pv_r (mm_r M12 a0 0), pv_r v6, pv_r v13] M12 (fun M23 => cw_i mt_X8_turnIn 65 [some (pv_r a0), some (pv_r a1), some (pv_r a2), some (pv_r a3), some (pv_r v6), some (pv_r v13), some (pv_i (0 : Int32)), none] [] M23 P))))))))))))))))) : cw_i mt_X8_turnIn 0 [some (pv_r a0), some (pv_r a1), some (pv_r a2), some (pv_r a3), none, none, none, none] [] M P := by
  refine go_aload_n dX8_turnIn_0 rfl ?_
  refine go_aload_n dX8_turnIn_1 rfl ?_
  refine go_V (av := [pv_r a1]) (st := []) (ci := 8) ok_X8_load ⟨by decide, by decide⟩ ml_X8_87 rfl (by decide) (fun v hv => by simp only [List.mem_cons, List.not_mem_nil, or_false] at hv; rcases hv with rfl <;> first | exact pv_1i | exact pv_1r) (Nat.le_of_ble_eq_true rfl) (fun _ h => h) (by decide) rfl K0 dX8_turnIn_2 H (fun r M1 hq hS => ?_)
  obtain ⟨rfl, H⟩ := hq
  have k2 : mm_k M1 a0 = (8, 8) := ks_S K0 (by decide) hS
  show go_W mt_X8_turnIn fr_C 5 [some (pv_r a0), some (pv_r a1), some (pv_r a2), some (pv_r a3), none, none, none, none] [] M1 (qi_ P)
  refine go_aload_n dX8_turnIn_5 rfl ?_
  refine go_getR (k := 0) ⟨by decide, rfl, by decide, Or.inl ⟨_, rfl⟩⟩ k2 fl_X8_12 dX8_turnIn_6 ?_
  refine go_aload_n dX8_turnIn_9 rfl ?_
  obtain ⟨k3, H⟩ := H
  refine go_getI (k := 0) ⟨by decide, rfl, by decide, rfl⟩ k3 fl_X8_95 dX8_turnIn_10 ?_
  obtain ⟨k4, H⟩ := H
  refine go_V (av := [pv_i (mm_i M1 a2 0)]) (st := []) (ci := 0) ok_X0_withNumber ⟨by decide, by decide⟩ ml_X8_96 rfl (by decide) (fun v hv => by simp only [List.mem_cons, List.not_mem_nil, or_false] at hv; rcases hv with rfl <;> first | exact pv_1i | exact pv_1r) (Nat.le_of_ble_eq_true rfl) (fun _ h => h) (by decide) rfl k4 dX8_turnIn_13 H (fun r M5 hq hS => ?_)
  obtain ⟨v6, rfl, H⟩ := hq
  have k7 : mm_k M5 a0 = (8, 8) := ks_S k2 (by decide) hS
  have k8 : mm_k M5 a2 = (6, 17) := ks_S k3 (by decide) hS
  have k9 : mm_k M5 (mm_r M1 a0 0) = (0, 4) := ks_S k4 (by decide) hS
  show go_W mt_X8_turnIn fr_C 16 [some (pv_r a0), some (pv_r a1), some (pv_r a2), some (pv_r a3), none, none, none, none] [pv_r v6] M5 (qi_ P)
  refine go_astore (by decide) dX8_turnIn_16 ?_
  show go_W mt_X8_turnIn fr_C 18 [some (pv_r a0), some (pv_r a1), some (pv_r a2), some (pv_r a3), some (pv_r v6), none, none, none] [] M5 (qi_ P)
  refine go_aload_n dX8_turnIn_18 rfl ?_
  refine go_getR (k := 0) ⟨by decide, rfl, by decide, Or.inl ⟨_, rfl⟩⟩ k7 fl_X8_12 dX8_turnIn_19 ?_
  refine go_aload_n dX8_turnIn_22 rfl ?_
  obtain ⟨k10, H⟩ := H
  refine go_getI (k := 0) ⟨by decide, rfl, by decide, rfl⟩ k10 fl_X8_73 dX8_turnIn_23 ?_
  obtain ⟨k11, H⟩ := H
  refine go_V (av := [pv_i (mm_i M5 a3 0)]) (st := []) (ci := 0) ok_X0_laneAt ⟨by decide, by decide⟩ ml_X8_76 rfl (by decide) (fun v hv => by simp only [List.mem_cons, List.not_mem_nil, or_false] at hv; rcases hv with rfl <;> first | exact pv_1i | exact pv_1r) (Nat.le_of_ble_eq_true rfl) (fun _ h => h) (by decide) rfl k11 dX8_turnIn_26 H (fun r M12 hq hS => ?_)
  obtain ⟨v13, rfl, H⟩ := hq
  have k14 : mm_k M12 a0 = (8, 8) := ks_S k7 (by decide) hS
  have k15 : mm_k M12 a2 = (6, 17) := ks_S k8 (by decide) hS
  have k16 : mm_k M12 (mm_r M1 a0 0) = (0, 4) := ks_S k9 (by decide) hS
  have k17 : mm_k M12 a3 = (3, 14) := ks_S k10 (by decide) hS
  have k18 : mm_k M12 (mm_r M5 a0 0) = (0, 4) := ks_S k11 (by decide) hS
  show go_W mt_X8_turnIn fr_C 29 [some (pv_r a0), some (pv_r a1), some (pv_r a2), some (pv_r a3), some (pv_r v6), none, none, none] [pv_r v13] M12 (qi_ P)
  refine go_astore (by decide) dX8_turnIn_29 ?_
  show go_W mt_X8_turnIn fr_C 31 [some (pv_r a0), some (pv_r a1), some (pv_r a2), some (pv_r a3), some (pv_r v6), some (pv_r v13), none, none] [] M12 (qi_ P)
  refine go_aload dX8_turnIn_31 rfl ?_
  refine go_ifnull (tgt := 62) dX8_turnIn_33 (by decide) (fun hc => ?_) (fun hc => ?_)
  · replace H := H.1 hc
    refine go_iconst (v := (0 : Int32)) rfl dX8_turnIn_62 ?_
    refine go_istore (by decide) dX8_turnIn_63 ?_
    show go_W mt_X8_turnIn fr_C 65 [some (pv_r a0), some (pv_r a1), some (pv_r a2), some (pv_r a3), some (pv_r v6), some (pv_r v13), some (pv_i (0 : Int32)), none] [] M12 (qi_ P)
    exact H
  · replace H := H.2 hc
    refine go_aload dX8_turnIn_36 rfl ?_
    refine go_ifnull (tgt := 62) dX8_turnIn_38 (by decide) (fun hc => ?_) (fun hc => ?_)
    · replace H := H.1 hc
      refine go_iconst (v := (0 : Int32)) rfl dX8_turnIn_62 ?_
      refine go_istore (by decide) dX8_turnIn_63 ?_
      show go_W mt_X8_turnIn fr_C 65 [some (pv_r a0), some (pv_r a1), some (pv_r a2), some (pv_r a3), some (pv_r v6), some (pv_r v13), some (pv_i (0 : Int32)), none] [] M12 (qi_ P)
      exact H
    · replace H := H.2 hc
      refine go_aload dX8_turnIn_41 rfl ?_
      obtain ⟨k19, H⟩ := H
      refine go_getR (k := 2) ⟨by decide, rfl, by decide, Or.inl ⟨_, rfl⟩⟩ k19 fl_X8_69 dX8_turnIn_43 ?_
      refine go_aload dX8_turnIn_46 rfl ?_
      obtain ⟨ho20, H⟩ := H
      obtain ⟨ho21, H⟩ := H
      refine go_acmpO_eq (tgt := 62) ho20 ho21 dX8_turnIn_48 (by decide) (fun hc => ?_) (fun hc => ?_)
      · replace H := H.1 hc
        refine go_iconst (v := (0 : Int32)) rfl dX8_turnIn_62 ?_
        refine go_istore (by decide) dX8_turnIn_63 ?_
        show go_W mt_X8_turnIn fr_C 65 [some (pv_r a0), some (pv_r a1), some (pv_r a2), some (pv_r a3), some (pv_r v6), some (pv_r v13), some (pv_i (0 : Int32)), none] [] M12 (qi_ P)
        exact H
      · replace H := H.2 hc
        refine go_aload_n dX8_turnIn_51 rfl ?_
        refine go_getR (k := 0) ⟨by decide, rfl, by decide, Or.inl ⟨_, rfl⟩⟩ k14 fl_X8_12 dX8_turnIn_52 ?_
        refine go_aload dX8_turnIn_55 rfl ?_
        refine go_aload dX8_turnIn_57 rfl ?_
        obtain ⟨k22, H⟩ := H
        refine go_V (av := [pv_r v6, pv_r v13]) (st := []) (ci := 0) ok_X0_transfer ⟨by decide, by decide⟩ ml_X8_100 rfl (by decide) (fun v hv => by simp only [List.mem_cons, List.not_mem_nil, or_false] at hv; rcases hv with rfl | rfl <;> first | exact pv_1i | exact pv_1r) (Nat.le_of_ble_eq_true rfl) (fun _ h => h) (by decide) rfl k22 dX8_turnIn_59 H (fun r M23 hq hS => ?_)
        obtain ⟨rfl, H⟩ := hq
        have k24 : mm_k M23 a0 = (8, 8) := ks_S k14 (by decide) hS
        have k25 : mm_k M23 a2 = (6, 17) := ks_S k15 (by decide) hS
        have k26 : mm_k M23 (mm_r M1 a0 0) = (0, 4) := ks_S k16 (by decide) hS
        have k27 : mm_k M23 a3 = (3, 14) := ks_S k17 (by decide) hS
        have k28 : mm_k M23 (mm_r M5 a0 0) = (0, 4) := ks_S k18 (by decide) hS
        have k29 : mm_k M23 v6 = (6, 17) := ks_S k19 (by decide) hS
        have k30 : mm_k M23 (mm_r M12 a0 0) = (0, 4) := ks_S k22 (by decide) hS
        show go_W mt_X8_turnIn fr_C 62 [some (pv_r a0), some (pv_r a1), some (pv_r a2), some (pv_r a3), some (pv_r v6), some (pv_r v13), none, none] [] M23 (qi_ P)
        refine go_iconst (v := (0 : Int32)) rfl dX8_turnIn_62 ?_
        refine go_istore (by decide) dX8_turnIn_63 ?_
        show go_W mt_X8_turnIn fr_C 65 [some (pv_r a0), some (pv_r a1), some (pv_r a2), some (pv_r a3), some (pv_r v6), some (pv_r v13), some (pv_i (0 : Int32)), none] [] M23 (qi_ P)
        exact H
set_option maxRecDepth 20000 in
theorem wc_X8_turnIn_65 {M : mm_T} {a0 a1 a2 a3 a4 a5 : Nat} {x6 : Int32} {P : Int32 → mm_T → Prop} (K0 : mm_k M a0 = (8, 8)) (H : ((((48 : Int32) ≤ x6) → P (-1 : Int32) M) ∧ ((¬ (48 : Int32) ≤ x6) → mm_k M (mm_r M a0 0) = (0, 4) ∧ (cs_r mt_X0_serve [pv_r (mm_r M a0 0), pv_i (0 : Int32)] M (fun v3 M2 => (((¬ v3 = 0) → mm_k M2 v3 = (6, 17) ∧ (mm_k M2 a2 = (6, 17) ∧ ((((¬ mm_i M2 v3 0 = mm_i M2 a2 0) → cw_i mt_X8_turnIn 65 [some (pv_r a0), some (pv_r a1), some (pv_r a2), some (pv_r a3), some (pv_r a4), some (pv_r a5), some (pv_i (x6 + (1 : Int32))), none] [] M2 P) ∧ ((mm_i M2 v3 0 = mm_i M2 a2 0) → P x6 M2))))) ∧ ((v3 = 0) → P (-1 : Int32) M2))))))) : cw_i mt_X8_turnIn 65 [some (pv_r a0), some (pv_r a1), some (pv_r a2), some (pv_r a3), some (pv_r a4), some (pv_r a5), some (pv_i x6), none] [] M P := by
  refine go_iload dX8_turnIn_65 rfl ?_
  refine go_bipush (v := (48 : Int32)) rfl dX8_turnIn_67 ?_
  refine go_icmp_ge (tgt := 110) dX8_turnIn_69 (by decide) (fun hc => ?_) (fun hc => ?_)
  · replace H := H.1 hc
    refine go_iconst (v := (-1 : Int32)) rfl dX8_turnIn_110 ?_
    exact go_iret rfl rfl dX8_turnIn_111 ⟨_, rfl, H⟩
  · replace H := H.2 hc
    refine go_aload_n dX8_turnIn_72 rfl ?_
    refine go_getR (k := 0) ⟨by decide, rfl, by decide, Or.inl ⟨_, rfl⟩⟩ K0 fl_X8_12 dX8_turnIn_73 ?_
    refine go_iconst (v := (0 : Int32)) rfl dX8_turnIn_76 ?_
    obtain ⟨k1, H⟩ := H
    refine go_V (av := [pv_i (0 : Int32)]) (st := []) (ci := 0) ok_X0_serve ⟨by decide, by decide⟩ ml_X8_91 rfl (by decide) (fun v hv => by simp only [List.mem_cons, List.not_mem_nil, or_false] at hv; rcases hv with rfl <;> first | exact pv_1i | exact pv_1r) (Nat.le_of_ble_eq_true rfl) (fun _ h => h) (by decide) rfl k1 dX8_turnIn_77 H (fun r M2 hq hS => ?_)
    obtain ⟨v3, rfl, H⟩ := hq
    have k4 : mm_k M2 a0 = (8, 8) := ks_S K0 (by decide) hS
    have k5 : mm_k M2 (mm_r M a0 0) = (0, 4) := ks_S k1 (by decide) hS
    show go_W mt_X8_turnIn fr_C 80 [some (pv_r a0), some (pv_r a1), some (pv_r a2), some (pv_r a3), some (pv_r a4), some (pv_r a5), some (pv_i x6), none] [pv_r v3] M2 (qi_ P)
    refine go_astore (by decide) dX8_turnIn_80 ?_
    show go_W mt_X8_turnIn fr_C 82 [some (pv_r a0), some (pv_r a1), some (pv_r a2), some (pv_r a3), some (pv_r a4), some (pv_r a5), some (pv_i x6), some (pv_r v3)] [] M2 (qi_ P)
    refine go_aload dX8_turnIn_82 rfl ?_
    refine go_ifnonnull (tgt := 89) dX8_turnIn_84 (by decide) (fun hc => ?_) (fun hc => ?_)
    · replace H := H.1 hc
      refine go_aload dX8_turnIn_89 rfl ?_
      obtain ⟨k6, H⟩ := H
      refine go_getI (k := 0) ⟨by decide, rfl, by decide, rfl⟩ k6 fl_X8_95 dX8_turnIn_91 ?_
      refine go_aload_n dX8_turnIn_94 rfl ?_
      obtain ⟨k7, H⟩ := H
      refine go_getI (k := 0) ⟨by decide, rfl, by decide, rfl⟩ k7 fl_X8_95 dX8_turnIn_95 ?_
      refine go_icmp_ne (tgt := 104) dX8_turnIn_98 (by decide) (fun hc => ?_) (fun hc => ?_)
      · replace H := H.1 hc
        refine go_iinc (v := (1 : Int32)) (by decide) rfl rfl dX8_turnIn_104 ?_
        show go_W mt_X8_turnIn fr_C 107 [some (pv_r a0), some (pv_r a1), some (pv_r a2), some (pv_r a3), some (pv_r a4), some (pv_r a5), some (pv_i (x6 + (1 : Int32))), some (pv_r v3)] [] M2 (qi_ P)
        refine go_goto (tgt := 65) dX8_turnIn_107 (by decide) ?_
        exact go_fg (ls' := [some (pv_r a0), some (pv_r a1), some (pv_r a2), some (pv_r a3), some (pv_r a4), some (pv_r a5), some (pv_i (x6 + (1 : Int32))), none]) ⟨rfl, ⟨rfl, ⟨rfl, ⟨rfl, ⟨rfl, ⟨rfl, ⟨rfl, trivial⟩⟩⟩⟩⟩⟩⟩ H
      · replace H := H.2 hc
        refine go_iload dX8_turnIn_101 rfl ?_
        exact go_iret rfl rfl dX8_turnIn_103 ⟨_, rfl, H⟩
    · replace H := H.2 hc
      refine go_iconst (v := (-1 : Int32)) rfl dX8_turnIn_87 ?_
      exact go_iret rfl rfl dX8_turnIn_88 ⟨_, rfl, H⟩
