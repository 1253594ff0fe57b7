/-! the walks of next, oneStep, steps, by program (wip/whole/walk3d.py) -/
def fr_D (k : Nat) : Bool := !(k == 11 || k == 31 || k == 51 || k == 15)
theorem fr_CD : ∀ k, fr_C k = true → fr_D k = true := fun k h => by
  unfold fr_C at h
  unfold fr_D
  simp at h ⊢
  omega
def dw_i (t : mt_T) (pc : Nat) (ls : List (Option pv_T)) (st : List pv_T) (M : mm_T) (P : Int32 → mm_T → Prop) : Prop := go_W t fr_D pc ls st M (qi_ P)
def ds_i (t : mt_T) (av : List pv_T) (M : mm_T) (P : Int32 → mm_T → Prop) : Prop := dw_i t 0 (cx_e av (mt_n t)) [] M P
set_option maxRecDepth 20000 in
theorem wd_X2_next_0 {M : mm_T} {a0 : Nat} {x1 : Int32} {P : Int32 → mm_T → Prop} (K0 : mm_k M a0 = (2, 1)) (H : ∀ M1, M1 = mm_pl M a0 0 ((((1103515245 : Int64) * mm_l M a0 0) + (12345 : Int64)) &&& (2147483647 : Int64)) → ((((1 : Int32) ≤ x1) → ¬ x1.toInt64 = 0 ∧ (P (((mm_l M1 a0 0 / (64 : Int64)) - (mm_l M1 a0 0 / (64 : Int64)) / x1.toInt64 * x1.toInt64).toInt32) M1)) ∧ ((¬ (1 : Int32) ≤ x1) → P (0 : Int32) M1))) : dw_i mt_X2_next 0 [some (pv_r a0), some (pv_i x1)] [] M P := by
  refine go_aload_n dX2_next_0 rfl ?_
  refine go_ldc2 (v := (1103515245 : Int64)) kc_X2_7 dX2_next_1 ?_
  refine go_aload_n dX2_next_4 rfl ?_
  refine go_getL (k := 0) ⟨by decide, rfl, by decide, rfl⟩ K0 fl_X2_9 dX2_next_5 ?_
  refine go_lmul dX2_next_8 ?_
  refine go_ldc2 (v := (12345 : Int64)) kc_X2_15 dX2_next_9 ?_
  refine go_ladd dX2_next_12 ?_
  refine go_ldc2 (v := (2147483647 : Int64)) kc_X2_17 dX2_next_13 ?_
  refine go_land dX2_next_16 ?_
  refine go_putL (k := 0) ⟨by decide, rfl, by decide, rfl⟩ K0 rfl (Or.inl rfl) fl_X2_9 dX2_next_17 ?_
  show go_W mt_X2_next fr_D 20 [some (pv_r a0), some (pv_i x1)] [] (mm_pl M a0 0 ((((1103515245 : Int64) * mm_l M a0 0) + (12345 : Int64)) &&& (2147483647 : Int64))) (qi_ P)
  obtain ⟨M1, hM1⟩ : ∃ M', M' = mm_pl M a0 0 ((((1103515245 : Int64) * mm_l M a0 0) + (12345 : Int64)) &&& (2147483647 : Int64)) := ⟨_, rfl⟩
  have k2 : mm_k M1 a0 = (2, 1) := (by rw [hM1]; exact K0)
  rw [← hM1]
  replace H := H M1 hM1
  refine go_iload_n dX2_next_20 rfl ?_
  refine go_iconst (v := (1 : Int32)) rfl dX2_next_21 ?_
  refine go_icmp_ge (tgt := 29) dX2_next_22 (by decide) (fun hc => ?_) (fun hc => ?_)
  · replace H := H.1 hc
    refine go_aload_n dX2_next_29 rfl ?_
    refine go_getL (k := 0) ⟨by decide, rfl, by decide, rfl⟩ k2 fl_X2_9 dX2_next_30 ?_
    refine go_ldc2 (v := (64 : Int64)) kc_X2_19 dX2_next_33 ?_
    refine go_ldiv (by decide) dX2_next_36 ?_
    refine go_iload_n dX2_next_37 rfl ?_
    refine go_i2l dX2_next_38 ?_
    refine go_lrem H.1 dX2_next_39 ?_
    replace H := H.2
    refine go_l2i dX2_next_40 ?_
    exact go_iret rfl rfl dX2_next_41 ⟨_, rfl, H⟩
  · replace H := H.2 hc
    refine go_iconst (v := (0 : Int32)) rfl dX2_next_25 ?_
    refine go_goto (tgt := 41) dX2_next_26 (by decide) ?_
    exact go_iret rfl rfl dX2_next_41 ⟨_, rfl, H⟩
set_option maxRecDepth 20000 in
theorem wd_X10_oneStep_0 {M : mm_T} {a0 : Nat} {P : Int32 → mm_T → Prop} (K0 : mm_k M a0 = (10, 14)) (H : mm_k M (mm_r M a0 9) = (2, 1) ∧ (ds_i mt_X2_next [pv_r (mm_r M a0 9), pv_i (10 : Int32)] M (fun v3 M2 => ((((3 : Int32) ≤ v3) → ((((5 : Int32) ≤ v3) → ((((8 : Int32) ≤ v3) → (((¬ v3 = (8 : Int32)) → mm_k M2 (mm_r M2 a0 9) = (2, 1) ∧ (ds_i mt_X2_next [pv_r (mm_r M2 a0 9), pv_i (400 : Int32)] M2 (fun v8 M7 => mm_k M7 (mm_r M7 a0 9) = (2, 1) ∧ (ds_i mt_X2_next [pv_r (mm_r M7 a0 9), pv_i (10 : Int32)] M7 (fun v14 M13 => cs_i mt_X10_raiseIfCan [pv_r a0, pv_i v8, pv_i v14] M13 (fun v20 M19 => mm_S fr_C M13 M19 → ((((v20 < 0) → P (0 : Int32) M19) ∧ ((¬ v20 < 0) → P (1 : Int32) M19))))))))) ∧ ((v3 = (8 : Int32)) → cs_v mt_X10_oneTick [pv_r a0] M2 (fun M25 => mm_S fr_C M2 M25 → (P (1 : Int32) M25))))) ∧ ((¬ (8 : Int32) ≤ v3) → mm_k M2 (mm_r M2 a0 9) = (2, 1) ∧ (ds_i mt_X2_next [pv_r (mm_r M2 a0 9), pv_i (6 : Int32)] M2 (fun v30 M29 => cs_r mt_X10_workerAt [pv_r a0, pv_i v30] M29 (fun v35 M34 => mm_S fr_C M29 M34 → (((((7 : Int32) ≤ v3) → mm_k M34 (mm_r M34 a0 9) = (2, 1) ∧ (ds_i mt_X2_next [pv_r (mm_r M34 a0 9), pv_i (99 : Int32)] M34 (fun v41 M40 => (((¬ v35 = 0) → mm_k M40 v35 = (9, 5) ∧ ((((mm_r M40 v35 1 = 0) → (((mm_r M40 v35 1 = 0) → (((mm_r M40 v35 1 = 0) → P (0 : Int32) M40) ∧ ((¬ mm_r M40 v35 1 = 0) → P (1 : Int32) M40))) ∧ ((¬ mm_r M40 v35 1 = 0) → cs_v mt_X10_failTask [pv_r a0, pv_r (mm_r M40 v35 1), pv_i (v41 + (1 : Int32))] M40 (fun M47 => mm_S fr_C M40 M47 → ((((mm_r M40 v35 1 = 0) → P (0 : Int32) M47) ∧ ((¬ mm_r M40 v35 1 = 0) → P (1 : Int32) M47))))))) ∧ ((¬ mm_r M40 v35 1 = 0) → ((((7 : Int32) ≤ v3) → (((mm_r M40 v35 1 = 0) → (((mm_r M40 v35 1 = 0) → P (0 : Int32) M40) ∧ ((¬ mm_r M40 v35 1 = 0) → P (1 : Int32) M40))) ∧ ((¬ mm_r M40 v35 1 = 0) → cs_v mt_X10_failTask [pv_r a0, pv_r (mm_r M40 v35 1), pv_i (v41 + (1 : Int32))] M40 (fun M53 => mm_S fr_C M40 M53 → ((((mm_r M40 v35 1 = 0) → P (0 : Int32) M53) ∧ ((¬ mm_r M40 v35 1 = 0) → P (1 : Int32) M53))))))) ∧ ((¬ (7 : Int32) ≤ v3) → cs_v mt_X10_completeTask [pv_r a0, pv_r (mm_r M40 v35 1)] M40 (fun M59 => mm_S fr_C M40 M59 → ((((mm_r M40 v35 1 = 0) → P (0 : Int32) M59) ∧ ((¬ mm_r M40 v35 1 = 0) → P (1 : Int32) M59)))))))))) ∧ ((v35 = 0) → P (0 : Int32) M40))))) ∧ ((¬ (7 : Int32) ≤ v3) → (((¬ v35 = 0) → mm_k M34 v35 = (9, 5) ∧ ((((mm_r M34 v35 1 = 0) → (((mm_r M34 v35 1 = 0) → (((mm_r M34 v35 1 = 0) → P (0 : Int32) M34) ∧ ((¬ mm_r M34 v35 1 = 0) → P (1 : Int32) M34))) ∧ ((¬ mm_r M34 v35 1 = 0) → cs_v mt_X10_failTask [pv_r a0, pv_r (mm_r M34 v35 1), pv_i (0 : Int32)] M34 (fun M66 => mm_S fr_C M34 M66 → ((((mm_r M34 v35 1 = 0) → P (0 : Int32) M66) ∧ ((¬ mm_r M34 v35 1 = 0) → P (1 : Int32) M66))))))) ∧ ((¬ mm_r M34 v35 1 = 0) → ((((7 : Int32) ≤ v3) → (((mm_r M34 v35 1 = 0) → (((mm_r M34 v35 1 = 0) → P (0 : Int32) M34) ∧ ((¬ mm_r M34 v35 1 = 0) → P (1 : Int32) M34))) ∧ ((¬ mm_r M34 v35 1 = 0) → cs_v mt_X10_failTask [pv_r a0, pv_r (mm_r M34 v35 1), pv_i (0 : Int32)] M34 (fun M71 => mm_S fr_C M34 M71 → ((((mm_r M34 v35 1 = 0) → P (0 : Int32) M71) ∧ ((¬ mm_r M34 v35 1 = 0) → P (1 : Int32) M71))))))) ∧ ((¬ (7 : Int32) ≤ v3) → cs_v mt_X10_completeTask [pv_r a0, pv_r (mm_r M34 v35 1)] M34 (fun M76 => mm_S fr_C M34 M76 → ((((mm_r M34 v35 1 = 0) → P (0 : Int32) M76) ∧ ((¬ mm_r M34 v35 1 = 0) → P (1 : Int32) M76)))))))))) ∧ ((v35 = 0) → P (0 : Int32) M34))))))))))) ∧ ((¬ (5 : Int32) ≤ v3) → mm_k M2 (mm_r M2 a0 9) = (2, 1) ∧ (ds_i mt_X2_next [pv_r (mm_r M2 a0 9), pv_i (6 : Int32)] M2 (fun v83 M82 => cs_i mt_X10_takeIfCan [pv_r a0, pv_i v83] M82 (fun v88 M87 => mm_S fr_C M82 M87 → ((((v88 < 0) → P (0 : Int32) M87) ∧ ((¬ v88 < 0) → P (1 : Int32) M87))))))))) ∧ ((¬ (3 : Int32) ≤ v3) → mm_k M2 (mm_r M2 a0 9) = (2, 1) ∧ (ds_i mt_X2_next [pv_r (mm_r M2 a0 9), pv_i (5 : Int32)] M2 (fun v94 M93 => mm_k M93 (mm_r M93 a0 9) = (2, 1) ∧ (ds_i mt_X2_next [pv_r (mm_r M93 a0 9), pv_i (10 : Int32)] M93 (fun v100 M99 => mm_k M99 (mm_r M99 a0 9) = (2, 1) ∧ (ds_i mt_X2_next [pv_r (mm_r M99 a0 9), pv_i (20 : Int32)] M99 (fun v107 M106 => mm_k M106 (mm_r M106 a0 9) = (2, 1) ∧ (ds_i mt_X2_next [pv_r (mm_r M106 a0 9), pv_i (10000 : Int32)] M106 (fun v115 M114 => cs_i mt_X10_comeIfCan [pv_r a0, pv_i v94, pv_i v100, pv_i (v107 + (1 : Int32)), pv_i v115, pv_i (-1 : Int32)] M114 (fun v123 M122 => mm_S fr_C M114 M122 → ((((v123 < 0) → P (0 : Int32) M122) ∧ ((¬ v123 < 0) → P (1 : Int32) M122))))))))))))))))) : dw_i mt_X10_oneStep 0 [some (pv_r a0), none, none, none, none, none] [] M P := by
  refine go_aload_n dX10_oneStep_0 rfl ?_
  refine go_getR (k := 9) ⟨by decide, rfl, by decide, Or.inl ⟨_, rfl⟩⟩ K0 fl_X10_68 dX10_oneStep_1 ?_
  refine go_bipush (v := (10 : Int32)) rfl dX10_oneStep_4 ?_
  obtain ⟨k1, H⟩ := H
  refine go_V (av := [pv_i (10 : Int32)]) (st := []) (ci := 2) ok_X2_next ⟨by decide, by decide⟩ ml_X10_484 rfl (by decide) (fun v hv => by simp only [List.mem_cons, List.not_mem_nil, or_false] at hv; rcases hv with rfl <;> first | exact pv_1i | exact pv_1r) (Nat.le_of_ble_eq_true rfl) (fun _ h => h) (by decide) rfl k1 dX10_oneStep_6 H (fun r M2 hq hS => ?_)
  obtain ⟨v3, rfl, H⟩ := hq
  have k4 : mm_k M2 a0 = (10, 14) := ks_S K0 (by decide) hS
  have k5 : mm_k M2 (mm_r M a0 9) = (2, 1) := ks_S k1 (by decide) hS
  show go_W mt_X10_oneStep fr_D 9 [some (pv_r a0), none, none, none, none, none] [pv_i v3] M2 (qi_ P)
  refine go_istore_n (by decide) dX10_oneStep_9 ?_
  show go_W mt_X10_oneStep fr_D 10 [some (pv_r a0), some (pv_i v3), none, none, none, none] [] M2 (qi_ P)
  refine go_iload_n dX10_oneStep_10 rfl ?_
  refine go_iconst (v := (3 : Int32)) rfl dX10_oneStep_11 ?_
  refine go_icmp_ge (tgt := 79) dX10_oneStep_12 (by decide) (fun hc => ?_) (fun hc => ?_)
  · replace H := H.1 hc
    refine go_iload_n dX10_oneStep_79 rfl ?_
    refine go_iconst (v := (5 : Int32)) rfl dX10_oneStep_80 ?_
    refine go_icmp_ge (tgt := 106) dX10_oneStep_81 (by decide) (fun hc => ?_) (fun hc => ?_)
    · replace H := H.1 hc
      refine go_iload_n dX10_oneStep_106 rfl ?_
      refine go_bipush (v := (8 : Int32)) rfl dX10_oneStep_107 ?_
      refine go_icmp_ge (tgt := 205) dX10_oneStep_109 (by decide) (fun hc => ?_) (fun hc => ?_)
      · replace H := H.1 hc
        refine go_iload_n dX10_oneStep_205 rfl ?_
        refine go_bipush (v := (8 : Int32)) rfl dX10_oneStep_206 ?_
        refine go_icmp_ne (tgt := 217) dX10_oneStep_208 (by decide) (fun hc => ?_) (fun hc => ?_)
        · replace H := H.1 hc
          refine go_aload_n dX10_oneStep_217 rfl ?_
          refine go_getR (k := 9) ⟨by decide, rfl, by decide, Or.inl ⟨_, rfl⟩⟩ k4 fl_X10_68 dX10_oneStep_218 ?_
          refine go_sipush (v := (400 : Int32)) rfl dX10_oneStep_221 ?_
          obtain ⟨k6, H⟩ := H
          refine go_V (av := [pv_i (400 : Int32)]) (st := []) (ci := 2) ok_X2_next ⟨by decide, by decide⟩ ml_X10_484 rfl (by decide) (fun v hv => by simp only [List.mem_cons, List.not_mem_nil, or_false] at hv; rcases hv with rfl <;> first | exact pv_1i | exact pv_1r) (Nat.le_of_ble_eq_true rfl) (fun _ h => h) (by decide) rfl k6 dX10_oneStep_224 H (fun r M7 hq hS => ?_)
          obtain ⟨v8, rfl, H⟩ := hq
          have k9 : mm_k M7 a0 = (10, 14) := ks_S k4 (by decide) hS
          have k10 : mm_k M7 (mm_r M a0 9) = (2, 1) := ks_S k5 (by decide) hS
          have k11 : mm_k M7 (mm_r M2 a0 9) = (2, 1) := ks_S k6 (by decide) hS
          show go_W mt_X10_oneStep fr_D 227 [some (pv_r a0), some (pv_i v3), none, none, none, none] [pv_i v8] M7 (qi_ P)
          refine go_istore_n (by decide) dX10_oneStep_227 ?_
          show go_W mt_X10_oneStep fr_D 228 [some (pv_r a0), some (pv_i v3), some (pv_i v8), none, none, none] [] M7 (qi_ P)
          refine go_aload_n dX10_oneStep_228 rfl ?_
          refine go_getR (k := 9) ⟨by decide, rfl, by decide, Or.inl ⟨_, rfl⟩⟩ k9 fl_X10_68 dX10_oneStep_229 ?_
          refine go_bipush (v := (10 : Int32)) rfl dX10_oneStep_232 ?_
          obtain ⟨k12, H⟩ := H
          refine go_V (av := [pv_i (10 : Int32)]) (st := []) (ci := 2) ok_X2_next ⟨by decide, by decide⟩ ml_X10_484 rfl (by decide) (fun v hv => by simp only [List.mem_cons, List.not_mem_nil, or_false] at hv; rcases hv with rfl <;> first | exact pv_1i | exact pv_1r) (Nat.le_of_ble_eq_true rfl) (fun _ h => h) (by decide) rfl k12 dX10_oneStep_234 H (fun r M13 hq hS => ?_)
          obtain ⟨v14, rfl, H⟩ := hq
          have k15 : mm_k M13 a0 = (10, 14) := ks_S k9 (by decide) hS
          have k16 : mm_k M13 (mm_r M a0 9) = (2, 1) := ks_S k10 (by decide) hS
          have k17 : mm_k M13 (mm_r M2 a0 9) = (2, 1) := ks_S k11 (by decide) hS
          have k18 : mm_k M13 (mm_r M7 a0 9) = (2, 1) := ks_S k12 (by decide) hS
          show go_W mt_X10_oneStep fr_D 237 [some (pv_r a0), some (pv_i v3), some (pv_i v8), none, none, none] [pv_i v14] M13 (qi_ P)
          refine go_istore_n (by decide) dX10_oneStep_237 ?_
          show go_W mt_X10_oneStep fr_D 238 [some (pv_r a0), some (pv_i v3), some (pv_i v8), some (pv_i v14), none, none] [] M13 (qi_ P)
          refine go_aload_n dX10_oneStep_238 rfl ?_
          refine go_iload_n dX10_oneStep_239 rfl ?_
          refine go_iload_n dX10_oneStep_240 rfl ?_
          refine go_V (av := [pv_i v8, pv_i v14]) (st := []) (ci := 10) ok_X10_raiseIfCan ⟨by decide, by decide⟩ ml_X10_202 rfl (by decide) (fun v hv => by simp only [List.mem_cons, List.not_mem_nil, or_false] at hv; rcases hv with rfl | rfl <;> first | exact pv_1i | exact pv_1r) (Nat.le_of_ble_eq_true rfl) fr_CD (by decide) rfl k15 dX10_oneStep_241 H (fun r M19 hq hS => ?_)
          obtain ⟨v20, rfl, H⟩ := hq
          have k21 : mm_k M19 a0 = (10, 14) := ks_S k15 (by decide) hS
          have k22 : mm_k M19 (mm_r M a0 9) = (2, 1) := ks_S k16 (by decide) hS
          have k23 : mm_k M19 (mm_r M2 a0 9) = (2, 1) := ks_S k17 (by decide) hS
          have k24 : mm_k M19 (mm_r M7 a0 9) = (2, 1) := ks_S k18 (by decide) hS
          show go_W mt_X10_oneStep fr_D 244 [some (pv_r a0), some (pv_i v3), some (pv_i v8), some (pv_i v14), none, none] [pv_i v20] M19 (qi_ P)
          replace H := H hS
          refine go_if_lt (tgt := 251) dX10_oneStep_244 (by decide) (fun hc => ?_) (fun hc => ?_)
          · replace H := H.1 hc
            refine go_iconst (v := (0 : Int32)) rfl dX10_oneStep_251 ?_
            exact go_iret rfl rfl dX10_oneStep_252 ⟨_, rfl, H⟩
          · replace H := H.2 hc
            refine go_iconst (v := (1 : Int32)) rfl dX10_oneStep_247 ?_
            refine go_goto (tgt := 252) dX10_oneStep_248 (by decide) ?_
            exact go_iret rfl rfl dX10_oneStep_252 ⟨_, rfl, H⟩
        · replace H := H.2 hc
          refine go_aload_n dX10_oneStep_211 rfl ?_
          refine go_V (av := []) (st := []) (ci := 10) ok_X10_oneTick ⟨by decide, by decide⟩ ml_X10_157 rfl (by decide) (fun v hv => absurd hv List.not_mem_nil) (Nat.le_of_ble_eq_true rfl) fr_CD (by decide) rfl k4 dX10_oneStep_212 H (fun r M25 hq hS => ?_)
          obtain ⟨rfl, H⟩ := hq
          have k26 : mm_k M25 a0 = (10, 14) := ks_S k4 (by decide) hS
          have k27 : mm_k M25 (mm_r M a0 9) = (2, 1) := ks_S k5 (by decide) hS
          show go_W mt_X10_oneStep fr_D 215 [some (pv_r a0), some (pv_i v3), none, none, none, none] [] M25 (qi_ P)
          replace H := H hS
          refine go_iconst (v := (1 : Int32)) rfl dX10_oneStep_215 ?_
          exact go_iret rfl rfl dX10_oneStep_216 ⟨_, rfl, H⟩
      · replace H := H.2 hc
        refine go_aload_n dX10_oneStep_112 rfl ?_
        refine go_aload_n dX10_oneStep_113 rfl ?_
        refine go_getR (k := 9) ⟨by decide, rfl, by decide, Or.inl ⟨_, rfl⟩⟩ k4 fl_X10_68 dX10_oneStep_114 ?_
        refine go_bipush (v := (6 : Int32)) rfl dX10_oneStep_117 ?_
        obtain ⟨k28, H⟩ := H
        refine go_V (av := [pv_i (6 : Int32)]) (st := [pv_r a0]) (ci := 2) ok_X2_next ⟨by decide, by decide⟩ ml_X10_484 rfl (by decide) (fun v hv => by simp only [List.mem_cons, List.not_mem_nil, or_false] at hv; rcases hv with rfl <;> first | exact pv_1i | exact pv_1r) (Nat.le_of_ble_eq_true rfl) (fun _ h => h) (by decide) rfl k28 dX10_oneStep_119 H (fun r M29 hq hS => ?_)
        obtain ⟨v30, rfl, H⟩ := hq
        have k31 : mm_k M29 a0 = (10, 14) := ks_S k4 (by decide) hS
        have k32 : mm_k M29 (mm_r M a0 9) = (2, 1) := ks_S k5 (by decide) hS
        have k33 : mm_k M29 (mm_r M2 a0 9) = (2, 1) := ks_S k28 (by decide) hS
        show go_W mt_X10_oneStep fr_D 122 [some (pv_r a0), some (pv_i v3), none, none, none, none] [pv_i v30, pv_r a0] M29 (qi_ P)
        refine go_V (av := [pv_i v30]) (st := []) (ci := 10) ok_X10_workerAt ⟨by decide, by decide⟩ ml_X10_83 rfl (by decide) (fun v hv => by simp only [List.mem_cons, List.not_mem_nil, or_false] at hv; rcases hv with rfl <;> first | exact pv_1i | exact pv_1r) (Nat.le_of_ble_eq_true rfl) fr_CD (by decide) rfl k31 dX10_oneStep_122 H (fun r M34 hq hS => ?_)
        obtain ⟨v35, rfl, H⟩ := hq
        have k36 : mm_k M34 a0 = (10, 14) := ks_S k31 (by decide) hS
        have k37 : mm_k M34 (mm_r M a0 9) = (2, 1) := ks_S k32 (by decide) hS
        have k38 : mm_k M34 (mm_r M2 a0 9) = (2, 1) := ks_S k33 (by decide) hS
        show go_W mt_X10_oneStep fr_D 125 [some (pv_r a0), some (pv_i v3), none, none, none, none] [pv_r v35] M34 (qi_ P)
        replace H := H hS
        refine go_astore_n (by decide) dX10_oneStep_125 ?_
        show go_W mt_X10_oneStep fr_D 126 [some (pv_r a0), some (pv_i v3), some (pv_r v35), none, none, none] [] M34 (qi_ P)
        refine go_iload_n dX10_oneStep_126 rfl ?_
        refine go_bipush (v := (7 : Int32)) rfl dX10_oneStep_127 ?_
        refine go_icmp_ge (tgt := 136) dX10_oneStep_129 (by decide) (fun hc => ?_) (fun hc => ?_)
        · replace H := H.1 hc
          refine go_aload_n dX10_oneStep_136 rfl ?_
          refine go_getR (k := 9) ⟨by decide, rfl, by decide, Or.inl ⟨_, rfl⟩⟩ k36 fl_X10_68 dX10_oneStep_137 ?_
          refine go_bipush (v := (99 : Int32)) rfl dX10_oneStep_140 ?_
          obtain ⟨k39, H⟩ := H
          refine go_V (av := [pv_i (99 : Int32)]) (st := []) (ci := 2) ok_X2_next ⟨by decide, by decide⟩ ml_X10_484 rfl (by decide) (fun v hv => by simp only [List.mem_cons, List.not_mem_nil, or_false] at hv; rcases hv with rfl <;> first | exact pv_1i | exact pv_1r) (Nat.le_of_ble_eq_true rfl) (fun _ h => h) (by decide) rfl k39 dX10_oneStep_142 H (fun r M40 hq hS => ?_)
          obtain ⟨v41, rfl, H⟩ := hq
          have k42 : mm_k M40 a0 = (10, 14) := ks_S k36 (by decide) hS
          have k43 : mm_k M40 (mm_r M a0 9) = (2, 1) := ks_S k37 (by decide) hS
          have k44 : mm_k M40 (mm_r M2 a0 9) = (2, 1) := ks_S k38 (by decide) hS
          have k45 : mm_k M40 (mm_r M34 a0 9) = (2, 1) := ks_S k39 (by decide) hS
          show go_W mt_X10_oneStep fr_D 145 [some (pv_r a0), some (pv_i v3), some (pv_r v35), none, none, none] [pv_i v41] M40 (qi_ P)
          refine go_iconst (v := (1 : Int32)) rfl dX10_oneStep_145 ?_
          refine go_iadd dX10_oneStep_146 ?_
          refine go_istore_n (by decide) dX10_oneStep_147 ?_
          show go_W mt_X10_oneStep fr_D 148 [some (pv_r a0), some (pv_i v3), some (pv_r v35), some (pv_i (v41 + (1 : Int32))), none, none] [] M40 (qi_ P)
          refine go_aload_n dX10_oneStep_148 rfl ?_
          refine go_ifnonnull (tgt := 156) dX10_oneStep_149 (by decide) (fun hc => ?_) (fun hc => ?_)
          · replace H := H.1 hc
            refine go_aload_n dX10_oneStep_156 rfl ?_
            obtain ⟨k46, H⟩ := H
            refine go_getR (k := 1) ⟨by decide, rfl, by decide, Or.inl ⟨_, rfl⟩⟩ k46 fl_X10_125 dX10_oneStep_157 ?_
            refine go_astore (by decide) dX10_oneStep_160 ?_
            show go_W mt_X10_oneStep fr_D 162 [some (pv_r a0), some (pv_i v3), some (pv_r v35), some (pv_i (v41 + (1 : Int32))), some (pv_r (mm_r M40 v35 1)), none] [] M40 (qi_ P)
            refine go_aload dX10_oneStep_162 rfl ?_
            refine go_ifnull (tgt := 182) dX10_oneStep_164 (by decide) (fun hc => ?_) (fun hc => ?_)
            · replace H := H.1 hc
              refine go_aload dX10_oneStep_182 rfl ?_
              refine go_ifnull (tgt := 194) dX10_oneStep_184 (by decide) (fun hc => ?_) (fun hc => ?_)
              · replace H := H.1 hc
                refine go_aload dX10_oneStep_194 rfl ?_
                refine go_ifnull (tgt := 203) dX10_oneStep_196 (by decide) (fun hc => ?_) (fun hc => ?_)
                · replace H := H.1 hc
                  refine go_iconst (v := (0 : Int32)) rfl dX10_oneStep_203 ?_
                  exact go_iret rfl rfl dX10_oneStep_204 ⟨_, rfl, H⟩
                · replace H := H.2 hc
                  refine go_iconst (v := (1 : Int32)) rfl dX10_oneStep_199 ?_
                  refine go_goto (tgt := 204) dX10_oneStep_200 (by decide) ?_
                  exact go_iret rfl rfl dX10_oneStep_204 ⟨_, rfl, H⟩
              · replace H := H.2 hc
                refine go_aload_n dX10_oneStep_187 rfl ?_
                refine go_aload dX10_oneStep_188 rfl ?_
                refine go_iload_n dX10_oneStep_190 rfl ?_
                refine go_V (av := [pv_r (mm_r M40 v35 1), pv_i (v41 + (1 : Int32))]) (st := []) (ci := 10) ok_X10_failTask ⟨by decide, by decide⟩ ml_X10_101 rfl (by decide) (fun v hv => by simp only [List.mem_cons, List.not_mem_nil, or_false] at hv; rcases hv with rfl | rfl <;> first | exact pv_1i | exact pv_1r) (Nat.le_of_ble_eq_true rfl) fr_CD (by decide) rfl k42 dX10_oneStep_191 H (fun r M47 hq hS => ?_)
                obtain ⟨rfl, H⟩ := hq
                have k48 : mm_k M47 a0 = (10, 14) := ks_S k42 (by decide) hS
                have k49 : mm_k M47 (mm_r M a0 9) = (2, 1) := ks_S k43 (by decide) hS
                have k50 : mm_k M47 (mm_r M2 a0 9) = (2, 1) := ks_S k44 (by decide) hS
                have k51 : mm_k M47 (mm_r M34 a0 9) = (2, 1) := ks_S k45 (by decide) hS
                have k52 : mm_k M47 v35 = (9, 5) := ks_S k46 (by decide) hS
                show go_W mt_X10_oneStep fr_D 194 [some (pv_r a0), some (pv_i v3), some (pv_r v35), some (pv_i (v41 + (1 : Int32))), some (pv_r (mm_r M40 v35 1)), none] [] M47 (qi_ P)
                replace H := H hS
                refine go_aload dX10_oneStep_194 rfl ?_
                refine go_ifnull (tgt := 203) dX10_oneStep_196 (by decide) (fun hc => ?_) (fun hc => ?_)
                · replace H := H.1 hc
                  refine go_iconst (v := (0 : Int32)) rfl dX10_oneStep_203 ?_
                  exact go_iret rfl rfl dX10_oneStep_204 ⟨_, rfl, H⟩
                · replace H := H.2 hc
                  refine go_iconst (v := (1 : Int32)) rfl dX10_oneStep_199 ?_
                  refine go_goto (tgt := 204) dX10_oneStep_200 (by decide) ?_
                  exact go_iret rfl rfl dX10_oneStep_204 ⟨_, rfl, H⟩
            · replace H := H.2 hc
              refine go_iload_n dX10_oneStep_167 rfl ?_
              refine go_bipush (v := (7 : Int32)) rfl dX10_oneStep_168 ?_
              refine go_icmp_ge (tgt := 182) dX10_oneStep_170 (by decide) (fun hc => ?_) (fun hc => ?_)
              · replace H := H.1 hc
                refine go_aload dX10_oneStep_182 rfl ?_
                refine go_ifnull (tgt := 194) dX10_oneStep_184 (by decide) (fun hc => ?_) (fun hc => ?_)
                · replace H := H.1 hc
                  refine go_aload dX10_oneStep_194 rfl ?_
                  refine go_ifnull (tgt := 203) dX10_oneStep_196 (by decide) (fun hc => ?_) (fun hc => ?_)
                  · replace H := H.1 hc
                    refine go_iconst (v := (0 : Int32)) rfl dX10_oneStep_203 ?_
                    exact go_iret rfl rfl dX10_oneStep_204 ⟨_, rfl, H⟩
                  · replace H := H.2 hc
                    refine go_iconst (v := (1 : Int32)) rfl dX10_oneStep_199 ?_
                    refine go_goto (tgt := 204) dX10_oneStep_200 (by decide) ?_
                    exact go_iret rfl rfl dX10_oneStep_204 ⟨_, rfl, H⟩
                · replace H := H.2 hc
                  refine go_aload_n dX10_oneStep_187 rfl ?_
                  refine go_aload dX10_oneStep_188 rfl ?_
                  refine go_iload_n dX10_oneStep_190 rfl ?_
                  refine go_V (av := [pv_r (mm_r M40 v35 1), pv_i (v41 + (1 : Int32))]) (st := []) (ci := 10) ok_X10_failTask ⟨by decide, by decide⟩ ml_X10_101 rfl (by decide) (fun v hv => by simp only [List.mem_cons, List.not_mem_nil, or_false] at hv; rcases hv with rfl | rfl <;> first | exact pv_1i | exact pv_1r) (Nat.le_of_ble_eq_true rfl) fr_CD (by decide) rfl k42 dX10_oneStep_191 H (fun r M53 hq hS => ?_)
                  obtain ⟨rfl, H⟩ := hq
                  have k54 : mm_k M53 a0 = (10, 14) := ks_S k42 (by decide) hS
                  have k55 : mm_k M53 (mm_r M a0 9) = (2, 1) := ks_S k43 (by decide) hS
                  have k56 : mm_k M53 (mm_r M2 a0 9) = (2, 1) := ks_S k44 (by decide) hS
                  have k57 : mm_k M53 (mm_r M34 a0 9) = (2, 1) := ks_S k45 (by decide) hS
                  have k58 : mm_k M53 v35 = (9, 5) := ks_S k46 (by decide) hS
                  show go_W mt_X10_oneStep fr_D 194 [some (pv_r a0), some (pv_i v3), some (pv_r v35), some (pv_i (v41 + (1 : Int32))), some (pv_r (mm_r M40 v35 1)), none] [] M53 (qi_ P)
                  replace H := H hS
                  refine go_aload dX10_oneStep_194 rfl ?_
                  refine go_ifnull (tgt := 203) dX10_oneStep_196 (by decide) (fun hc => ?_) (fun hc => ?_)
                  · replace H := H.1 hc
                    refine go_iconst (v := (0 : Int32)) rfl dX10_oneStep_203 ?_
                    exact go_iret rfl rfl dX10_oneStep_204 ⟨_, rfl, H⟩
                  · replace H := H.2 hc
                    refine go_iconst (v := (1 : Int32)) rfl dX10_oneStep_199 ?_
                    refine go_goto (tgt := 204) dX10_oneStep_200 (by decide) ?_
                    exact go_iret rfl rfl dX10_oneStep_204 ⟨_, rfl, H⟩
              · replace H := H.2 hc
                refine go_aload_n dX10_oneStep_173 rfl ?_
                refine go_aload dX10_oneStep_174 rfl ?_
                refine go_V (av := [pv_r (mm_r M40 v35 1)]) (st := []) (ci := 10) ok_X10_completeTask ⟨by decide, by decide⟩ ml_X10_91 rfl (by decide) (fun v hv => by simp only [List.mem_cons, List.not_mem_nil, or_false] at hv; rcases hv with rfl <;> first | exact pv_1i | exact pv_1r) (Nat.le_of_ble_eq_true rfl) fr_CD (by decide) rfl k42 dX10_oneStep_176 H (fun r M59 hq hS => ?_)
                obtain ⟨rfl, H⟩ := hq
                have k60 : mm_k M59 a0 = (10, 14) := ks_S k42 (by decide) hS
                have k61 : mm_k M59 (mm_r M a0 9) = (2, 1) := ks_S k43 (by decide) hS
                have k62 : mm_k M59 (mm_r M2 a0 9) = (2, 1) := ks_S k44 (by decide) hS
                have k63 : mm_k M59 (mm_r M34 a0 9) = (2, 1) := ks_S k45 (by decide) hS
                have k64 : mm_k M59 v35 = (9, 5) := ks_S k46 (by decide) hS
                show go_W mt_X10_oneStep fr_D 179 [some (pv_r a0), some (pv_i v3), some (pv_r v35), some (pv_i (v41 + (1 : Int32))), some (pv_r (mm_r M40 v35 1)), none] [] M59 (qi_ P)
                replace H := H hS
                refine go_goto (tgt := 194) dX10_oneStep_179 (by decide) ?_
                refine go_aload dX10_oneStep_194 rfl ?_
                refine go_ifnull (tgt := 203) dX10_oneStep_196 (by decide) (fun hc => ?_) (fun hc => ?_)
                · replace H := H.1 hc
                  refine go_iconst (v := (0 : Int32)) rfl dX10_oneStep_203 ?_
                  exact go_iret rfl rfl dX10_oneStep_204 ⟨_, rfl, H⟩
                · replace H := H.2 hc
                  refine go_iconst (v := (1 : Int32)) rfl dX10_oneStep_199 ?_
                  refine go_goto (tgt := 204) dX10_oneStep_200 (by decide) ?_
                  exact go_iret rfl rfl dX10_oneStep_204 ⟨_, rfl, H⟩
          · replace H := H.2 hc
            refine go_null dX10_oneStep_152 ?_
            refine go_goto (tgt := 160) dX10_oneStep_153 (by decide) ?_
            refine go_astore (by decide) dX10_oneStep_160 ?_
            show go_W mt_X10_oneStep fr_D 162 [some (pv_r a0), some (pv_i v3), some (pv_r v35), some (pv_i (v41 + (1 : Int32))), some (pv_r 0), none] [] M40 (qi_ P)
            refine go_aload dX10_oneStep_162 rfl ?_
            refine go_ifnull (tgt := 182) dX10_oneStep_164 (by decide) (fun _ => ?_) (fun hc => absurd rfl hc)
            refine go_aload dX10_oneStep_182 rfl ?_
            refine go_ifnull (tgt := 194) dX10_oneStep_184 (by decide) (fun _ => ?_) (fun hc => absurd rfl hc)
            refine go_aload dX10_oneStep_194 rfl ?_
            refine go_ifnull (tgt := 203) dX10_oneStep_196 (by decide) (fun _ => ?_) (fun hc => absurd rfl hc)
            refine go_iconst (v := (0 : Int32)) rfl dX10_oneStep_203 ?_
            exact go_iret rfl rfl dX10_oneStep_204 ⟨_, rfl, H⟩
        · replace H := H.2 hc
          refine go_iconst (v := (0 : Int32)) rfl dX10_oneStep_132 ?_
          refine go_goto (tgt := 147) dX10_oneStep_133 (by decide) ?_
          refine go_istore_n (by decide) dX10_oneStep_147 ?_
          show go_W mt_X10_oneStep fr_D 148 [some (pv_r a0), some (pv_i v3), some (pv_r v35), some (pv_i (0 : Int32)), none, none] [] M34 (qi_ P)
          refine go_aload_n dX10_oneStep_148 rfl ?_
          refine go_ifnonnull (tgt := 156) dX10_oneStep_149 (by decide) (fun hc => ?_) (fun hc => ?_)
          · replace H := H.1 hc
            refine go_aload_n dX10_oneStep_156 rfl ?_
            obtain ⟨k65, H⟩ := H
            refine go_getR (k := 1) ⟨by decide, rfl, by decide, Or.inl ⟨_, rfl⟩⟩ k65 fl_X10_125 dX10_oneStep_157 ?_
            refine go_astore (by decide) dX10_oneStep_160 ?_
            show go_W mt_X10_oneStep fr_D 162 [some (pv_r a0), some (pv_i v3), some (pv_r v35), some (pv_i (0 : Int32)), some (pv_r (mm_r M34 v35 1)), none] [] M34 (qi_ P)
            refine go_aload dX10_oneStep_162 rfl ?_
            refine go_ifnull (tgt := 182) dX10_oneStep_164 (by decide) (fun hc => ?_) (fun hc => ?_)
            · replace H := H.1 hc
              refine go_aload dX10_oneStep_182 rfl ?_
              refine go_ifnull (tgt := 194) dX10_oneStep_184 (by decide) (fun hc => ?_) (fun hc => ?_)
              · replace H := H.1 hc
                refine go_aload dX10_oneStep_194 rfl ?_
                refine go_ifnull (tgt := 203) dX10_oneStep_196 (by decide) (fun hc => ?_) (fun hc => ?_)
                · replace H := H.1 hc
                  refine go_iconst (v := (0 : Int32)) rfl dX10_oneStep_203 ?_
                  exact go_iret rfl rfl dX10_oneStep_204 ⟨_, rfl, H⟩
                · replace H := H.2 hc
                  refine go_iconst (v := (1 : Int32)) rfl dX10_oneStep_199 ?_
                  refine go_goto (tgt := 204) dX10_oneStep_200 (by decide) ?_
                  exact go_iret rfl rfl dX10_oneStep_204 ⟨_, rfl, H⟩
              · replace H := H.2 hc
                refine go_aload_n dX10_oneStep_187 rfl ?_
                refine go_aload dX10_oneStep_188 rfl ?_
                refine go_iload_n dX10_oneStep_190 rfl ?_
                refine go_V (av := [pv_r (mm_r M34 v35 1), pv_i (0 : Int32)]) (st := []) (ci := 10) ok_X10_failTask ⟨by decide, by decide⟩ ml_X10_101 rfl (by decide) (fun v hv => by simp only [List.mem_cons, List.not_mem_nil, or_false] at hv; rcases hv with rfl | rfl <;> first | exact pv_1i | exact pv_1r) (Nat.le_of_ble_eq_true rfl) fr_CD (by decide) rfl k36 dX10_oneStep_191 H (fun r M66 hq hS => ?_)
                obtain ⟨rfl, H⟩ := hq
                have k67 : mm_k M66 a0 = (10, 14) := ks_S k36 (by decide) hS
                have k68 : mm_k M66 (mm_r M a0 9) = (2, 1) := ks_S k37 (by decide) hS
                have k69 : mm_k M66 (mm_r M2 a0 9) = (2, 1) := ks_S k38 (by decide) hS
                have k70 : mm_k M66 v35 = (9, 5) := ks_S k65 (by decide) hS
                show go_W mt_X10_oneStep fr_D 194 [some (pv_r a0), some (pv_i v3), some (pv_r v35), some (pv_i (0 : Int32)), some (pv_r (mm_r M34 v35 1)), none] [] M66 (qi_ P)
                replace H := H hS
                refine go_aload dX10_oneStep_194 rfl ?_
                refine go_ifnull (tgt := 203) dX10_oneStep_196 (by decide) (fun hc => ?_) (fun hc => ?_)
                · replace H := H.1 hc
                  refine go_iconst (v := (0 : Int32)) rfl dX10_oneStep_203 ?_
                  exact go_iret rfl rfl dX10_oneStep_204 ⟨_, rfl, H⟩
                · replace H := H.2 hc
                  refine go_iconst (v := (1 : Int32)) rfl dX10_oneStep_199 ?_
                  refine go_goto (tgt := 204) dX10_oneStep_200 (by decide) ?_
                  exact go_iret rfl rfl dX10_oneStep_204 ⟨_, rfl, H⟩
            · replace H := H.2 hc
              refine go_iload_n dX10_oneStep_167 rfl ?_
              refine go_bipush (v := (7 : Int32)) rfl dX10_oneStep_168 ?_
              refine go_icmp_ge (tgt := 182) dX10_oneStep_170 (by decide) (fun hc => ?_) (fun hc => ?_)
              · replace H := H.1 hc
                refine go_aload dX10_oneStep_182 rfl ?_
                refine go_ifnull (tgt := 194) dX10_oneStep_184 (by decide) (fun hc => ?_) (fun hc => ?_)
                · replace H := H.1 hc
                  refine go_aload dX10_oneStep_194 rfl ?_
                  refine go_ifnull (tgt := 203) dX10_oneStep_196 (by decide) (fun hc => ?_) (fun hc => ?_)
                  · replace H := H.1 hc
                    refine go_iconst (v := (0 : Int32)) rfl dX10_oneStep_203 ?_
                    exact go_iret rfl rfl dX10_oneStep_204 ⟨_, rfl, H⟩
                  · replace H := H.2 hc
                    refine go_iconst (v := (1 : Int32)) rfl dX10_oneStep_199 ?_
                    refine go_goto (tgt := 204) dX10_oneStep_200 (by decide) ?_
                    exact go_iret rfl rfl dX10_oneStep_204 ⟨_, rfl, H⟩
                · replace H := H.2 hc
                  refine go_aload_n dX10_oneStep_187 rfl ?_
                  refine go_aload dX10_oneStep_188 rfl ?_
                  refine go_iload_n dX10_oneStep_190 rfl ?_
                  refine go_V (av := [pv_r (mm_r M34 v35 1), pv_i (0 : Int32)]) (st := []) (ci := 10) ok_X10_failTask ⟨by decide, by decide⟩ ml_X10_101 rfl (by decide) (fun v hv => by simp only [List.mem_cons, List.not_mem_nil, or_false] at hv; rcases hv with rfl | rfl <;> first | exact pv_1i | exact pv_1r) (Nat.le_of_ble_eq_true rfl) fr_CD (by decide) rfl k36 dX10_oneStep_191 H (fun r M71 hq hS => ?_)
                  obtain ⟨rfl, H⟩ := hq
                  have k72 : mm_k M71 a0 = (10, 14) := ks_S k36 (by decide) hS
                  have k73 : mm_k M71 (mm_r M a0 9) = (2, 1) := ks_S k37 (by decide) hS
                  have k74 : mm_k M71 (mm_r M2 a0 9) = (2, 1) := ks_S k38 (by decide) hS
                  have k75 : mm_k M71 v35 = (9, 5) := ks_S k65 (by decide) hS
                  show go_W mt_X10_oneStep fr_D 194 [some (pv_r a0), some (pv_i v3), some (pv_r v35), some (pv_i (0 : Int32)), some (pv_r (mm_r M34 v35 1)), none] [] M71 (qi_ P)
                  replace H := H hS
                  refine go_aload dX10_oneStep_194 rfl ?_
                  refine go_ifnull (tgt := 203) dX10_oneStep_196 (by decide) (fun hc => ?_) (fun hc => ?_)
                  · replace H := H.1 hc
                    refine go_iconst (v := (0 : Int32)) rfl dX10_oneStep_203 ?_
                    exact go_iret rfl rfl dX10_oneStep_204 ⟨_, rfl, H⟩
                  · replace H := H.2 hc
                    refine go_iconst (v := (1 : Int32)) rfl dX10_oneStep_199 ?_
                    refine go_goto (tgt := 204) dX10_oneStep_200 (by decide) ?_
                    exact go_iret rfl rfl dX10_oneStep_204 ⟨_, rfl, H⟩
              · replace H := H.2 hc
                refine go_aload_n dX10_oneStep_173 rfl ?_
                refine go_aload dX10_oneStep_174 rfl ?_
                refine go_V (av := [pv_r (mm_r M34 v35 1)]) (st := []) (ci := 10) ok_X10_completeTask ⟨by decide, by decide⟩ ml_X10_91 rfl (by decide) (fun v hv => by simp only [List.mem_cons, List.not_mem_nil, or_false] at hv; rcases hv with rfl <;> first | exact pv_1i | exact pv_1r) (Nat.le_of_ble_eq_true rfl) fr_CD (by decide) rfl k36 dX10_oneStep_176 H (fun r M76 hq hS => ?_)
                obtain ⟨rfl, H⟩ := hq
                have k77 : mm_k M76 a0 = (10, 14) := ks_S k36 (by decide) hS
                have k78 : mm_k M76 (mm_r M a0 9) = (2, 1) := ks_S k37 (by decide) hS
                have k79 : mm_k M76 (mm_r M2 a0 9) = (2, 1) := ks_S k38 (by decide) hS
                have k80 : mm_k M76 v35 = (9, 5) := ks_S k65 (by decide) hS
                show go_W mt_X10_oneStep fr_D 179 [some (pv_r a0), some (pv_i v3), some (pv_r v35), some (pv_i (0 : Int32)), some (pv_r (mm_r M34 v35 1)), none] [] M76 (qi_ P)
                replace H := H hS
                refine go_goto (tgt := 194) dX10_oneStep_179 (by decide) ?_
                refine go_aload dX10_oneStep_194 rfl ?_
                refine go_ifnull (tgt := 203) dX10_oneStep_196 (by decide) (fun hc => ?_) (fun hc => ?_)
                · replace H := H.1 hc
                  refine go_iconst (v := (0 : Int32)) rfl dX10_oneStep_203 ?_
                  exact go_iret rfl rfl dX10_oneStep_204 ⟨_, rfl, H⟩
                · replace H := H.2 hc
                  refine go_iconst (v := (1 : Int32)) rfl dX10_oneStep_199 ?_
                  refine go_goto (tgt := 204) dX10_oneStep_200 (by decide) ?_
                  exact go_iret rfl rfl dX10_oneStep_204 ⟨_, rfl, H⟩
          · replace H := H.2 hc
            refine go_null dX10_oneStep_152 ?_
            refine go_goto (tgt := 160) dX10_oneStep_153 (by decide) ?_
            refine go_astore (by decide) dX10_oneStep_160 ?_
            show go_W mt_X10_oneStep fr_D 162 [some (pv_r a0), some (pv_i v3), some (pv_r v35), some (pv_i (0 : Int32)), some (pv_r 0), none] [] M34 (qi_ P)
            refine go_aload dX10_oneStep_162 rfl ?_
            refine go_ifnull (tgt := 182) dX10_oneStep_164 (by decide) (fun _ => ?_) (fun hc => absurd rfl hc)
            refine go_aload dX10_oneStep_182 rfl ?_
            refine go_ifnull (tgt := 194) dX10_oneStep_184 (by decide) (fun _ => ?_) (fun hc => absurd rfl hc)
            refine go_aload dX10_oneStep_194 rfl ?_
            refine go_ifnull (tgt := 203) dX10_oneStep_196 (by decide) (fun _ => ?_) (fun hc => absurd rfl hc)
            refine go_iconst (v := (0 : Int32)) rfl dX10_oneStep_203 ?_
            exact go_iret rfl rfl dX10_oneStep_204 ⟨_, rfl, H⟩
    · replace H := H.2 hc
      refine go_aload_n dX10_oneStep_84 rfl ?_
      refine go_aload_n dX10_oneStep_85 rfl ?_
      refine go_getR (k := 9) ⟨by decide, rfl, by decide, Or.inl ⟨_, rfl⟩⟩ k4 fl_X10_68 dX10_oneStep_86 ?_
      refine go_bipush (v := (6 : Int32)) rfl dX10_oneStep_89 ?_
      obtain ⟨k81, H⟩ := H
      refine go_V (av := [pv_i (6 : Int32)]) (st := [pv_r a0]) (ci := 2) ok_X2_next ⟨by decide, by decide⟩ ml_X10_484 rfl (by decide) (fun v hv => by simp only [List.mem_cons, List.not_mem_nil, or_false] at hv; rcases hv with rfl <;> first | exact pv_1i | exact pv_1r) (Nat.le_of_ble_eq_true rfl) (fun _ h => h) (by decide) rfl k81 dX10_oneStep_91 H (fun r M82 hq hS => ?_)
      obtain ⟨v83, rfl, H⟩ := hq
      have k84 : mm_k M82 a0 = (10, 14) := ks_S k4 (by decide) hS
      have k85 : mm_k M82 (mm_r M a0 9) = (2, 1) := ks_S k5 (by decide) hS
      have k86 : mm_k M82 (mm_r M2 a0 9) = (2, 1) := ks_S k81 (by decide) hS
      show go_W mt_X10_oneStep fr_D 94 [some (pv_r a0), some (pv_i v3), none, none, none, none] [pv_i v83, pv_r a0] M82 (qi_ P)
      refine go_V (av := [pv_i v83]) (st := []) (ci := 10) ok_X10_takeIfCan ⟨by decide, by decide⟩ ml_X10_80 rfl (by decide) (fun v hv => by simp only [List.mem_cons, List.not_mem_nil, or_false] at hv; rcases hv with rfl <;> first | exact pv_1i | exact pv_1r) (Nat.le_of_ble_eq_true rfl) fr_CD (by decide) rfl k84 dX10_oneStep_94 H (fun r M87 hq hS => ?_)
      obtain ⟨v88, rfl, H⟩ := hq
      have k89 : mm_k M87 a0 = (10, 14) := ks_S k84 (by decide) hS
      have k90 : mm_k M87 (mm_r M a0 9) = (2, 1) := ks_S k85 (by decide) hS
      have k91 : mm_k M87 (mm_r M2 a0 9) = (2, 1) := ks_S k86 (by decide) hS
      show go_W mt_X10_oneStep fr_D 97 [some (pv_r a0), some (pv_i v3), none, none, none, none] [pv_i v88] M87 (qi_ P)
      replace H := H hS
      refine go_if_lt (tgt := 104) dX10_oneStep_97 (by decide) (fun hc => ?_) (fun hc => ?_)
      · replace H := H.1 hc
        refine go_iconst (v := (0 : Int32)) rfl dX10_oneStep_104 ?_
        exact go_iret rfl rfl dX10_oneStep_105 ⟨_, rfl, H⟩
      · replace H := H.2 hc
        refine go_iconst (v := (1 : Int32)) rfl dX10_oneStep_100 ?_
        refine go_goto (tgt := 105) dX10_oneStep_101 (by decide) ?_
        exact go_iret rfl rfl dX10_oneStep_105 ⟨_, rfl, H⟩
  · replace H := H.2 hc
    refine go_aload_n dX10_oneStep_15 rfl ?_
    refine go_getR (k := 9) ⟨by decide, rfl, by decide, Or.inl ⟨_, rfl⟩⟩ k4 fl_X10_68 dX10_oneStep_16 ?_
    refine go_iconst (v := (5 : Int32)) rfl dX10_oneStep_19 ?_
    obtain ⟨k92, H⟩ := H
    refine go_V (av := [pv_i (5 : Int32)]) (st := []) (ci := 2) ok_X2_next ⟨by decide, by decide⟩ ml_X10_484 rfl (by decide) (fun v hv => by simp only [List.mem_cons, List.not_mem_nil, or_false] at hv; rcases hv with rfl <;> first | exact pv_1i | exact pv_1r) (Nat.le_of_ble_eq_true rfl) (fun _ h => h) (by decide) rfl k92 dX10_oneStep_20 H (fun r M93 hq hS => ?_)
    obtain ⟨v94, rfl, H⟩ := hq
    have k95 : mm_k M93 a0 = (10, 14) := ks_S k4 (by decide) hS
    have k96 : mm_k M93 (mm_r M a0 9) = (2, 1) := ks_S k5 (by decide) hS
    have k97 : mm_k M93 (mm_r M2 a0 9) = (2, 1) := ks_S k92 (by decide) hS
    show go_W mt_X10_oneStep fr_D 23 [some (pv_r a0), some (pv_i v3), none, none, none, none] [pv_i v94] M93 (qi_ P)
    refine go_istore_n (by decide) dX10_oneStep_23 ?_
    show go_W mt_X10_oneStep fr_D 24 [some (pv_r a0), some (pv_i v3), some (pv_i v94), none, none, none] [] M93 (qi_ P)
    refine go_aload_n dX10_oneStep_24 rfl ?_
    refine go_getR (k := 9) ⟨by decide, rfl, by decide, Or.inl ⟨_, rfl⟩⟩ k95 fl_X10_68 dX10_oneStep_25 ?_
    refine go_bipush (v := (10 : Int32)) rfl dX10_oneStep_28 ?_
    obtain ⟨k98, H⟩ := H
    refine go_V (av := [pv_i (10 : Int32)]) (st := []) (ci := 2) ok_X2_next ⟨by decide, by decide⟩ ml_X10_484 rfl (by decide) (fun v hv => by simp only [List.mem_cons, List.not_mem_nil, or_false] at hv; rcases hv with rfl <;> first | exact pv_1i | exact pv_1r) (Nat.le_of_ble_eq_true rfl) (fun _ h => h) (by decide) rfl k98 dX10_oneStep_30 H (fun r M99 hq hS => ?_)
    obtain ⟨v100, rfl, H⟩ := hq
    have k101 : mm_k M99 a0 = (10, 14) := ks_S k95 (by decide) hS
    have k102 : mm_k M99 (mm_r M a0 9) = (2, 1) := ks_S k96 (by decide) hS
    have k103 : mm_k M99 (mm_r M2 a0 9) = (2, 1) := ks_S k97 (by decide) hS
    have k104 : mm_k M99 (mm_r M93 a0 9) = (2, 1) := ks_S k98 (by decide) hS
    show go_W mt_X10_oneStep fr_D 33 [some (pv_r a0), some (pv_i v3), some (pv_i v94), none, none, none] [pv_i v100] M99 (qi_ P)
    refine go_istore_n (by decide) dX10_oneStep_33 ?_
    show go_W mt_X10_oneStep fr_D 34 [some (pv_r a0), some (pv_i v3), some (pv_i v94), some (pv_i v100), none, none] [] M99 (qi_ P)
    refine go_aload_n dX10_oneStep_34 rfl ?_
    refine go_getR (k := 9) ⟨by decide, rfl, by decide, Or.inl ⟨_, rfl⟩⟩ k101 fl_X10_68 dX10_oneStep_35 ?_
    refine go_bipush (v := (20 : Int32)) rfl dX10_oneStep_38 ?_
    obtain ⟨k105, H⟩ := H
    refine go_V (av := [pv_i (20 : Int32)]) (st := []) (ci := 2) ok_X2_next ⟨by decide, by decide⟩ ml_X10_484 rfl (by decide) (fun v hv => by simp only [List.mem_cons, List.not_mem_nil, or_false] at hv; rcases hv with rfl <;> first | exact pv_1i | exact pv_1r) (Nat.le_of_ble_eq_true rfl) (fun _ h => h) (by decide) rfl k105 dX10_oneStep_40 H (fun r M106 hq hS => ?_)
    obtain ⟨v107, rfl, H⟩ := hq
    have k108 : mm_k M106 a0 = (10, 14) := ks_S k101 (by decide) hS
    have k109 : mm_k M106 (mm_r M a0 9) = (2, 1) := ks_S k102 (by decide) hS
    have k110 : mm_k M106 (mm_r M2 a0 9) = (2, 1) := ks_S k103 (by decide) hS
    have k111 : mm_k M106 (mm_r M93 a0 9) = (2, 1) := ks_S k104 (by decide) hS
    have k112 : mm_k M106 (mm_r M99 a0 9) = (2, 1) := ks_S k105 (by decide) hS
    show go_W mt_X10_oneStep fr_D 43 [some (pv_r a0), some (pv_i v3), some (pv_i v94), some (pv_i v100), none, none] [pv_i v107] M106 (qi_ P)
    refine go_iconst (v := (1 : Int32)) rfl dX10_oneStep_43 ?_
    refine go_iadd dX10_oneStep_44 ?_
    refine go_istore (by decide) dX10_oneStep_45 ?_
    show go_W mt_X10_oneStep fr_D 47 [some (pv_r a0), some (pv_i v3), some (pv_i v94), some (pv_i v100), some (pv_i (v107 + (1 : Int32))), none] [] M106 (qi_ P)
    refine go_aload_n dX10_oneStep_47 rfl ?_
    refine go_getR (k := 9) ⟨by decide, rfl, by decide, Or.inl ⟨_, rfl⟩⟩ k108 fl_X10_68 dX10_oneStep_48 ?_
    refine go_sipush (v := (10000 : Int32)) rfl dX10_oneStep_51 ?_
    obtain ⟨k113, H⟩ := H
    refine go_V (av := [pv_i (10000 : Int32)]) (st := []) (ci := 2) ok_X2_next ⟨by decide, by decide⟩ ml_X10_484 rfl (by decide) (fun v hv => by simp only [List.mem_cons, List.not_mem_nil, or_false] at hv; rcases hv with rfl <;> first | exact pv_1i | exact pv_1r) (Nat.le_of_ble_eq_true rfl) (fun _ h => h) (by decide) rfl k113 dX10_oneStep_54 H (fun r M114 hq hS => ?_)
    obtain ⟨v115, rfl, H⟩ := hq
    have k116 : mm_k M114 a0 = (10, 14) := ks_S k108 (by decide) hS
    have k117 : mm_k M114 (mm_r M a0 9) = (2, 1) := ks_S k109 (by decide) hS
    have k118 : mm_k M114 (mm_r M2 a0 9) = (2, 1) := ks_S k110 (by decide) hS
    have k119 : mm_k M114 (mm_r M93 a0 9) = (2, 1) := ks_S k111 (by decide) hS
    have k120 : mm_k M114 (mm_r M99 a0 9) = (2, 1) := ks_S k112 (by decide) hS
    have k121 : mm_k M114 (mm_r M106 a0 9) = (2, 1) := ks_S k113 (by decide) hS
    show go_W mt_X10_oneStep fr_D 57 [some (pv_r a0), some (pv_i v3), some (pv_i v94), some (pv_i v100), some (pv_i (v107 + (1 : Int32))), none] [pv_i v115] M114 (qi_ P)
    refine go_istore (by decide) dX10_oneStep_57 ?_
    show go_W mt_X10_oneStep fr_D 59 [some (pv_r a0), some (pv_i v3), some (pv_i v94), some (pv_i v100), some (pv_i (v107 + (1 : Int32))), some (pv_i v115)] [] M114 (qi_ P)
    refine go_aload_n dX10_oneStep_59 rfl ?_
    refine go_iload_n dX10_oneStep_60 rfl ?_
    refine go_iload_n dX10_oneStep_61 rfl ?_
    refine go_iload dX10_oneStep_62 rfl ?_
    refine go_iload dX10_oneStep_64 rfl ?_
    refine go_iconst (v := (-1 : Int32)) rfl dX10_oneStep_66 ?_
    refine go_V (av := [pv_i v94, pv_i v100, pv_i (v107 + (1 : Int32)), pv_i v115, pv_i (-1 : Int32)]) (st := []) (ci := 10) ok_X10_comeIfCan ⟨by decide, by decide⟩ ml_X10_72 rfl (by decide) (fun v hv => by simp only [List.mem_cons, List.not_mem_nil, or_false] at hv; rcases hv with rfl | rfl | rfl | rfl | rfl <;> first | exact pv_1i | exact pv_1r) (Nat.le_of_ble_eq_true rfl) fr_CD (by decide) rfl k116 dX10_oneStep_67 H (fun r M122 hq hS => ?_)
    obtain ⟨v123, rfl, H⟩ := hq
    have k124 : mm_k M122 a0 = (10, 14) := ks_S k116 (by decide) hS
    have k125 : mm_k M122 (mm_r M a0 9) = (2, 1) := ks_S k117 (by decide) hS
    have k126 : mm_k M122 (mm_r M2 a0 9) = (2, 1) := ks_S k118 (by decide) hS
    have k127 : mm_k M122 (mm_r M93 a0 9) = (2, 1) := ks_S k119 (by decide) hS
    have k128 : mm_k M122 (mm_r M99 a0 9) = (2, 1) := ks_S k120 (by decide) hS
    have k129 : mm_k M122 (mm_r M106 a0 9) = (2, 1) := ks_S k121 (by decide) hS
    show go_W mt_X10_oneStep fr_D 70 [some (pv_r a0), some (pv_i v3), some (pv_i v94), some (pv_i v100), some (pv_i (v107 + (1 : Int32))), some (pv_i v115)] [pv_i v123] M122 (qi_ P)
    replace H := H hS
    refine go_if_lt (tgt := 77) dX10_oneStep_70 (by decide) (fun hc => ?_) (fun hc => ?_)
    · replace H := H.1 hc
      refine go_iconst (v := (0 : Int32)) rfl dX10_oneStep_77 ?_
      exact go_iret rfl rfl dX10_oneStep_78 ⟨_, rfl, H⟩
    · replace H := H.2 hc
      refine go_iconst (v := (1 : Int32)) rfl dX10_oneStep_73 ?_
      refine go_goto (tgt := 78) dX10_oneStep_74 (by decide) ?_
      exact go_iret rfl rfl dX10_oneStep_78 ⟨_, rfl, H⟩
set_option maxRecDepth 20000 in
theorem wd_X10_steps_0 {M : mm_T} {a0 : Nat} {x1 x2 : Int32} {P : Int32 → mm_T → Prop} (K0 : mm_k M a0 = (10, 14)) (H : (((x1 < 0) → cs_i mt_X10_counted [pv_r a0, pv_i (-2 : Int32)] M (fun v2 M1 => mm_S fr_C M M1 → (P v2 M1))) ∧ ((¬ x1 < 0) → (((x2 < (1 : Int32)) → cs_i mt_X10_counted [pv_r a0, pv_i (-2 : Int32)] M (fun v5 M4 => mm_S fr_C M M4 → (P v5 M4))) ∧ ((¬ x2 < (1 : Int32)) → (((x2 ≤ (60 : Int32)) → mm_k M (mm_r M a0 9) = (2, 1) ∧ (∀ M8, M8 = mm_pl M (mm_r M a0 9) 0 x1.toInt64 → dw_i mt_X10_steps 36 [some (pv_r a0), some (pv_i x1), some (pv_i x2), some (pv_i (0 : Int32)), some (pv_i (0 : Int32))] [] M8 P)) ∧ ((¬ x2 ≤ (60 : Int32)) → cs_i mt_X10_counted [pv_r a0, pv_i (-2 : Int32)] M (fun v12 M11 => mm_S fr_C M M11 → (P v12 M11))))))))) : dw_i mt_X10_steps 0 [some (pv_r a0), some (pv_i x1), some (pv_i x2), none, none] [] M P := by
  refine go_iload_n dX10_steps_0 rfl ?_
  refine go_if_lt (tgt := 15) dX10_steps_1 (by decide) (fun hc => ?_) (fun hc => ?_)
  · replace H := H.1 hc
    refine go_aload_n dX10_steps_15 rfl ?_
    refine go_bipush (v := (-2 : Int32)) rfl dX10_steps_16 ?_
    refine go_V (av := [pv_i (-2 : Int32)]) (st := []) (ci := 10) ok_X10_counted ⟨by decide, by decide⟩ ml_X10_76 rfl (by decide) (fun v hv => by simp only [List.mem_cons, List.not_mem_nil, or_false] at hv; rcases hv with rfl <;> first | exact pv_1i | exact pv_1r) (Nat.le_of_ble_eq_true rfl) fr_CD (by decide) rfl K0 dX10_steps_18 H (fun r M1 hq hS => ?_)
    obtain ⟨v2, rfl, H⟩ := hq
    have k3 : mm_k M1 a0 = (10, 14) := ks_S K0 (by decide) hS
    show go_W mt_X10_steps fr_D 21 [some (pv_r a0), some (pv_i x1), some (pv_i x2), none, none] [pv_i v2] M1 (qi_ P)
    replace H := H hS
    exact go_iret rfl rfl dX10_steps_21 ⟨_, rfl, H⟩
  · replace H := H.2 hc
    refine go_iload_n dX10_steps_4 rfl ?_
    refine go_iconst (v := (1 : Int32)) rfl dX10_steps_5 ?_
    refine go_icmp_lt (tgt := 15) dX10_steps_6 (by decide) (fun hc => ?_) (fun hc => ?_)
    · replace H := H.1 hc
      refine go_aload_n dX10_steps_15 rfl ?_
      refine go_bipush (v := (-2 : Int32)) rfl dX10_steps_16 ?_
      refine go_V (av := [pv_i (-2 : Int32)]) (st := []) (ci := 10) ok_X10_counted ⟨by decide, by decide⟩ ml_X10_76 rfl (by decide) (fun v hv => by simp only [List.mem_cons, List.not_mem_nil, or_false] at hv; rcases hv with rfl <;> first | exact pv_1i | exact pv_1r) (Nat.le_of_ble_eq_true rfl) fr_CD (by decide) rfl K0 dX10_steps_18 H (fun r M4 hq hS => ?_)
      obtain ⟨v5, rfl, H⟩ := hq
      have k6 : mm_k M4 a0 = (10, 14) := ks_S K0 (by decide) hS
      show go_W mt_X10_steps fr_D 21 [some (pv_r a0), some (pv_i x1), some (pv_i x2), none, none] [pv_i v5] M4 (qi_ P)
      replace H := H hS
      exact go_iret rfl rfl dX10_steps_21 ⟨_, rfl, H⟩
    · replace H := H.2 hc
      refine go_iload_n dX10_steps_9 rfl ?_
      refine go_bipush (v := (60 : Int32)) rfl dX10_steps_10 ?_
      refine go_icmp_le (tgt := 22) dX10_steps_12 (by decide) (fun hc => ?_) (fun hc => ?_)
      · replace H := H.1 hc
        refine go_aload_n dX10_steps_22 rfl ?_
        refine go_getR (k := 9) ⟨by decide, rfl, by decide, Or.inl ⟨_, rfl⟩⟩ K0 fl_X10_68 dX10_steps_23 ?_
        refine go_iload_n dX10_steps_26 rfl ?_
        refine go_i2l dX10_steps_27 ?_
        obtain ⟨k7, H⟩ := H
        refine go_putL (k := 0) ⟨by decide, rfl, by decide, rfl⟩ k7 rfl (Or.inl rfl) fl_X10_244 dX10_steps_28 ?_
        show go_W mt_X10_steps fr_D 31 [some (pv_r a0), some (pv_i x1), some (pv_i x2), none, none] [] (mm_pl M (mm_r M a0 9) 0 x1.toInt64) (qi_ P)
        obtain ⟨M8, hM8⟩ : ∃ M', M' = mm_pl M (mm_r M a0 9) 0 x1.toInt64 := ⟨_, rfl⟩
        have k9 : mm_k M8 a0 = (10, 14) := (by rw [hM8]; exact K0)
        have k10 : mm_k M8 (mm_r M a0 9) = (2, 1) := (by rw [hM8]; exact k7)
        rw [← hM8]
        replace H := H M8 hM8
        refine go_iconst (v := (0 : Int32)) rfl dX10_steps_31 ?_
        refine go_istore_n (by decide) dX10_steps_32 ?_
        show go_W mt_X10_steps fr_D 33 [some (pv_r a0), some (pv_i x1), some (pv_i x2), some (pv_i (0 : Int32)), none] [] M8 (qi_ P)
        refine go_iconst (v := (0 : Int32)) rfl dX10_steps_33 ?_
        refine go_istore (by decide) dX10_steps_34 ?_
        show go_W mt_X10_steps fr_D 36 [some (pv_r a0), some (pv_i x1), some (pv_i x2), some (pv_i (0 : Int32)), some (pv_i (0 : Int32))] [] M8 (qi_ P)
        exact H
      · replace H := H.2 hc
        refine go_aload_n dX10_steps_15 rfl ?_
        refine go_bipush (v := (-2 : Int32)) rfl dX10_steps_16 ?_
        refine go_V (av := [pv_i (-2 : Int32)]) (st := []) (ci := 10) ok_X10_counted ⟨by decide, by decide⟩ ml_X10_76 rfl (by decide) (fun v hv => by simp only [List.mem_cons, List.not_mem_nil, or_false] at hv; rcases hv with rfl <;> first | exact pv_1i | exact pv_1r) (Nat.le_of_ble_eq_true rfl) fr_CD (by decide) rfl K0 dX10_steps_18 H (fun r M11 hq hS => ?_)
        obtain ⟨v12, rfl, H⟩ := hq
        have k13 : mm_k M11 a0 = (10, 14) := ks_S K0 (by decide) hS
        show go_W mt_X10_steps fr_D 21 [some (pv_r a0), some (pv_i x1), some (pv_i x2), none, none] [pv_i v12] M11 (qi_ P)
        replace H := H hS
        exact go_iret rfl rfl dX10_steps_21 ⟨_, rfl, H⟩
set_option maxRecDepth 20000 in
theorem wd_X10_steps_36 {M : mm_T} {a0 : Nat} {x1 x2 x3 x4 : Int32} {P : Int32 → mm_T → Prop} (K0 : mm_k M a0 = (10, 14)) (H : (((x2 ≤ x4) → P x3 M) ∧ ((¬ x2 ≤ x4) → ds_i mt_X10_oneStep [pv_r a0] M (fun v2 M1 => (((v2 = 0) → dw_i mt_X10_steps 36 [some (pv_r a0), some (pv_i x1), some (pv_i x2), some (pv_i x3), some (pv_i (x4 + (1 : Int32)))] [] M1 P) ∧ ((¬ v2 = 0) → dw_i mt_X10_steps 36 [some (pv_r a0), some (pv_i x1), some (pv_i x2), some (pv_i (x3 + (1 : Int32))), some (pv_i (x4 + (1 : Int32)))] [] M1 P)))))) : dw_i mt_X10_steps 36 [some (pv_r a0), some (pv_i x1), some (pv_i x2), some (pv_i x3), some (pv_i x4)] [] M P := by
  refine go_iload dX10_steps_36 rfl ?_
  refine go_iload_n dX10_steps_38 rfl ?_
  refine go_icmp_ge (tgt := 58) dX10_steps_39 (by decide) (fun hc => ?_) (fun hc => ?_)
  · replace H := H.1 hc
    refine go_iload_n dX10_steps_58 rfl ?_
    exact go_iret rfl rfl dX10_steps_59 ⟨_, rfl, H⟩
  · replace H := H.2 hc
    refine go_aload_n dX10_steps_42 rfl ?_
    refine go_V (av := []) (st := []) (ci := 10) ok_X10_oneStep ⟨by decide, by decide⟩ ml_X10_248 rfl (by decide) (fun v hv => absurd hv List.not_mem_nil) (Nat.le_of_ble_eq_true rfl) (fun _ h => h) (by decide) rfl K0 dX10_steps_43 H (fun r M1 hq hS => ?_)
    obtain ⟨v2, rfl, H⟩ := hq
    have k3 : mm_k M1 a0 = (10, 14) := ks_S K0 (by decide) hS
    show go_W mt_X10_steps fr_D 46 [some (pv_r a0), some (pv_i x1), some (pv_i x2), some (pv_i x3), some (pv_i x4)] [pv_i v2] M1 (qi_ P)
    refine go_if_eq (tgt := 52) dX10_steps_46 (by decide) (fun hc => ?_) (fun hc => ?_)
    · replace H := H.1 hc
      refine go_iinc (v := (1 : Int32)) (by decide) rfl rfl dX10_steps_52 ?_
      show go_W mt_X10_steps fr_D 55 [some (pv_r a0), some (pv_i x1), some (pv_i x2), some (pv_i x3), some (pv_i (x4 + (1 : Int32)))] [] M1 (qi_ P)
      refine go_goto (tgt := 36) dX10_steps_55 (by decide) ?_
      exact H
    · replace H := H.2 hc
      refine go_iinc (v := (1 : Int32)) (by decide) rfl rfl dX10_steps_49 ?_
      show go_W mt_X10_steps fr_D 52 [some (pv_r a0), some (pv_i x1), some (pv_i x2), some (pv_i (x3 + (1 : Int32))), some (pv_i x4)] [] M1 (qi_ P)
      refine go_iinc (v := (1 : Int32)) (by decide) rfl rfl dX10_steps_52 ?_
      show go_W mt_X10_steps fr_D 55 [some (pv_r a0), some (pv_i x1), some (pv_i x2), some (pv_i (x3 + (1 : Int32))), some (pv_i (x4 + (1 : Int32)))] [] M1 (qi_ P)
      refine go_goto (tgt := 36) dX10_steps_55 (by decide) ?_
      exact H
