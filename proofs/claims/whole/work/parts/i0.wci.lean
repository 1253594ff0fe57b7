/-! the walk of the store's constructor, by program (wip/whole/walk3i.py) -/
set_option maxRecDepth 20000 in
theorem wc_X10_init_0 {M : mm_T} {a0 : Nat} {P : mm_T → Prop} (K0 : mm_k M a0 = (10, 14)) (H : (mm_n M + 1 ≤ nb_ ∧ mm_t M (mm_n M) + 4 ≤ sb_) ∧ (∀ M1, M1 = mm_w M 0 4 → cs_v mt_X0_init [pv_r (mm_n M)] M1 (fun M4 => ∀ M7, M7 = mm_pr M4 a0 0 (mm_n M) → (mm_n M7 + 1 ≤ nb_ ∧ mm_t M7 (mm_n M7) + 8 ≤ sb_) ∧ (∀ M10, M10 = mm_w M7 8 8 → cs_v mt_X8_init [pv_r (mm_n M7)] M10 (fun M14 => ∀ M18, M18 = mm_pr M14 a0 1 (mm_n M7) → (mm_n M18 + 1 ≤ nb_ ∧ mm_t M18 (mm_n M18) + 2 ≤ sb_) ∧ (∀ M22, M22 = mm_w M18 4 2 → cs_v mt_X4_init [pv_r (mm_n M18), pv_i (400 : Int32)] M22 (fun M27 => ∀ M32, M32 = mm_pr M27 a0 2 (mm_n M18) → (mm_n M32 + 1 ≤ nb_ ∧ mm_t M32 (mm_n M32) + 2 ≤ sb_) ∧ (∀ M37, M37 = mm_w M32 4 2 → cs_v mt_X4_init [pv_r (mm_n M32), pv_i (400 : Int32)] M37 (fun M43 => ∀ M49, M49 = mm_pr M43 a0 3 (mm_n M32) → (mm_n M49 + 1 ≤ nb_ ∧ mm_t M49 (mm_n M49) + 2 ≤ sb_) ∧ (∀ M55, M55 = mm_w M49 4 2 → cs_v mt_X4_init [pv_r (mm_n M49), pv_i (48 : Int32)] M55 (fun M62 => ∀ M69, M69 = mm_pr M62 a0 4 (mm_n M49) → (mm_n M69 + 1 ≤ nb_ ∧ mm_t M69 (mm_n M69) + 6 ≤ sb_) ∧ (∀ M76, M76 = mm_w M69 130 6 → ∀ M84, M84 = mm_pr M76 a0 5 (mm_n M69) → cw_v mt_X10_init 78 [some (pv_r a0), some (pv_i (0 : Int32))] [] M84 P)))))))))))) : cw_v mt_X10_init 0 [some (pv_r a0), none] [] M P := by
  refine go_aload_n dX10_init_0 rfl ?_
  refine go_objInitK (by decide) K0 (Nat.le_of_ble_eq_true rfl) ⟨by decide, by decide⟩ ml_X10_1 im_J_Object_init cd_J_Object_init dX10_init_1 ?_
  refine go_aload_n dX10_init_4 rfl ?_
  obtain ⟨hr, H⟩ := H
  refine go_new (ci := 0) (N := 4) (by decide) rfl kl_X10_7 nw_X0 ni_X0 hr.1 hr.2 dX10_init_5 ?_
  show go_W mt_X10_init fr_C 8 [some (pv_r a0), none] [pv_r (mm_n M), pv_r a0] (mm_w M 0 4) (qv_ P)
  obtain ⟨M1, hM1⟩ : ∃ M', M' = mm_w M 0 4 := ⟨_, rfl⟩
  have k2 : mm_k M1 a0 = (10, 14) := (by rw [hM1]; exact ks_S K0 (by decide) (mm_S_w (fr := fr_C)))
  have k3 : mm_k M1 (mm_n M) = (0, 4) := by rw [hM1]; exact mm_k_w
  rw [← hM1]
  replace H := H M1 hM1
  refine go_dup pv_1r dX10_init_8 ?_
  refine go_InK (av := []) (st := [pv_r (mm_n M), pv_r a0]) (by decide) k3 ok_X0_init ⟨by decide, by decide⟩ ml_X10_9 rfl (by decide) (fun v hv => absurd hv List.not_mem_nil) (Nat.le_of_ble_eq_true rfl) (fun _ h => h) dX10_init_9 H (fun r M4 hq hS => ?_)
  obtain ⟨rfl, H⟩ := hq
  have k5 : mm_k M4 a0 = (10, 14) := ks_S k2 (by decide) hS
  have k6 : mm_k M4 (mm_n M) = (0, 4) := ks_S k3 (by decide) hS
  show go_W mt_X10_init fr_C 12 [some (pv_r a0), none] [pv_r (mm_n M), pv_r a0] M4 (qv_ P)
  refine go_putR (k := 0) ⟨by decide, rfl, by decide, Or.inl ⟨_, rfl⟩⟩ k5 rfl (Or.inr ⟨rfl, rfl⟩) fl_X10_10 dX10_init_12 ?_
  show go_W mt_X10_init fr_C 15 [some (pv_r a0), none] [] (mm_pr M4 a0 0 (mm_n M)) (qv_ P)
  obtain ⟨M7, hM7⟩ : ∃ M', M' = mm_pr M4 a0 0 (mm_n M) := ⟨_, rfl⟩
  have k8 : mm_k M7 a0 = (10, 14) := (by rw [hM7]; exact k5)
  have k9 : mm_k M7 (mm_n M) = (0, 4) := (by rw [hM7]; exact k6)
  rw [← hM7]
  replace H := H M7 hM7
  refine go_aload_n dX10_init_15 rfl ?_
  obtain ⟨hr, H⟩ := H
  refine go_new (ci := 8) (N := 8) (by decide) rfl kl_X10_16 nw_X8 ni_X8 hr.1 hr.2 dX10_init_16 ?_
  show go_W mt_X10_init fr_C 19 [some (pv_r a0), none] [pv_r (mm_n M7), pv_r a0] (mm_w M7 8 8) (qv_ P)
  obtain ⟨M10, hM10⟩ : ∃ M', M' = mm_w M7 8 8 := ⟨_, rfl⟩
  have k11 : mm_k M10 a0 = (10, 14) := (by rw [hM10]; exact ks_S k8 (by decide) (mm_S_w (fr := fr_C)))
  have k12 : mm_k M10 (mm_n M) = (0, 4) := (by rw [hM10]; exact ks_S k9 (by decide) (mm_S_w (fr := fr_C)))
  have k13 : mm_k M10 (mm_n M7) = (8, 8) := by rw [hM10]; exact mm_k_w
  rw [← hM10]
  replace H := H M10 hM10
  refine go_dup pv_1r dX10_init_19 ?_
  refine go_InK (av := []) (st := [pv_r (mm_n M7), pv_r a0]) (by decide) k13 ok_X8_init ⟨by decide, by decide⟩ ml_X10_18 rfl (by decide) (fun v hv => absurd hv List.not_mem_nil) (Nat.le_of_ble_eq_true rfl) (fun _ h => h) dX10_init_20 H (fun r M14 hq hS => ?_)
  obtain ⟨rfl, H⟩ := hq
  have k15 : mm_k M14 a0 = (10, 14) := ks_S k11 (by decide) hS
  have k16 : mm_k M14 (mm_n M) = (0, 4) := ks_S k12 (by decide) hS
  have k17 : mm_k M14 (mm_n M7) = (8, 8) := ks_S k13 (by decide) hS
  show go_W mt_X10_init fr_C 23 [some (pv_r a0), none] [pv_r (mm_n M7), pv_r a0] M14 (qv_ P)
  refine go_putR (k := 1) ⟨by decide, rfl, by decide, Or.inl ⟨_, rfl⟩⟩ k15 rfl (Or.inr ⟨rfl, rfl⟩) fl_X10_19 dX10_init_23 ?_
  show go_W mt_X10_init fr_C 26 [some (pv_r a0), none] [] (mm_pr M14 a0 1 (mm_n M7)) (qv_ P)
  obtain ⟨M18, hM18⟩ : ∃ M', M' = mm_pr M14 a0 1 (mm_n M7) := ⟨_, rfl⟩
  have k19 : mm_k M18 a0 = (10, 14) := (by rw [hM18]; exact k15)
  have k20 : mm_k M18 (mm_n M) = (0, 4) := (by rw [hM18]; exact k16)
  have k21 : mm_k M18 (mm_n M7) = (8, 8) := (by rw [hM18]; exact k17)
  rw [← hM18]
  replace H := H M18 hM18
  refine go_aload_n dX10_init_26 rfl ?_
  obtain ⟨hr, H⟩ := H
  refine go_new (ci := 4) (N := 2) (by decide) rfl kl_X10_23 nw_X4 ni_X4 hr.1 hr.2 dX10_init_27 ?_
  show go_W mt_X10_init fr_C 30 [some (pv_r a0), none] [pv_r (mm_n M18), pv_r a0] (mm_w M18 4 2) (qv_ P)
  obtain ⟨M22, hM22⟩ : ∃ M', M' = mm_w M18 4 2 := ⟨_, rfl⟩
  have k23 : mm_k M22 a0 = (10, 14) := (by rw [hM22]; exact ks_S k19 (by decide) (mm_S_w (fr := fr_C)))
  have k24 : mm_k M22 (mm_n M) = (0, 4) := (by rw [hM22]; exact ks_S k20 (by decide) (mm_S_w (fr := fr_C)))
  have k25 : mm_k M22 (mm_n M7) = (8, 8) := (by rw [hM22]; exact ks_S k21 (by decide) (mm_S_w (fr := fr_C)))
  have k26 : mm_k M22 (mm_n M18) = (4, 2) := by rw [hM22]; exact mm_k_w
  rw [← hM22]
  replace H := H M22 hM22
  refine go_dup pv_1r dX10_init_30 ?_
  refine go_sipush (v := (400 : Int32)) rfl dX10_init_31 ?_
  refine go_InK (av := [pv_i (400 : Int32)]) (st := [pv_r (mm_n M18), pv_r a0]) (by decide) k26 ok_X4_init ⟨by decide, by decide⟩ ml_X10_25 rfl (by decide) (fun v hv => by simp only [List.mem_cons, List.not_mem_nil, or_false] at hv; rcases hv with rfl <;> first | exact pv_1i | exact pv_1r) (Nat.le_of_ble_eq_true rfl) (fun _ h => h) dX10_init_34 H (fun r M27 hq hS => ?_)
  obtain ⟨rfl, H⟩ := hq
  have k28 : mm_k M27 a0 = (10, 14) := ks_S k23 (by decide) hS
  have k29 : mm_k M27 (mm_n M) = (0, 4) := ks_S k24 (by decide) hS
  have k30 : mm_k M27 (mm_n M7) = (8, 8) := ks_S k25 (by decide) hS
  have k31 : mm_k M27 (mm_n M18) = (4, 2) := ks_S k26 (by decide) hS
  show go_W mt_X10_init fr_C 37 [some (pv_r a0), none] [pv_r (mm_n M18), pv_r a0] M27 (qv_ P)
  refine go_putR (k := 2) ⟨by decide, rfl, by decide, Or.inl ⟨_, rfl⟩⟩ k28 rfl (Or.inr ⟨rfl, rfl⟩) fl_X10_28 dX10_init_37 ?_
  show go_W mt_X10_init fr_C 40 [some (pv_r a0), none] [] (mm_pr M27 a0 2 (mm_n M18)) (qv_ P)
  obtain ⟨M32, hM32⟩ : ∃ M', M' = mm_pr M27 a0 2 (mm_n M18) := ⟨_, rfl⟩
  have k33 : mm_k M32 a0 = (10, 14) := (by rw [hM32]; exact k28)
  have k34 : mm_k M32 (mm_n M) = (0, 4) := (by rw [hM32]; exact k29)
  have k35 : mm_k M32 (mm_n M7) = (8, 8) := (by rw [hM32]; exact k30)
  have k36 : mm_k M32 (mm_n M18) = (4, 2) := (by rw [hM32]; exact k31)
  rw [← hM32]
  replace H := H M32 hM32
  refine go_aload_n dX10_init_40 rfl ?_
  obtain ⟨hr, H⟩ := H
  refine go_new (ci := 4) (N := 2) (by decide) rfl kl_X10_23 nw_X4 ni_X4 hr.1 hr.2 dX10_init_41 ?_
  show go_W mt_X10_init fr_C 44 [some (pv_r a0), none] [pv_r (mm_n M32), pv_r a0] (mm_w M32 4 2) (qv_ P)
  obtain ⟨M37, hM37⟩ : ∃ M', M' = mm_w M32 4 2 := ⟨_, rfl⟩
  have k38 : mm_k M37 a0 = (10, 14) := (by rw [hM37]; exact ks_S k33 (by decide) (mm_S_w (fr := fr_C)))
  have k39 : mm_k M37 (mm_n M) = (0, 4) := (by rw [hM37]; exact ks_S k34 (by decide) (mm_S_w (fr := fr_C)))
  have k40 : mm_k M37 (mm_n M7) = (8, 8) := (by rw [hM37]; exact ks_S k35 (by decide) (mm_S_w (fr := fr_C)))
  have k41 : mm_k M37 (mm_n M18) = (4, 2) := (by rw [hM37]; exact ks_S k36 (by decide) (mm_S_w (fr := fr_C)))
  have k42 : mm_k M37 (mm_n M32) = (4, 2) := by rw [hM37]; exact mm_k_w
  rw [← hM37]
  replace H := H M37 hM37
  refine go_dup pv_1r dX10_init_44 ?_
  refine go_sipush (v := (400 : Int32)) rfl dX10_init_45 ?_
  refine go_InK (av := [pv_i (400 : Int32)]) (st := [pv_r (mm_n M32), pv_r a0]) (by decide) k42 ok_X4_init ⟨by decide, by decide⟩ ml_X10_25 rfl (by decide) (fun v hv => by simp only [List.mem_cons, List.not_mem_nil, or_false] at hv; rcases hv with rfl <;> first | exact pv_1i | exact pv_1r) (Nat.le_of_ble_eq_true rfl) (fun _ h => h) dX10_init_48 H (fun r M43 hq hS => ?_)
  obtain ⟨rfl, H⟩ := hq
  have k44 : mm_k M43 a0 = (10, 14) := ks_S k38 (by decide) hS
  have k45 : mm_k M43 (mm_n M) = (0, 4) := ks_S k39 (by decide) hS
  have k46 : mm_k M43 (mm_n M7) = (8, 8) := ks_S k40 (by decide) hS
  have k47 : mm_k M43 (mm_n M18) = (4, 2) := ks_S k41 (by decide) hS
  have k48 : mm_k M43 (mm_n M32) = (4, 2) := ks_S k42 (by decide) hS
  show go_W mt_X10_init fr_C 51 [some (pv_r a0), none] [pv_r (mm_n M32), pv_r a0] M43 (qv_ P)
  refine go_putR (k := 3) ⟨by decide, rfl, by decide, Or.inl ⟨_, rfl⟩⟩ k44 rfl (Or.inr ⟨rfl, rfl⟩) fl_X10_32 dX10_init_51 ?_
  show go_W mt_X10_init fr_C 54 [some (pv_r a0), none] [] (mm_pr M43 a0 3 (mm_n M32)) (qv_ P)
  obtain ⟨M49, hM49⟩ : ∃ M', M' = mm_pr M43 a0 3 (mm_n M32) := ⟨_, rfl⟩
  have k50 : mm_k M49 a0 = (10, 14) := (by rw [hM49]; exact k44)
  have k51 : mm_k M49 (mm_n M) = (0, 4) := (by rw [hM49]; exact k45)
  have k52 : mm_k M49 (mm_n M7) = (8, 8) := (by rw [hM49]; exact k46)
  have k53 : mm_k M49 (mm_n M18) = (4, 2) := (by rw [hM49]; exact k47)
  have k54 : mm_k M49 (mm_n M32) = (4, 2) := (by rw [hM49]; exact k48)
  rw [← hM49]
  replace H := H M49 hM49
  refine go_aload_n dX10_init_54 rfl ?_
  obtain ⟨hr, H⟩ := H
  refine go_new (ci := 4) (N := 2) (by decide) rfl kl_X10_23 nw_X4 ni_X4 hr.1 hr.2 dX10_init_55 ?_
  show go_W mt_X10_init fr_C 58 [some (pv_r a0), none] [pv_r (mm_n M49), pv_r a0] (mm_w M49 4 2) (qv_ P)
  obtain ⟨M55, hM55⟩ : ∃ M', M' = mm_w M49 4 2 := ⟨_, rfl⟩
  have k56 : mm_k M55 a0 = (10, 14) := (by rw [hM55]; exact ks_S k50 (by decide) (mm_S_w (fr := fr_C)))
  have k57 : mm_k M55 (mm_n M) = (0, 4) := (by rw [hM55]; exact ks_S k51 (by decide) (mm_S_w (fr := fr_C)))
  have k58 : mm_k M55 (mm_n M7) = (8, 8) := (by rw [hM55]; exact ks_S k52 (by decide) (mm_S_w (fr := fr_C)))
  have k59 : mm_k M55 (mm_n M18) = (4, 2) := (by rw [hM55]; exact ks_S k53 (by decide) (mm_S_w (fr := fr_C)))
  have k60 : mm_k M55 (mm_n M32) = (4, 2) := (by rw [hM55]; exact ks_S k54 (by decide) (mm_S_w (fr := fr_C)))
  have k61 : mm_k M55 (mm_n M49) = (4, 2) := by rw [hM55]; exact mm_k_w
  rw [← hM55]
  replace H := H M55 hM55
  refine go_dup pv_1r dX10_init_58 ?_
  refine go_bipush (v := (48 : Int32)) rfl dX10_init_59 ?_
  refine go_InK (av := [pv_i (48 : Int32)]) (st := [pv_r (mm_n M49), pv_r a0]) (by decide) k61 ok_X4_init ⟨by decide, by decide⟩ ml_X10_25 rfl (by decide) (fun v hv => by simp only [List.mem_cons, List.not_mem_nil, or_false] at hv; rcases hv with rfl <;> first | exact pv_1i | exact pv_1r) (Nat.le_of_ble_eq_true rfl) (fun _ h => h) dX10_init_61 H (fun r M62 hq hS => ?_)
  obtain ⟨rfl, H⟩ := hq
  have k63 : mm_k M62 a0 = (10, 14) := ks_S k56 (by decide) hS
  have k64 : mm_k M62 (mm_n M) = (0, 4) := ks_S k57 (by decide) hS
  have k65 : mm_k M62 (mm_n M7) = (8, 8) := ks_S k58 (by decide) hS
  have k66 : mm_k M62 (mm_n M18) = (4, 2) := ks_S k59 (by decide) hS
  have k67 : mm_k M62 (mm_n M32) = (4, 2) := ks_S k60 (by decide) hS
  have k68 : mm_k M62 (mm_n M49) = (4, 2) := ks_S k61 (by decide) hS
  show go_W mt_X10_init fr_C 64 [some (pv_r a0), none] [pv_r (mm_n M49), pv_r a0] M62 (qv_ P)
  refine go_putR (k := 4) ⟨by decide, rfl, by decide, Or.inl ⟨_, rfl⟩⟩ k63 rfl (Or.inr ⟨rfl, rfl⟩) fl_X10_35 dX10_init_64 ?_
  show go_W mt_X10_init fr_C 67 [some (pv_r a0), none] [] (mm_pr M62 a0 4 (mm_n M49)) (qv_ P)
  obtain ⟨M69, hM69⟩ : ∃ M', M' = mm_pr M62 a0 4 (mm_n M49) := ⟨_, rfl⟩
  have k70 : mm_k M69 a0 = (10, 14) := (by rw [hM69]; exact k63)
  have k71 : mm_k M69 (mm_n M) = (0, 4) := (by rw [hM69]; exact k64)
  have k72 : mm_k M69 (mm_n M7) = (8, 8) := (by rw [hM69]; exact k65)
  have k73 : mm_k M69 (mm_n M18) = (4, 2) := (by rw [hM69]; exact k66)
  have k74 : mm_k M69 (mm_n M32) = (4, 2) := (by rw [hM69]; exact k67)
  have k75 : mm_k M69 (mm_n M49) = (4, 2) := (by rw [hM69]; exact k68)
  rw [← hM69]
  replace H := H M69 hM69
  refine go_aload_n dX10_init_67 rfl ?_
  refine go_bipush (v := (6 : Int32)) rfl dX10_init_68 ?_
  obtain ⟨hr, H⟩ := H
  refine go_anewA 130 5 ⟨by decide, by decide⟩ (by decide) (by decide) rfl (by decide) kl_X10_38 hr.1 hr.2 dX10_init_70 ?_
  show go_W mt_X10_init fr_C 73 [some (pv_r a0), none] [pv_r (mm_n M69), pv_r a0] (mm_w M69 130 6) (qv_ P)
  obtain ⟨M76, hM76⟩ : ∃ M', M' = mm_w M69 130 6 := ⟨_, rfl⟩
  have k77 : mm_k M76 a0 = (10, 14) := (by rw [hM76]; exact ks_S k70 (by decide) (mm_S_w (fr := fr_C)))
  have k78 : mm_k M76 (mm_n M) = (0, 4) := (by rw [hM76]; exact ks_S k71 (by decide) (mm_S_w (fr := fr_C)))
  have k79 : mm_k M76 (mm_n M7) = (8, 8) := (by rw [hM76]; exact ks_S k72 (by decide) (mm_S_w (fr := fr_C)))
  have k80 : mm_k M76 (mm_n M18) = (4, 2) := (by rw [hM76]; exact ks_S k73 (by decide) (mm_S_w (fr := fr_C)))
  have k81 : mm_k M76 (mm_n M32) = (4, 2) := (by rw [hM76]; exact ks_S k74 (by decide) (mm_S_w (fr := fr_C)))
  have k82 : mm_k M76 (mm_n M49) = (4, 2) := (by rw [hM76]; exact ks_S k75 (by decide) (mm_S_w (fr := fr_C)))
  have k83 : ak_ M76 (mm_n M69) 5 6 := by rw [hM76]; exact ⟨_, mm_k_w, by decide, by decide, by omega, rfl⟩
  rw [← hM76]
  replace H := H M76 hM76
  refine go_putR (k := 5) ⟨by decide, rfl, by decide, Or.inr ⟨_, rfl⟩⟩ k77 rfl (Or.inr ⟨rfl, rfl⟩) fl_X10_40 dX10_init_73 ?_
  show go_W mt_X10_init fr_C 76 [some (pv_r a0), none] [] (mm_pr M76 a0 5 (mm_n M69)) (qv_ P)
  obtain ⟨M84, hM84⟩ : ∃ M', M' = mm_pr M76 a0 5 (mm_n M69) := ⟨_, rfl⟩
  have k85 : mm_k M84 a0 = (10, 14) := (by rw [hM84]; exact k77)
  have k86 : mm_k M84 (mm_n M) = (0, 4) := (by rw [hM84]; exact k78)
  have k87 : mm_k M84 (mm_n M7) = (8, 8) := (by rw [hM84]; exact k79)
  have k88 : mm_k M84 (mm_n M18) = (4, 2) := (by rw [hM84]; exact k80)
  have k89 : mm_k M84 (mm_n M32) = (4, 2) := (by rw [hM84]; exact k81)
  have k90 : mm_k M84 (mm_n M49) = (4, 2) := (by rw [hM84]; exact k82)
  have k91 : ak_ M84 (mm_n M69) 5 6 := (by rw [hM84]; exact k83)
  rw [← hM84]
  replace H := H M84 hM84
  refine go_iconst (v := (0 : Int32)) rfl dX10_init_76 ?_
  refine go_istore_n (by decide) dX10_init_77 ?_
  show go_W mt_X10_init fr_C 78 [some (pv_r a0), some (pv_i (0 : Int32))] [] M84 (qv_ P)
  exact H
set_option maxRecDepth 20000 in
theorem wc_X10_init_78 {M : mm_T} {a0 : Nat} {x1 : Int32} {P : mm_T → Prop} (K0 : mm_k M a0 = (10, 14)) (H : ((((6 : Int32) ≤ x1) → (mm_n M + 1 ≤ nb_ ∧ mm_t M (mm_n M) + 12 ≤ sb_) ∧ (∀ M1, M1 = mm_w M 110 12 → ∀ M4, M4 = mm_pr M1 a0 6 (mm_n M) → (mm_n M4 + 1 ≤ nb_ ∧ mm_t M4 (mm_n M4) + 3 ≤ sb_) ∧ (∀ M7, M7 = mm_w M4 5 3 → cs_v mt_X5_init [pv_r (mm_n M4)] M7 (fun M11 => ∀ M15, M15 = mm_pr M11 a0 7 (mm_n M4) → (mm_n M15 + 1 ≤ nb_ ∧ mm_t M15 (mm_n M15) + 3 ≤ sb_) ∧ (∀ M19, M19 = mm_w M15 1 3 → cs_v mt_X1_init [pv_r (mm_n M15)] M19 (fun M24 => ∀ M29, M29 = mm_pr M24 a0 8 (mm_n M15) → (mm_n M29 + 1 ≤ nb_ ∧ mm_t M29 (mm_n M29) + 1 ≤ sb_) ∧ (∀ M34, M34 = mm_w M29 2 1 → cs_v mt_X2_init [pv_r (mm_n M29)] M34 (fun M40 => ∀ M46, M46 = mm_pr M40 a0 9 (mm_n M29) → P M46)))))))) ∧ ((¬ (6 : Int32) ≤ x1) → (mm_n M + 1 ≤ nb_ ∧ mm_t M (mm_n M) + 5 ≤ sb_) ∧ (∀ M52, M52 = mm_w M 9 5 → cs_v mt_X9_init [pv_r (mm_n M), pv_i x1] M52 (fun M55 => ∃ l58, ak_ M55 (mm_r M a0 5) 5 l58 ∧ (∃ n61, (x1 = nI n61 ∧ n61 < l58) ∧ (∀ M62, M62 = mm_pr M55 (mm_r M a0 5) n61 (mm_n M) → cw_v mt_X10_init 78 [some (pv_r a0), some (pv_i (nI (n61 + 1)))] [] M62 P))))))) : cw_v mt_X10_init 78 [some (pv_r a0), some (pv_i x1)] [] M P := by
  refine go_iload_n dX10_init_78 rfl ?_
  refine go_bipush (v := (6 : Int32)) rfl dX10_init_79 ?_
  refine go_icmp_ge (tgt := 104) dX10_init_81 (by decide) (fun hc => ?_) (fun hc => ?_)
  · replace H := H.1 hc
    refine go_aload_n dX10_init_104 rfl ?_
    refine go_bipush (v := (12 : Int32)) rfl dX10_init_105 ?_
    obtain ⟨hr, H⟩ := H
    refine go_anewA 110 4 ⟨by decide, by decide⟩ (by decide) (by decide) rfl (by decide) kl_X10_45 hr.1 hr.2 dX10_init_107 ?_
    show go_W mt_X10_init fr_C 110 [some (pv_r a0), some (pv_i x1)] [pv_r (mm_n M), pv_r a0] (mm_w M 110 12) (qv_ P)
    obtain ⟨M1, hM1⟩ : ∃ M', M' = mm_w M 110 12 := ⟨_, rfl⟩
    have k2 : mm_k M1 a0 = (10, 14) := (by rw [hM1]; exact ks_S K0 (by decide) (mm_S_w (fr := fr_C)))
    have k3 : ak_ M1 (mm_n M) 4 12 := by rw [hM1]; exact ⟨_, mm_k_w, by decide, by decide, by omega, rfl⟩
    rw [← hM1]
    replace H := H M1 hM1
    refine go_putR (k := 6) ⟨by decide, rfl, by decide, Or.inr ⟨_, rfl⟩⟩ k2 rfl (Or.inr ⟨rfl, rfl⟩) fl_X10_47 dX10_init_110 ?_
    show go_W mt_X10_init fr_C 113 [some (pv_r a0), some (pv_i x1)] [] (mm_pr M1 a0 6 (mm_n M)) (qv_ P)
    obtain ⟨M4, hM4⟩ : ∃ M', M' = mm_pr M1 a0 6 (mm_n M) := ⟨_, rfl⟩
    have k5 : mm_k M4 a0 = (10, 14) := (by rw [hM4]; exact k2)
    have k6 : ak_ M4 (mm_n M) 4 12 := (by rw [hM4]; exact k3)
    rw [← hM4]
    replace H := H M4 hM4
    refine go_aload_n dX10_init_113 rfl ?_
    obtain ⟨hr, H⟩ := H
    refine go_new (ci := 5) (N := 3) (by decide) rfl kl_X10_51 nw_X5 ni_X5 hr.1 hr.2 dX10_init_114 ?_
    show go_W mt_X10_init fr_C 117 [some (pv_r a0), some (pv_i x1)] [pv_r (mm_n M4), pv_r a0] (mm_w M4 5 3) (qv_ P)
    obtain ⟨M7, hM7⟩ : ∃ M', M' = mm_w M4 5 3 := ⟨_, rfl⟩
    have k8 : mm_k M7 a0 = (10, 14) := (by rw [hM7]; exact ks_S k5 (by decide) (mm_S_w (fr := fr_C)))
    have k9 : ak_ M7 (mm_n M) 4 12 := (by rw [hM7]; exact ak_S k6 (mm_S_w (fr := fr_C)))
    have k10 : mm_k M7 (mm_n M4) = (5, 3) := by rw [hM7]; exact mm_k_w
    rw [← hM7]
    replace H := H M7 hM7
    refine go_dup pv_1r dX10_init_117 ?_
    refine go_InN (av := []) (st := [pv_r (mm_n M4), pv_r a0]) (by decide) k10 ok_X5_init ⟨by decide, by decide⟩ (fun _ _ g => g.2.2.2.2.2.2.2.1) rfl (by decide) (fun v hv => absurd hv List.not_mem_nil) (Nat.le_of_ble_eq_true rfl) (fun _ h => h) dX10_init_118 H (fun r M11 hq hS => ?_)
    obtain ⟨rfl, H⟩ := hq
    have k12 : mm_k M11 a0 = (10, 14) := ks_S k8 (by decide) hS
    have k13 : mm_k M11 (mm_n M4) = (5, 3) := ks_S k10 (by decide) hS
    have k14 : ak_ M11 (mm_n M) 4 12 := ak_S k9 hS
    show go_W mt_X10_init fr_C 121 [some (pv_r a0), some (pv_i x1)] [pv_r (mm_n M4), pv_r a0] M11 (qv_ P)
    refine go_putR (k := 7) ⟨by decide, rfl, by decide, Or.inl ⟨_, rfl⟩⟩ k12 rfl (Or.inr ⟨rfl, rfl⟩) fl_X10_54 dX10_init_121 ?_
    show go_W mt_X10_init fr_C 124 [some (pv_r a0), some (pv_i x1)] [] (mm_pr M11 a0 7 (mm_n M4)) (qv_ P)
    obtain ⟨M15, hM15⟩ : ∃ M', M' = mm_pr M11 a0 7 (mm_n M4) := ⟨_, rfl⟩
    have k16 : mm_k M15 a0 = (10, 14) := (by rw [hM15]; exact k12)
    have k17 : mm_k M15 (mm_n M4) = (5, 3) := (by rw [hM15]; exact k13)
    have k18 : ak_ M15 (mm_n M) 4 12 := (by rw [hM15]; exact k14)
    rw [← hM15]
    replace H := H M15 hM15
    refine go_aload_n dX10_init_124 rfl ?_
    obtain ⟨hr, H⟩ := H
    refine go_new (ci := 1) (N := 3) (by decide) rfl kl_X10_58 nw_X1 ni_X1 hr.1 hr.2 dX10_init_125 ?_
    show go_W mt_X10_init fr_C 128 [some (pv_r a0), some (pv_i x1)] [pv_r (mm_n M15), pv_r a0] (mm_w M15 1 3) (qv_ P)
    obtain ⟨M19, hM19⟩ : ∃ M', M' = mm_w M15 1 3 := ⟨_, rfl⟩
    have k20 : mm_k M19 a0 = (10, 14) := (by rw [hM19]; exact ks_S k16 (by decide) (mm_S_w (fr := fr_C)))
    have k21 : mm_k M19 (mm_n M4) = (5, 3) := (by rw [hM19]; exact ks_S k17 (by decide) (mm_S_w (fr := fr_C)))
    have k22 : ak_ M19 (mm_n M) 4 12 := (by rw [hM19]; exact ak_S k18 (mm_S_w (fr := fr_C)))
    have k23 : mm_k M19 (mm_n M15) = (1, 3) := by rw [hM19]; exact mm_k_w
    rw [← hM19]
    replace H := H M19 hM19
    refine go_dup pv_1r dX10_init_128 ?_
    refine go_InN (av := []) (st := [pv_r (mm_n M15), pv_r a0]) (by decide) k23 ok_X1_init ⟨by decide, by decide⟩ (fun _ _ g => g.2.2.2.2.2.2.2.2.1) rfl (by decide) (fun v hv => absurd hv List.not_mem_nil) (Nat.le_of_ble_eq_true rfl) (fun _ h => h) dX10_init_129 H (fun r M24 hq hS => ?_)
    obtain ⟨rfl, H⟩ := hq
    have k25 : mm_k M24 a0 = (10, 14) := ks_S k20 (by decide) hS
    have k26 : mm_k M24 (mm_n M4) = (5, 3) := ks_S k21 (by decide) hS
    have k27 : mm_k M24 (mm_n M15) = (1, 3) := ks_S k23 (by decide) hS
    have k28 : ak_ M24 (mm_n M) 4 12 := ak_S k22 hS
    show go_W mt_X10_init fr_C 132 [some (pv_r a0), some (pv_i x1)] [pv_r (mm_n M15), pv_r a0] M24 (qv_ P)
    refine go_putR (k := 8) ⟨by decide, rfl, by decide, Or.inl ⟨_, rfl⟩⟩ k25 rfl (Or.inr ⟨rfl, rfl⟩) fl_X10_61 dX10_init_132 ?_
    show go_W mt_X10_init fr_C 135 [some (pv_r a0), some (pv_i x1)] [] (mm_pr M24 a0 8 (mm_n M15)) (qv_ P)
    obtain ⟨M29, hM29⟩ : ∃ M', M' = mm_pr M24 a0 8 (mm_n M15) := ⟨_, rfl⟩
    have k30 : mm_k M29 a0 = (10, 14) := (by rw [hM29]; exact k25)
    have k31 : mm_k M29 (mm_n M4) = (5, 3) := (by rw [hM29]; exact k26)
    have k32 : mm_k M29 (mm_n M15) = (1, 3) := (by rw [hM29]; exact k27)
    have k33 : ak_ M29 (mm_n M) 4 12 := (by rw [hM29]; exact k28)
    rw [← hM29]
    replace H := H M29 hM29
    refine go_aload_n dX10_init_135 rfl ?_
    obtain ⟨hr, H⟩ := H
    refine go_new (ci := 2) (N := 1) (by decide) rfl kl_X10_65 nw_X2 ni_X2 hr.1 hr.2 dX10_init_136 ?_
    show go_W mt_X10_init fr_C 139 [some (pv_r a0), some (pv_i x1)] [pv_r (mm_n M29), pv_r a0] (mm_w M29 2 1) (qv_ P)
    obtain ⟨M34, hM34⟩ : ∃ M', M' = mm_w M29 2 1 := ⟨_, rfl⟩
    have k35 : mm_k M34 a0 = (10, 14) := (by rw [hM34]; exact ks_S k30 (by decide) (mm_S_w (fr := fr_C)))
    have k36 : mm_k M34 (mm_n M4) = (5, 3) := (by rw [hM34]; exact ks_S k31 (by decide) (mm_S_w (fr := fr_C)))
    have k37 : mm_k M34 (mm_n M15) = (1, 3) := (by rw [hM34]; exact ks_S k32 (by decide) (mm_S_w (fr := fr_C)))
    have k38 : ak_ M34 (mm_n M) 4 12 := (by rw [hM34]; exact ak_S k33 (mm_S_w (fr := fr_C)))
    have k39 : mm_k M34 (mm_n M29) = (2, 1) := by rw [hM34]; exact mm_k_w
    rw [← hM34]
    replace H := H M34 hM34
    refine go_dup pv_1r dX10_init_139 ?_
    refine go_InN (av := []) (st := [pv_r (mm_n M29), pv_r a0]) (by decide) k39 ok_X2_init ⟨by decide, by decide⟩ (fun _ _ g => g.2.2.2.2.2.2.2.2.2.1) rfl (by decide) (fun v hv => absurd hv List.not_mem_nil) (Nat.le_of_ble_eq_true rfl) (fun _ h => h) dX10_init_140 H (fun r M40 hq hS => ?_)
    obtain ⟨rfl, H⟩ := hq
    have k41 : mm_k M40 a0 = (10, 14) := ks_S k35 (by decide) hS
    have k42 : mm_k M40 (mm_n M4) = (5, 3) := ks_S k36 (by decide) hS
    have k43 : mm_k M40 (mm_n M15) = (1, 3) := ks_S k37 (by decide) hS
    have k44 : mm_k M40 (mm_n M29) = (2, 1) := ks_S k39 (by decide) hS
    have k45 : ak_ M40 (mm_n M) 4 12 := ak_S k38 hS
    show go_W mt_X10_init fr_C 143 [some (pv_r a0), some (pv_i x1)] [pv_r (mm_n M29), pv_r a0] M40 (qv_ P)
    refine go_putR (k := 9) ⟨by decide, rfl, by decide, Or.inl ⟨_, rfl⟩⟩ k41 rfl (Or.inr ⟨rfl, rfl⟩) fl_X10_68 dX10_init_143 ?_
    show go_W mt_X10_init fr_C 146 [some (pv_r a0), some (pv_i x1)] [] (mm_pr M40 a0 9 (mm_n M29)) (qv_ P)
    obtain ⟨M46, hM46⟩ : ∃ M', M' = mm_pr M40 a0 9 (mm_n M29) := ⟨_, rfl⟩
    have k47 : mm_k M46 a0 = (10, 14) := (by rw [hM46]; exact k41)
    have k48 : mm_k M46 (mm_n M4) = (5, 3) := (by rw [hM46]; exact k42)
    have k49 : mm_k M46 (mm_n M15) = (1, 3) := (by rw [hM46]; exact k43)
    have k50 : mm_k M46 (mm_n M29) = (2, 1) := (by rw [hM46]; exact k44)
    have k51 : ak_ M46 (mm_n M) 4 12 := (by rw [hM46]; exact k45)
    rw [← hM46]
    replace H := H M46 hM46
    exact go_vret rfl dX10_init_146 ⟨rfl, H⟩
  · replace H := H.2 hc
    refine go_aload_n dX10_init_84 rfl ?_
    refine go_getR (k := 5) ⟨by decide, rfl, by decide, Or.inr ⟨_, rfl⟩⟩ K0 fl_X10_40 dX10_init_85 ?_
    refine go_iload_n dX10_init_88 rfl ?_
    obtain ⟨hr, H⟩ := H
    refine go_new (ci := 9) (N := 5) (by decide) rfl kl_X10_38 nw_X9 ni_X9 hr.1 hr.2 dX10_init_89 ?_
    show go_W mt_X10_init fr_C 92 [some (pv_r a0), some (pv_i x1)] [pv_r (mm_n M), pv_i x1, pv_r (mm_r M a0 5)] (mm_w M 9 5) (qv_ P)
    obtain ⟨M52, hM52⟩ : ∃ M', M' = mm_w M 9 5 := ⟨_, rfl⟩
    have k53 : mm_k M52 a0 = (10, 14) := (by rw [hM52]; exact ks_S K0 (by decide) (mm_S_w (fr := fr_C)))
    have k54 : mm_k M52 (mm_n M) = (9, 5) := by rw [hM52]; exact mm_k_w
    rw [← hM52]
    replace H := H M52 hM52
    refine go_dup pv_1r dX10_init_92 ?_
    refine go_iload_n dX10_init_93 rfl ?_
    refine go_InK (av := [pv_i x1]) (st := [pv_r (mm_n M), pv_i x1, pv_r (mm_r M a0 5)]) (by decide) k54 ok_X9_init ⟨by decide, by decide⟩ ml_X10_44 rfl (by decide) (fun v hv => by simp only [List.mem_cons, List.not_mem_nil, or_false] at hv; rcases hv with rfl <;> first | exact pv_1i | exact pv_1r) (Nat.le_of_ble_eq_true rfl) (fun _ h => h) dX10_init_94 H (fun r M55 hq hS => ?_)
    obtain ⟨rfl, H⟩ := hq
    have k56 : mm_k M55 a0 = (10, 14) := ks_S k53 (by decide) hS
    have k57 : mm_k M55 (mm_n M) = (9, 5) := ks_S k54 (by decide) hS
    show go_W mt_X10_init fr_C 97 [some (pv_r a0), some (pv_i x1)] [pv_r (mm_n M), pv_i x1, pv_r (mm_r M a0 5)] M55 (qv_ P)
    obtain ⟨l58, k59, H⟩ := H
    obtain ⟨n61, ⟨hn61, hn61b⟩, H⟩ := H
    refine go_aastA (j := n61) k59 (by decide) (Or.inr k57) hn61 hn61b dX10_init_97 ?_
    show go_W mt_X10_init fr_C 98 [some (pv_r a0), some (pv_i x1)] [] (mm_pr M55 (mm_r M a0 5) n61 (mm_n M)) (qv_ P)
    obtain ⟨M62, hM62⟩ : ∃ M', M' = mm_pr M55 (mm_r M a0 5) n61 (mm_n M) := ⟨_, rfl⟩
    have k63 : mm_k M62 a0 = (10, 14) := (by rw [hM62]; exact k56)
    have k64 : mm_k M62 (mm_n M) = (9, 5) := (by rw [hM62]; exact k57)
    have k65 : ak_ M62 (mm_r M a0 5) 5 l58 := (by rw [hM62]; exact k59)
    rw [← hM62]
    replace H := H M62 hM62
    refine go_iincN (n := n61) (k := 1) hn61 (by decide) rfl rfl dX10_init_98 ?_
    show go_W mt_X10_init fr_C 101 [some (pv_r a0), some (pv_i (nI (n61 + 1)))] [] M62 (qv_ P)
    refine go_goto (tgt := 78) dX10_init_101 (by decide) ?_
    exact H
