/-! the walk of the reference's constructor up to its arrays, by program (wip/whole/walk3r.py) -/
set_option maxRecDepth 20000 in
theorem wi_X11_init_0 {M : mm_T} {a0 : Nat} {P : mm_T → Prop} (K0 : mm_k M a0 = (11, 22)) (H : (mm_n M + 1 ≤ nb_ ∧ mm_t M (mm_n M) + 6200 ≤ sb_) ∧ (∀ M1, M1 = mm_w M 31 6200 → ∀ M4, M4 = mm_pr M1 a0 0 (mm_n M) → (mm_n M4 + 1 ≤ nb_ ∧ mm_t M4 (mm_n M4) + 6200 ≤ sb_) ∧ (∀ M6, M6 = mm_w M4 31 6200 → ∀ M9, M9 = mm_pr M6 a0 1 (mm_n M4) → (mm_n M9 + 1 ≤ nb_ ∧ mm_t M9 (mm_n M9) + 10000 ≤ sb_) ∧ (∀ M11, M11 = mm_w M9 31 10000 → ∀ M14, M14 = mm_pr M11 a0 2 (mm_n M9) → (mm_n M14 + 1 ≤ nb_ ∧ mm_t M14 (mm_n M14) + 400 ≤ sb_) ∧ (∀ M16, M16 = mm_w M14 31 400 → ∀ M19, M19 = mm_pr M16 a0 3 (mm_n M14) → (mm_n M19 + 1 ≤ nb_ ∧ mm_t M19 (mm_n M19) + 8000 ≤ sb_) ∧ (∀ M21, M21 = mm_w M19 31 8000 → ∀ M24, M24 = mm_pr M21 a0 4 (mm_n M19) → (mm_n M24 + 1 ≤ nb_ ∧ mm_t M24 (mm_n M24) + 384 ≤ sb_) ∧ (∀ M26, M26 = mm_w M24 31 384 → ∀ M29, M29 = mm_pr M26 a0 5 (mm_n M24) → ∀ M31, M31 = mm_pi M29 a0 6 (0 : Int32) → ∀ M33, M33 = mm_pi M31 a0 7 (0 : Int32) → ∀ M35, M35 = mm_pi M33 a0 8 (0 : Int32) → ∀ M37, M37 = mm_pi M35 a0 9 (0 : Int32) → ∀ M39, M39 = mm_pi M37 a0 10 (0 : Int32) → ∀ M41, M41 = mm_pi M39 a0 11 (0 : Int32) → (mm_n M41 + 1 ≤ nb_ ∧ mm_t M41 (mm_n M41) + 400 ≤ sb_) ∧ (∀ M43, M43 = mm_w M41 51 400 → ∀ M46, M46 = mm_pr M43 a0 12 (mm_n M41) → (mm_n M46 + 1 ≤ nb_ ∧ mm_t M46 (mm_n M46) + 400 ≤ sb_) ∧ (∀ M48, M48 = mm_w M46 51 400 → ∀ M51, M51 = mm_pr M48 a0 13 (mm_n M46) → ∀ M53, M53 = mm_pl M51 a0 14 (0 : Int64) → (mm_n M53 + 1 ≤ nb_ ∧ mm_t M53 (mm_n M53) + 6 ≤ sb_) ∧ (∀ M55, M55 = mm_w M53 31 6 → ∀ M58, M58 = mm_pr M55 a0 15 (mm_n M53) → (mm_n M58 + 1 ≤ nb_ ∧ mm_t M58 (mm_n M58) + 6 ≤ sb_) ∧ (∀ M60, M60 = mm_w M58 31 6 → ∀ M63, M63 = mm_pr M60 a0 16 (mm_n M58) → ∀ M65, M65 = mm_pi M63 a0 17 (-1 : Int32) → ∀ M67, M67 = mm_pi M65 a0 18 (0 : Int32) → ∀ M69, M69 = mm_pi M67 a0 19 (0 : Int32) → (mm_n M69 + 1 ≤ nb_ ∧ mm_t M69 (mm_n M69) + 400 ≤ sb_) ∧ (∀ M71, M71 = mm_w M69 51 400 → ∀ M74, M74 = mm_pr M71 a0 20 (mm_n M69) → (mm_n M74 + 1 ≤ nb_ ∧ mm_t M74 (mm_n M74) + 400 ≤ sb_) ∧ (∀ M76, M76 = mm_w M74 51 400 → ∀ M79, M79 = mm_pr M76 a0 21 (mm_n M74) → go_W mt_X11_init fr_R 160 [some (pv_r a0), none] [] M79 (qv_ P)))))))))))))) : go_W mt_X11_init fr_R 0 [some (pv_r a0), none] [] M (qv_ P) := by
  refine go_aload_n dX11_init_0 rfl ?_
  refine go_objInitK (by decide) K0 (Nat.le_of_ble_eq_true rfl) ⟨by decide, by decide⟩ ml_X11_1 im_J_Object_init cd_J_Object_init dX11_init_1 ?_
  refine go_aload_n dX11_init_4 rfl ?_
  refine go_sipush (v := (6200 : Int32)) rfl dX11_init_5 ?_
  obtain ⟨hr, H⟩ := H
  refine go_newIA 31 ⟨by decide, by decide⟩ rfl (by decide) ac_int hr.1 hr.2 dX11_init_8 ?_
  show go_W mt_X11_init fr_R 10 [some (pv_r a0), none] [pv_r (mm_n M), pv_r a0] (mm_w M 31 6200) (qv_ P)
  obtain ⟨M1, hM1⟩ : ∃ M', M' = mm_w M 31 6200 := ⟨_, rfl⟩
  have k2 : mm_k M1 a0 = (11, 22) := (by rw [hM1]; exact ks_S K0 (by decide) (mm_S_w (fr := fr_R)))
  rw [← hM1]
  replace H := H M1 hM1
  refine go_putR (k := 0) ⟨by decide, rfl, by decide, Or.inr ⟨_, rfl⟩⟩ k2 rfl (Or.inr ⟨rfl, rfl⟩) fl_X11_7 dX11_init_10 ?_
  show go_W mt_X11_init fr_R 13 [some (pv_r a0), none] [] (mm_pr M1 a0 0 (mm_n M)) (qv_ P)
  obtain ⟨M4, hM4⟩ : ∃ M', M' = mm_pr M1 a0 0 (mm_n M) := ⟨_, rfl⟩
  have k5 : mm_k M4 a0 = (11, 22) := (by rw [hM4]; exact k2)
  rw [← hM4]
  replace H := H M4 hM4
  refine go_aload_n dX11_init_13 rfl ?_
  refine go_sipush (v := (6200 : Int32)) rfl dX11_init_14 ?_
  obtain ⟨hr, H⟩ := H
  refine go_newIA 31 ⟨by decide, by decide⟩ rfl (by decide) ac_int hr.1 hr.2 dX11_init_17 ?_
  show go_W mt_X11_init fr_R 19 [some (pv_r a0), none] [pv_r (mm_n M4), pv_r a0] (mm_w M4 31 6200) (qv_ P)
  obtain ⟨M6, hM6⟩ : ∃ M', M' = mm_w M4 31 6200 := ⟨_, rfl⟩
  have k7 : mm_k M6 a0 = (11, 22) := (by rw [hM6]; exact ks_S k5 (by decide) (mm_S_w (fr := fr_R)))
  rw [← hM6]
  replace H := H M6 hM6
  refine go_putR (k := 1) ⟨by decide, rfl, by decide, Or.inr ⟨_, rfl⟩⟩ k7 rfl (Or.inr ⟨rfl, rfl⟩) fl_X11_13 dX11_init_19 ?_
  show go_W mt_X11_init fr_R 22 [some (pv_r a0), none] [] (mm_pr M6 a0 1 (mm_n M4)) (qv_ P)
  obtain ⟨M9, hM9⟩ : ∃ M', M' = mm_pr M6 a0 1 (mm_n M4) := ⟨_, rfl⟩
  have k10 : mm_k M9 a0 = (11, 22) := (by rw [hM9]; exact k7)
  rw [← hM9]
  replace H := H M9 hM9
  refine go_aload_n dX11_init_22 rfl ?_
  refine go_sipush (v := (10000 : Int32)) rfl dX11_init_23 ?_
  obtain ⟨hr, H⟩ := H
  refine go_newIA 31 ⟨by decide, by decide⟩ rfl (by decide) ac_int hr.1 hr.2 dX11_init_26 ?_
  show go_W mt_X11_init fr_R 28 [some (pv_r a0), none] [pv_r (mm_n M9), pv_r a0] (mm_w M9 31 10000) (qv_ P)
  obtain ⟨M11, hM11⟩ : ∃ M', M' = mm_w M9 31 10000 := ⟨_, rfl⟩
  have k12 : mm_k M11 a0 = (11, 22) := (by rw [hM11]; exact ks_S k10 (by decide) (mm_S_w (fr := fr_R)))
  rw [← hM11]
  replace H := H M11 hM11
  refine go_putR (k := 2) ⟨by decide, rfl, by decide, Or.inr ⟨_, rfl⟩⟩ k12 rfl (Or.inr ⟨rfl, rfl⟩) fl_X11_16 dX11_init_28 ?_
  show go_W mt_X11_init fr_R 31 [some (pv_r a0), none] [] (mm_pr M11 a0 2 (mm_n M9)) (qv_ P)
  obtain ⟨M14, hM14⟩ : ∃ M', M' = mm_pr M11 a0 2 (mm_n M9) := ⟨_, rfl⟩
  have k15 : mm_k M14 a0 = (11, 22) := (by rw [hM14]; exact k12)
  rw [← hM14]
  replace H := H M14 hM14
  refine go_aload_n dX11_init_31 rfl ?_
  refine go_sipush (v := (400 : Int32)) rfl dX11_init_32 ?_
  obtain ⟨hr, H⟩ := H
  refine go_newIA 31 ⟨by decide, by decide⟩ rfl (by decide) ac_int hr.1 hr.2 dX11_init_35 ?_
  show go_W mt_X11_init fr_R 37 [some (pv_r a0), none] [pv_r (mm_n M14), pv_r a0] (mm_w M14 31 400) (qv_ P)
  obtain ⟨M16, hM16⟩ : ∃ M', M' = mm_w M14 31 400 := ⟨_, rfl⟩
  have k17 : mm_k M16 a0 = (11, 22) := (by rw [hM16]; exact ks_S k15 (by decide) (mm_S_w (fr := fr_R)))
  rw [← hM16]
  replace H := H M16 hM16
  refine go_putR (k := 3) ⟨by decide, rfl, by decide, Or.inr ⟨_, rfl⟩⟩ k17 rfl (Or.inr ⟨rfl, rfl⟩) fl_X11_19 dX11_init_37 ?_
  show go_W mt_X11_init fr_R 40 [some (pv_r a0), none] [] (mm_pr M16 a0 3 (mm_n M14)) (qv_ P)
  obtain ⟨M19, hM19⟩ : ∃ M', M' = mm_pr M16 a0 3 (mm_n M14) := ⟨_, rfl⟩
  have k20 : mm_k M19 a0 = (11, 22) := (by rw [hM19]; exact k17)
  rw [← hM19]
  replace H := H M19 hM19
  refine go_aload_n dX11_init_40 rfl ?_
  refine go_sipush (v := (8000 : Int32)) rfl dX11_init_41 ?_
  obtain ⟨hr, H⟩ := H
  refine go_newIA 31 ⟨by decide, by decide⟩ rfl (by decide) ac_int hr.1 hr.2 dX11_init_44 ?_
  show go_W mt_X11_init fr_R 46 [some (pv_r a0), none] [pv_r (mm_n M19), pv_r a0] (mm_w M19 31 8000) (qv_ P)
  obtain ⟨M21, hM21⟩ : ∃ M', M' = mm_w M19 31 8000 := ⟨_, rfl⟩
  have k22 : mm_k M21 a0 = (11, 22) := (by rw [hM21]; exact ks_S k20 (by decide) (mm_S_w (fr := fr_R)))
  rw [← hM21]
  replace H := H M21 hM21
  refine go_putR (k := 4) ⟨by decide, rfl, by decide, Or.inr ⟨_, rfl⟩⟩ k22 rfl (Or.inr ⟨rfl, rfl⟩) fl_X11_22 dX11_init_46 ?_
  show go_W mt_X11_init fr_R 49 [some (pv_r a0), none] [] (mm_pr M21 a0 4 (mm_n M19)) (qv_ P)
  obtain ⟨M24, hM24⟩ : ∃ M', M' = mm_pr M21 a0 4 (mm_n M19) := ⟨_, rfl⟩
  have k25 : mm_k M24 a0 = (11, 22) := (by rw [hM24]; exact k22)
  rw [← hM24]
  replace H := H M24 hM24
  refine go_aload_n dX11_init_49 rfl ?_
  refine go_sipush (v := (384 : Int32)) rfl dX11_init_50 ?_
  obtain ⟨hr, H⟩ := H
  refine go_newIA 31 ⟨by decide, by decide⟩ rfl (by decide) ac_int hr.1 hr.2 dX11_init_53 ?_
  show go_W mt_X11_init fr_R 55 [some (pv_r a0), none] [pv_r (mm_n M24), pv_r a0] (mm_w M24 31 384) (qv_ P)
  obtain ⟨M26, hM26⟩ : ∃ M', M' = mm_w M24 31 384 := ⟨_, rfl⟩
  have k27 : mm_k M26 a0 = (11, 22) := (by rw [hM26]; exact ks_S k25 (by decide) (mm_S_w (fr := fr_R)))
  rw [← hM26]
  replace H := H M26 hM26
  refine go_putR (k := 5) ⟨by decide, rfl, by decide, Or.inr ⟨_, rfl⟩⟩ k27 rfl (Or.inr ⟨rfl, rfl⟩) fl_X11_25 dX11_init_55 ?_
  show go_W mt_X11_init fr_R 58 [some (pv_r a0), none] [] (mm_pr M26 a0 5 (mm_n M24)) (qv_ P)
  obtain ⟨M29, hM29⟩ : ∃ M', M' = mm_pr M26 a0 5 (mm_n M24) := ⟨_, rfl⟩
  have k30 : mm_k M29 a0 = (11, 22) := (by rw [hM29]; exact k27)
  rw [← hM29]
  replace H := H M29 hM29
  refine go_aload_n dX11_init_58 rfl ?_
  refine go_iconst (v := (0 : Int32)) rfl dX11_init_59 ?_
  refine go_putI (k := 6) ⟨by decide, rfl, by decide, rfl⟩ k30 rfl (Or.inr ⟨rfl, rfl⟩) fl_X11_28 dX11_init_60 ?_
  show go_W mt_X11_init fr_R 63 [some (pv_r a0), none] [] (mm_pi M29 a0 6 (0 : Int32)) (qv_ P)
  obtain ⟨M31, hM31⟩ : ∃ M', M' = mm_pi M29 a0 6 (0 : Int32) := ⟨_, rfl⟩
  have k32 : mm_k M31 a0 = (11, 22) := (by rw [hM31]; exact k30)
  rw [← hM31]
  replace H := H M31 hM31
  refine go_aload_n dX11_init_63 rfl ?_
  refine go_iconst (v := (0 : Int32)) rfl dX11_init_64 ?_
  refine go_putI (k := 7) ⟨by decide, rfl, by decide, rfl⟩ k32 rfl (Or.inr ⟨rfl, rfl⟩) fl_X11_32 dX11_init_65 ?_
  show go_W mt_X11_init fr_R 68 [some (pv_r a0), none] [] (mm_pi M31 a0 7 (0 : Int32)) (qv_ P)
  obtain ⟨M33, hM33⟩ : ∃ M', M' = mm_pi M31 a0 7 (0 : Int32) := ⟨_, rfl⟩
  have k34 : mm_k M33 a0 = (11, 22) := (by rw [hM33]; exact k32)
  rw [← hM33]
  replace H := H M33 hM33
  refine go_aload_n dX11_init_68 rfl ?_
  refine go_iconst (v := (0 : Int32)) rfl dX11_init_69 ?_
  refine go_putZ (k := 8) (Or.inl rfl) ⟨by decide, rfl, by decide, rfl⟩ k34 rfl (Or.inr ⟨rfl, rfl⟩) fl_X11_35 dX11_init_70 ?_
  show go_W mt_X11_init fr_R 73 [some (pv_r a0), none] [] (mm_pi M33 a0 8 (0 : Int32)) (qv_ P)
  obtain ⟨M35, hM35⟩ : ∃ M', M' = mm_pi M33 a0 8 (0 : Int32) := ⟨_, rfl⟩
  have k36 : mm_k M35 a0 = (11, 22) := (by rw [hM35]; exact k34)
  rw [← hM35]
  replace H := H M35 hM35
  refine go_aload_n dX11_init_73 rfl ?_
  refine go_iconst (v := (0 : Int32)) rfl dX11_init_74 ?_
  refine go_putI (k := 9) ⟨by decide, rfl, by decide, rfl⟩ k36 rfl (Or.inr ⟨rfl, rfl⟩) fl_X11_39 dX11_init_75 ?_
  show go_W mt_X11_init fr_R 78 [some (pv_r a0), none] [] (mm_pi M35 a0 9 (0 : Int32)) (qv_ P)
  obtain ⟨M37, hM37⟩ : ∃ M', M' = mm_pi M35 a0 9 (0 : Int32) := ⟨_, rfl⟩
  have k38 : mm_k M37 a0 = (11, 22) := (by rw [hM37]; exact k36)
  rw [← hM37]
  replace H := H M37 hM37
  refine go_aload_n dX11_init_78 rfl ?_
  refine go_iconst (v := (0 : Int32)) rfl dX11_init_79 ?_
  refine go_putI (k := 10) ⟨by decide, rfl, by decide, rfl⟩ k38 rfl (Or.inr ⟨rfl, rfl⟩) fl_X11_42 dX11_init_80 ?_
  show go_W mt_X11_init fr_R 83 [some (pv_r a0), none] [] (mm_pi M37 a0 10 (0 : Int32)) (qv_ P)
  obtain ⟨M39, hM39⟩ : ∃ M', M' = mm_pi M37 a0 10 (0 : Int32) := ⟨_, rfl⟩
  have k40 : mm_k M39 a0 = (11, 22) := (by rw [hM39]; exact k38)
  rw [← hM39]
  replace H := H M39 hM39
  refine go_aload_n dX11_init_83 rfl ?_
  refine go_iconst (v := (0 : Int32)) rfl dX11_init_84 ?_
  refine go_putI (k := 11) ⟨by decide, rfl, by decide, rfl⟩ k40 rfl (Or.inr ⟨rfl, rfl⟩) fl_X11_45 dX11_init_85 ?_
  show go_W mt_X11_init fr_R 88 [some (pv_r a0), none] [] (mm_pi M39 a0 11 (0 : Int32)) (qv_ P)
  obtain ⟨M41, hM41⟩ : ∃ M', M' = mm_pi M39 a0 11 (0 : Int32) := ⟨_, rfl⟩
  have k42 : mm_k M41 a0 = (11, 22) := (by rw [hM41]; exact k40)
  rw [← hM41]
  replace H := H M41 hM41
  refine go_aload_n dX11_init_88 rfl ?_
  refine go_sipush (v := (400 : Int32)) rfl dX11_init_89 ?_
  obtain ⟨hr, H⟩ := H
  refine go_newZA 51 ⟨by decide, by decide⟩ rfl (by decide) ac_boolean hr.1 hr.2 dX11_init_92 ?_
  show go_W mt_X11_init fr_R 94 [some (pv_r a0), none] [pv_r (mm_n M41), pv_r a0] (mm_w M41 51 400) (qv_ P)
  obtain ⟨M43, hM43⟩ : ∃ M', M' = mm_w M41 51 400 := ⟨_, rfl⟩
  have k44 : mm_k M43 a0 = (11, 22) := (by rw [hM43]; exact ks_S k42 (by decide) (mm_S_w (fr := fr_R)))
  rw [← hM43]
  replace H := H M43 hM43
  refine go_putR (k := 12) ⟨by decide, rfl, by decide, Or.inr ⟨_, rfl⟩⟩ k44 rfl (Or.inr ⟨rfl, rfl⟩) fl_X11_48 dX11_init_94 ?_
  show go_W mt_X11_init fr_R 97 [some (pv_r a0), none] [] (mm_pr M43 a0 12 (mm_n M41)) (qv_ P)
  obtain ⟨M46, hM46⟩ : ∃ M', M' = mm_pr M43 a0 12 (mm_n M41) := ⟨_, rfl⟩
  have k47 : mm_k M46 a0 = (11, 22) := (by rw [hM46]; exact k44)
  rw [← hM46]
  replace H := H M46 hM46
  refine go_aload_n dX11_init_97 rfl ?_
  refine go_sipush (v := (400 : Int32)) rfl dX11_init_98 ?_
  obtain ⟨hr, H⟩ := H
  refine go_newZA 51 ⟨by decide, by decide⟩ rfl (by decide) ac_boolean hr.1 hr.2 dX11_init_101 ?_
  show go_W mt_X11_init fr_R 103 [some (pv_r a0), none] [pv_r (mm_n M46), pv_r a0] (mm_w M46 51 400) (qv_ P)
  obtain ⟨M48, hM48⟩ : ∃ M', M' = mm_w M46 51 400 := ⟨_, rfl⟩
  have k49 : mm_k M48 a0 = (11, 22) := (by rw [hM48]; exact ks_S k47 (by decide) (mm_S_w (fr := fr_R)))
  rw [← hM48]
  replace H := H M48 hM48
  refine go_putR (k := 13) ⟨by decide, rfl, by decide, Or.inr ⟨_, rfl⟩⟩ k49 rfl (Or.inr ⟨rfl, rfl⟩) fl_X11_52 dX11_init_103 ?_
  show go_W mt_X11_init fr_R 106 [some (pv_r a0), none] [] (mm_pr M48 a0 13 (mm_n M46)) (qv_ P)
  obtain ⟨M51, hM51⟩ : ∃ M', M' = mm_pr M48 a0 13 (mm_n M46) := ⟨_, rfl⟩
  have k52 : mm_k M51 a0 = (11, 22) := (by rw [hM51]; exact k49)
  rw [← hM51]
  replace H := H M51 hM51
  refine go_aload_n dX11_init_106 rfl ?_
  refine go_lconst (v := (0 : Int64)) rfl dX11_init_107 ?_
  refine go_putL (k := 14) ⟨by decide, rfl, by decide, rfl⟩ k52 rfl (Or.inr ⟨rfl, rfl⟩) fl_X11_55 dX11_init_108 ?_
  show go_W mt_X11_init fr_R 111 [some (pv_r a0), none] [] (mm_pl M51 a0 14 (0 : Int64)) (qv_ P)
  obtain ⟨M53, hM53⟩ : ∃ M', M' = mm_pl M51 a0 14 (0 : Int64) := ⟨_, rfl⟩
  have k54 : mm_k M53 a0 = (11, 22) := (by rw [hM53]; exact k52)
  rw [← hM53]
  replace H := H M53 hM53
  refine go_aload_n dX11_init_111 rfl ?_
  refine go_bipush (v := (6 : Int32)) rfl dX11_init_112 ?_
  obtain ⟨hr, H⟩ := H
  refine go_newIA 31 ⟨by decide, by decide⟩ rfl (by decide) ac_int hr.1 hr.2 dX11_init_114 ?_
  show go_W mt_X11_init fr_R 116 [some (pv_r a0), none] [pv_r (mm_n M53), pv_r a0] (mm_w M53 31 6) (qv_ P)
  obtain ⟨M55, hM55⟩ : ∃ M', M' = mm_w M53 31 6 := ⟨_, rfl⟩
  have k56 : mm_k M55 a0 = (11, 22) := (by rw [hM55]; exact ks_S k54 (by decide) (mm_S_w (fr := fr_R)))
  rw [← hM55]
  replace H := H M55 hM55
  refine go_putR (k := 15) ⟨by decide, rfl, by decide, Or.inr ⟨_, rfl⟩⟩ k56 rfl (Or.inr ⟨rfl, rfl⟩) fl_X11_59 dX11_init_116 ?_
  show go_W mt_X11_init fr_R 119 [some (pv_r a0), none] [] (mm_pr M55 a0 15 (mm_n M53)) (qv_ P)
  obtain ⟨M58, hM58⟩ : ∃ M', M' = mm_pr M55 a0 15 (mm_n M53) := ⟨_, rfl⟩
  have k59 : mm_k M58 a0 = (11, 22) := (by rw [hM58]; exact k56)
  rw [← hM58]
  replace H := H M58 hM58
  refine go_aload_n dX11_init_119 rfl ?_
  refine go_bipush (v := (6 : Int32)) rfl dX11_init_120 ?_
  obtain ⟨hr, H⟩ := H
  refine go_newIA 31 ⟨by decide, by decide⟩ rfl (by decide) ac_int hr.1 hr.2 dX11_init_122 ?_
  show go_W mt_X11_init fr_R 124 [some (pv_r a0), none] [pv_r (mm_n M58), pv_r a0] (mm_w M58 31 6) (qv_ P)
  obtain ⟨M60, hM60⟩ : ∃ M', M' = mm_w M58 31 6 := ⟨_, rfl⟩
  have k61 : mm_k M60 a0 = (11, 22) := (by rw [hM60]; exact ks_S k59 (by decide) (mm_S_w (fr := fr_R)))
  rw [← hM60]
  replace H := H M60 hM60
  refine go_putR (k := 16) ⟨by decide, rfl, by decide, Or.inr ⟨_, rfl⟩⟩ k61 rfl (Or.inr ⟨rfl, rfl⟩) fl_X11_62 dX11_init_124 ?_
  show go_W mt_X11_init fr_R 127 [some (pv_r a0), none] [] (mm_pr M60 a0 16 (mm_n M58)) (qv_ P)
  obtain ⟨M63, hM63⟩ : ∃ M', M' = mm_pr M60 a0 16 (mm_n M58) := ⟨_, rfl⟩
  have k64 : mm_k M63 a0 = (11, 22) := (by rw [hM63]; exact k61)
  rw [← hM63]
  replace H := H M63 hM63
  refine go_aload_n dX11_init_127 rfl ?_
  refine go_iconst (v := (-1 : Int32)) rfl dX11_init_128 ?_
  refine go_putI (k := 17) ⟨by decide, rfl, by decide, rfl⟩ k64 rfl (Or.inr ⟨rfl, rfl⟩) fl_X11_65 dX11_init_129 ?_
  show go_W mt_X11_init fr_R 132 [some (pv_r a0), none] [] (mm_pi M63 a0 17 (-1 : Int32)) (qv_ P)
  obtain ⟨M65, hM65⟩ : ∃ M', M' = mm_pi M63 a0 17 (-1 : Int32) := ⟨_, rfl⟩
  have k66 : mm_k M65 a0 = (11, 22) := (by rw [hM65]; exact k64)
  rw [← hM65]
  replace H := H M65 hM65
  refine go_aload_n dX11_init_132 rfl ?_
  refine go_iconst (v := (0 : Int32)) rfl dX11_init_133 ?_
  refine go_putI (k := 18) ⟨by decide, rfl, by decide, rfl⟩ k66 rfl (Or.inr ⟨rfl, rfl⟩) fl_X11_68 dX11_init_134 ?_
  show go_W mt_X11_init fr_R 137 [some (pv_r a0), none] [] (mm_pi M65 a0 18 (0 : Int32)) (qv_ P)
  obtain ⟨M67, hM67⟩ : ∃ M', M' = mm_pi M65 a0 18 (0 : Int32) := ⟨_, rfl⟩
  have k68 : mm_k M67 a0 = (11, 22) := (by rw [hM67]; exact k66)
  rw [← hM67]
  replace H := H M67 hM67
  refine go_aload_n dX11_init_137 rfl ?_
  refine go_iconst (v := (0 : Int32)) rfl dX11_init_138 ?_
  refine go_putI (k := 19) ⟨by decide, rfl, by decide, rfl⟩ k68 rfl (Or.inr ⟨rfl, rfl⟩) fl_X11_71 dX11_init_139 ?_
  show go_W mt_X11_init fr_R 142 [some (pv_r a0), none] [] (mm_pi M67 a0 19 (0 : Int32)) (qv_ P)
  obtain ⟨M69, hM69⟩ : ∃ M', M' = mm_pi M67 a0 19 (0 : Int32) := ⟨_, rfl⟩
  have k70 : mm_k M69 a0 = (11, 22) := (by rw [hM69]; exact k68)
  rw [← hM69]
  replace H := H M69 hM69
  refine go_aload_n dX11_init_142 rfl ?_
  refine go_sipush (v := (400 : Int32)) rfl dX11_init_143 ?_
  obtain ⟨hr, H⟩ := H
  refine go_newZA 51 ⟨by decide, by decide⟩ rfl (by decide) ac_boolean hr.1 hr.2 dX11_init_146 ?_
  show go_W mt_X11_init fr_R 148 [some (pv_r a0), none] [pv_r (mm_n M69), pv_r a0] (mm_w M69 51 400) (qv_ P)
  obtain ⟨M71, hM71⟩ : ∃ M', M' = mm_w M69 51 400 := ⟨_, rfl⟩
  have k72 : mm_k M71 a0 = (11, 22) := (by rw [hM71]; exact ks_S k70 (by decide) (mm_S_w (fr := fr_R)))
  rw [← hM71]
  replace H := H M71 hM71
  refine go_putR (k := 20) ⟨by decide, rfl, by decide, Or.inr ⟨_, rfl⟩⟩ k72 rfl (Or.inr ⟨rfl, rfl⟩) fl_X11_74 dX11_init_148 ?_
  show go_W mt_X11_init fr_R 151 [some (pv_r a0), none] [] (mm_pr M71 a0 20 (mm_n M69)) (qv_ P)
  obtain ⟨M74, hM74⟩ : ∃ M', M' = mm_pr M71 a0 20 (mm_n M69) := ⟨_, rfl⟩
  have k75 : mm_k M74 a0 = (11, 22) := (by rw [hM74]; exact k72)
  rw [← hM74]
  replace H := H M74 hM74
  refine go_aload_n dX11_init_151 rfl ?_
  refine go_sipush (v := (400 : Int32)) rfl dX11_init_152 ?_
  obtain ⟨hr, H⟩ := H
  refine go_newZA 51 ⟨by decide, by decide⟩ rfl (by decide) ac_boolean hr.1 hr.2 dX11_init_155 ?_
  show go_W mt_X11_init fr_R 157 [some (pv_r a0), none] [pv_r (mm_n M74), pv_r a0] (mm_w M74 51 400) (qv_ P)
  obtain ⟨M76, hM76⟩ : ∃ M', M' = mm_w M74 51 400 := ⟨_, rfl⟩
  have k77 : mm_k M76 a0 = (11, 22) := (by rw [hM76]; exact ks_S k75 (by decide) (mm_S_w (fr := fr_R)))
  rw [← hM76]
  replace H := H M76 hM76
  refine go_putR (k := 21) ⟨by decide, rfl, by decide, Or.inr ⟨_, rfl⟩⟩ k77 rfl (Or.inr ⟨rfl, rfl⟩) fl_X11_77 dX11_init_157 ?_
  show go_W mt_X11_init fr_R 160 [some (pv_r a0), none] [] (mm_pr M76 a0 21 (mm_n M74)) (qv_ P)
  obtain ⟨M79, hM79⟩ : ∃ M', M' = mm_pr M76 a0 21 (mm_n M74) := ⟨_, rfl⟩
  have k80 : mm_k M79 a0 = (11, 22) := (by rw [hM79]; exact k77)
  rw [← hM79]
  replace H := H M79 hM79
  exact H
