/-! the walks of the reference, by program (wip/whole/walk2.py) -/
set_option maxRecDepth 20000 in
theorem wq_X11_hangs_0 {B : mm_T} {I : Nat → Nat → Int32} {m : Nat} (RK : rf_ok B m) {x1 : Int32} {P : Int32 → (Nat → Nat → Int32) → Prop} (H : ((((0 ≤ x1 ∧ x1 ≤ I (m + 1) 1 - 1)) → rw_i mt_X11_hangs 14 [some (pv_r m), some (pv_i x1), some (pv_i (0 : Int32)), some (pv_i (0 : Int32)), none] [] B I P) ∧ ((¬ (0 ≤ x1 ∧ x1 ≤ I (m + 1) 1 - 1)) → P (-1 : Int32) I))) : rw_i mt_X11_hangs 0 [some (pv_r m), some (pv_i x1), none, none, none] [] B I P := by
  refine go_aload_n dX11_hangs_0 rfl ?_
  refine go_iload_n dX11_hangs_1 rfl ?_
  by_cases hc : (0 ≤ x1 ∧ x1 ≤ I (m + 1) 1 - 1)
  · replace H := H.1 hc
    refine go_V (av := [pv_i x1]) (st := []) (ci := 11) ok_X11_isTask ⟨by decide, by decide⟩ ml_X11_161 rfl (by decide) (fun v hv => by simp only [List.mem_cons, List.not_mem_nil, or_false] at hv; rcases hv with rfl <;> first | exact pv_1i | exact pv_1r) (Nat.le_of_ble_eq_true rfl) (fun _ h => h) (by decide) rfl RK.1 dX11_hangs_2 (rx_isTask_t RK hc) (fun r M' hq _ => ?_)
    obtain ⟨_, rfl, _, rfl, rfl, rfl⟩ := hq
    show go_W mt_X11_hangs fr_R 5 [some (pv_r m), some (pv_i x1), none, none, none] [pv_i (1 : Int32)] (mm_si B I) (qi_ (fun x M' => ∃ I', M' = mm_si B I' ∧ P x I'))
    refine go_if_ne (tgt := 10) dX11_hangs_5 (by decide) (fun _ => ?_) (fun hc => absurd hc (by decide))
    refine go_iconst (v := (0 : Int32)) rfl dX11_hangs_10 ?_
    refine go_istore_n (by decide) dX11_hangs_11 ?_
    show go_W mt_X11_hangs fr_R 12 [some (pv_r m), some (pv_i x1), some (pv_i (0 : Int32)), none, none] [] (mm_si B I) (qi_ (fun x M' => ∃ I', M' = mm_si B I' ∧ P x I'))
    refine go_iconst (v := (0 : Int32)) rfl dX11_hangs_12 ?_
    refine go_istore_n (by decide) dX11_hangs_13 ?_
    show go_W mt_X11_hangs fr_R 14 [some (pv_r m), some (pv_i x1), some (pv_i (0 : Int32)), some (pv_i (0 : Int32)), none] [] (mm_si B I) (qi_ (fun x M' => ∃ I', M' = mm_si B I' ∧ P x I'))
    exact H
  · replace H := H.2 hc
    refine go_V (av := [pv_i x1]) (st := []) (ci := 11) ok_X11_isTask ⟨by decide, by decide⟩ ml_X11_161 rfl (by decide) (fun v hv => by simp only [List.mem_cons, List.not_mem_nil, or_false] at hv; rcases hv with rfl <;> first | exact pv_1i | exact pv_1r) (Nat.le_of_ble_eq_true rfl) (fun _ h => h) (by decide) rfl RK.1 dX11_hangs_2 (rx_isTask_f RK hc) (fun r M' hq _ => ?_)
    obtain ⟨_, rfl, _, rfl, rfl, rfl⟩ := hq
    show go_W mt_X11_hangs fr_R 5 [some (pv_r m), some (pv_i x1), none, none, none] [pv_i (0 : Int32)] (mm_si B I) (qi_ (fun x M' => ∃ I', M' = mm_si B I' ∧ P x I'))
    refine go_if_ne (tgt := 10) dX11_hangs_5 (by decide) (fun hc => absurd hc (by decide)) (fun _ => ?_)
    refine go_iconst (v := (-1 : Int32)) rfl dX11_hangs_8 ?_
    exact go_iret rfl rfl dX11_hangs_9 ⟨_, rfl, _, rfl, H⟩
set_option maxRecDepth 20000 in
theorem wq_X11_hangs_14 {B : mm_T} {I : Nat → Nat → Int32} {m : Nat} (RK : rf_ok B m) {x1 x2 x3 : Int32} {P : Int32 → (Nat → Nat → Int32) → Prop} (H : (((I (m + 1) 1 ≤ x3) → rw_i mt_X11_hangs 50 [some (pv_r m), some (pv_i x1), some (pv_i x2), some (pv_i (x1 + (1 : Int32))), none] [] B I P) ∧ ((¬ I (m + 1) 1 ≤ x3) → (((¬ x3 = x1) → ∃ n1, (x3 = nI n1 ∧ n1 < 400) ∧ (∀ I2, I2 = i2_u I (m + 12) n1 (0 : Int32) → rw_i mt_X11_hangs 14 [some (pv_r m), some (pv_i x1), some (pv_i x2), some (pv_i (nI (n1 + 1))), none] [] B I2 P)) ∧ ((x3 = x1) → ∃ n3, (x3 = nI n3 ∧ n3 < 400) ∧ (∀ I4, I4 = i2_u I (m + 12) n3 (1 : Int32) → rw_i mt_X11_hangs 14 [some (pv_r m), some (pv_i x1), some (pv_i x2), some (pv_i (nI (n3 + 1))), none] [] B I4 P)))))) : rw_i mt_X11_hangs 14 [some (pv_r m), some (pv_i x1), some (pv_i x2), some (pv_i x3), none] [] B I P := by
  refine go_iload_n dX11_hangs_14 rfl ?_
  refine go_aload_n dX11_hangs_15 rfl ?_
  refine go_getRe (k := 0) ⟨by decide, rfl, by decide, Or.inr ⟨_, rfl⟩⟩ RK.1 (rf_r1 RK) fl_X11_7 dX11_hangs_16 ?_
  refine go_iconst (v := (1 : Int32)) rfl dX11_hangs_19 ?_
  refine go_ialdN (j := 1) ⟨by decide, by decide, by decide⟩ (rf_k1 RK) rfl (by decide) dX11_hangs_20 ?_
  refine go_icmp_ge (tgt := 46) dX11_hangs_21 (by decide) (fun hc => ?_) (fun hc => ?_)
  · replace H := H.1 hc
    refine go_iload_n dX11_hangs_46 rfl ?_
    refine go_iconst (v := (1 : Int32)) rfl dX11_hangs_47 ?_
    refine go_iadd dX11_hangs_48 ?_
    refine go_istore_n (by decide) dX11_hangs_49 ?_
    show go_W mt_X11_hangs fr_R 50 [some (pv_r m), some (pv_i x1), some (pv_i x2), some (pv_i (x1 + (1 : Int32))), none] [] (mm_si B I) (qi_ (fun x M' => ∃ I', M' = mm_si B I' ∧ P x I'))
    exact H
  · replace H := H.2 hc
    refine go_aload_n dX11_hangs_24 rfl ?_
    refine go_getRe (k := 21) ⟨by decide, rfl, by decide, Or.inr ⟨_, rfl⟩⟩ RK.1 (rf_r12 RK) fl_X11_77 dX11_hangs_25 ?_
    refine go_iload_n dX11_hangs_28 rfl ?_
    refine go_iload_n dX11_hangs_29 rfl ?_
    refine go_iload_n dX11_hangs_30 rfl ?_
    refine go_icmp_ne (tgt := 38) dX11_hangs_31 (by decide) (fun hc => ?_) (fun hc => ?_)
    · replace H := H.1 hc
      refine go_iconst (v := (0 : Int32)) rfl dX11_hangs_38 ?_
      obtain ⟨n1, ⟨hn1, hn1b⟩, H⟩ := H
      refine go_zastN (Or.inl rfl) (j := n1) ⟨by decide, by decide, by decide⟩ (rf_k12 RK) rfl hn1 hn1b dX11_hangs_39 ?_
      show go_W mt_X11_hangs fr_R 40 [some (pv_r m), some (pv_i x1), some (pv_i x2), some (pv_i x3), none] [] (mm_si B (i2_u I (m + 12) n1 (0 : Int32))) (qi_ (fun x M' => ∃ I', M' = mm_si B I' ∧ P x I'))
      obtain ⟨I2, hI2⟩ : ∃ I', I' = i2_u I (m + 12) n1 (0 : Int32) := ⟨_, rfl⟩
      rw [← hI2]
      replace H := H I2 hI2
      refine go_iincN (n := n1) (k := 1) hn1 (by decide) rfl rfl dX11_hangs_40 ?_
      show go_W mt_X11_hangs fr_R 43 [some (pv_r m), some (pv_i x1), some (pv_i x2), some (pv_i (nI (n1 + 1))), none] [] (mm_si B I2) (qi_ (fun x M' => ∃ I', M' = mm_si B I' ∧ P x I'))
      refine go_goto (tgt := 14) dX11_hangs_43 (by decide) ?_
      exact H
    · replace H := H.2 hc
      refine go_iconst (v := (1 : Int32)) rfl dX11_hangs_34 ?_
      refine go_goto (tgt := 39) dX11_hangs_35 (by decide) ?_
      obtain ⟨n3, ⟨hn3, hn3b⟩, H⟩ := H
      refine go_zastN (Or.inr rfl) (j := n3) ⟨by decide, by decide, by decide⟩ (rf_k12 RK) rfl hn3 hn3b dX11_hangs_39 ?_
      show go_W mt_X11_hangs fr_R 40 [some (pv_r m), some (pv_i x1), some (pv_i x2), some (pv_i x3), none] [] (mm_si B (i2_u I (m + 12) n3 (1 : Int32))) (qi_ (fun x M' => ∃ I', M' = mm_si B I' ∧ P x I'))
      obtain ⟨I4, hI4⟩ : ∃ I', I' = i2_u I (m + 12) n3 (1 : Int32) := ⟨_, rfl⟩
      rw [← hI4]
      replace H := H I4 hI4
      refine go_iincN (n := n3) (k := 1) hn3 (by decide) rfl rfl dX11_hangs_40 ?_
      show go_W mt_X11_hangs fr_R 43 [some (pv_r m), some (pv_i x1), some (pv_i x2), some (pv_i (nI (n3 + 1))), none] [] (mm_si B I4) (qi_ (fun x M' => ∃ I', M' = mm_si B I' ∧ P x I'))
      refine go_goto (tgt := 14) dX11_hangs_43 (by decide) ?_
      exact H
set_option maxRecDepth 20000 in
theorem wq_X11_hangs_50 {B : mm_T} {I : Nat → Nat → Int32} {m : Nat} (RK : rf_ok B m) {x1 x2 x3 : Int32} {P : Int32 → (Nat → Nat → Int32) → Prop} (H : (((I (m + 1) 1 ≤ x3) → P x2 I) ∧ ((¬ I (m + 1) 1 ≤ x3) → ∃ n1, (x3 = nI n1 ∧ n1 < 400) ∧ ((((I (m + 1) (200 + 14 * n1 + 4) = (-1 : Int32)) → ∀ I2, I2 = i2_u I (m + 12) n1 (0 : Int32) → (((I2 (m + 12) n1 = 0) → rw_i mt_X11_hangs 50 [some (pv_r m), some (pv_i x1), some (pv_i (x2 + (0 : Int32))), some (pv_i (nI (n1 + 1))), none] [] B I2 P) ∧ ((¬ I2 (m + 12) n1 = 0) → rw_i mt_X11_hangs 50 [some (pv_r m), some (pv_i x1), some (pv_i (x2 + (1 : Int32))), some (pv_i (nI (n1 + 1))), none] [] B I2 P))) ∧ ((¬ I (m + 1) (200 + 14 * n1 + 4) = (-1 : Int32)) → ∃ n3, (I (m + 1) (200 + 14 * n1 + 4) = nI n3 ∧ n3 < 400) ∧ ((((I (m + 12) n3 = 0) → ∀ I4, I4 = i2_u I (m + 12) n1 (0 : Int32) → (((I4 (m + 12) n1 = 0) → rw_i mt_X11_hangs 50 [some (pv_r m), some (pv_i x1), some (pv_i (x2 + (0 : Int32))), some (pv_i (nI (n1 + 1))), none] [] B I4 P) ∧ ((¬ I4 (m + 12) n1 = 0) → rw_i mt_X11_hangs 50 [some (pv_r m), some (pv_i x1), some (pv_i (x2 + (1 : Int32))), some (pv_i (nI (n1 + 1))), none] [] B I4 P))) ∧ ((¬ I (m + 12) n3 = 0) → ((((I (m + 1) (200 + 14 * n1 + 6) ≤ 3)) → ∀ I5, I5 = i2_u I (m + 12) n1 (1 : Int32) → (((I5 (m + 12) n1 = 0) → rw_i mt_X11_hangs 50 [some (pv_r m), some (pv_i x1), some (pv_i (x2 + (0 : Int32))), some (pv_i (nI (n1 + 1))), none] [] B I5 P) ∧ ((¬ I5 (m + 12) n1 = 0) → rw_i mt_X11_hangs 50 [some (pv_r m), some (pv_i x1), some (pv_i (x2 + (1 : Int32))), some (pv_i (nI (n1 + 1))), none] [] B I5 P))) ∧ ((¬ (I (m + 1) (200 + 14 * n1 + 6) ≤ 3)) → (((¬ I (m + 1) (200 + 14 * n1 + 6) = (5 : Int32)) → ∀ I6, I6 = i2_u I (m + 12) n1 (0 : Int32) → (((I6 (m + 12) n1 = 0) → rw_i mt_X11_hangs 50 [some (pv_r m), some (pv_i x1), some (pv_i (x2 + (0 : Int32))), some (pv_i (nI (n1 + 1))), none] [] B I6 P) ∧ ((¬ I6 (m + 12) n1 = 0) → rw_i mt_X11_hangs 50 [some (pv_r m), some (pv_i x1), some (pv_i (x2 + (1 : Int32))), some (pv_i (nI (n1 + 1))), none] [] B I6 P))) ∧ ((I (m + 1) (200 + 14 * n1 + 6) = (5 : Int32)) → ∀ I7, I7 = i2_u I (m + 12) n1 (1 : Int32) → (((I7 (m + 12) n1 = 0) → rw_i mt_X11_hangs 50 [some (pv_r m), some (pv_i x1), some (pv_i (x2 + (0 : Int32))), some (pv_i (nI (n1 + 1))), none] [] B I7 P) ∧ ((¬ I7 (m + 12) n1 = 0) → rw_i mt_X11_hangs 50 [some (pv_r m), some (pv_i x1), some (pv_i (x2 + (1 : Int32))), some (pv_i (nI (n1 + 1))), none] [] B I7 P))))))))))))))) : rw_i mt_X11_hangs 50 [some (pv_r m), some (pv_i x1), some (pv_i x2), some (pv_i x3), none] [] B I P := by
  refine go_iload_n dX11_hangs_50 rfl ?_
  refine go_aload_n dX11_hangs_51 rfl ?_
  refine go_getRe (k := 0) ⟨by decide, rfl, by decide, Or.inr ⟨_, rfl⟩⟩ RK.1 (rf_r1 RK) fl_X11_7 dX11_hangs_52 ?_
  refine go_iconst (v := (1 : Int32)) rfl dX11_hangs_55 ?_
  refine go_ialdN (j := 1) ⟨by decide, by decide, by decide⟩ (rf_k1 RK) rfl (by decide) dX11_hangs_56 ?_
  refine go_icmp_ge (tgt := 137) dX11_hangs_57 (by decide) (fun hc => ?_) (fun hc => ?_)
  · replace H := H.1 hc
    refine go_iload_n dX11_hangs_137 rfl ?_
    exact go_iret rfl rfl dX11_hangs_138 ⟨_, rfl, _, rfl, H⟩
  · replace H := H.2 hc
    refine go_aload_n dX11_hangs_60 rfl ?_
    refine go_iload_n dX11_hangs_61 rfl ?_
    refine go_iconst (v := (4 : Int32)) rfl dX11_hangs_62 ?_
    obtain ⟨n1, ⟨hn1, hn1b⟩, H⟩ := H
    refine go_V (av := [pv_i x3, pv_i (4 : Int32)]) (st := []) (ci := 11) ok_X11_of ⟨by decide, by decide⟩ ml_X11_94 rfl (by decide) (fun v hv => by simp only [List.mem_cons, List.not_mem_nil, or_false] at hv; rcases hv with rfl | rfl <;> first | exact pv_1i | exact pv_1r) (Nat.le_of_ble_eq_true rfl) (fun _ h => h) (by decide) rfl RK.1 dX11_hangs_63 (rx_of RK hn1 rfl hn1b (by decide)) (fun r M' hq _ => ?_)
    obtain ⟨_, rfl, _, rfl, rfl, rfl⟩ := hq
    show go_W mt_X11_hangs fr_R 66 [some (pv_r m), some (pv_i x1), some (pv_i x2), some (pv_i x3), none] [pv_i (I (m + 1) (200 + 14 * n1 + 4))] (mm_si B I) (qi_ (fun x M' => ∃ I', M' = mm_si B I' ∧ P x I'))
    refine go_istore (by decide) dX11_hangs_66 ?_
    show go_W mt_X11_hangs fr_R 68 [some (pv_r m), some (pv_i x1), some (pv_i x2), some (pv_i x3), some (pv_i (I (m + 1) (200 + 14 * n1 + 4)))] [] (mm_si B I) (qi_ (fun x M' => ∃ I', M' = mm_si B I' ∧ P x I'))
    refine go_aload_n dX11_hangs_68 rfl ?_
    refine go_getRe (k := 21) ⟨by decide, rfl, by decide, Or.inr ⟨_, rfl⟩⟩ RK.1 (rf_r12 RK) fl_X11_77 dX11_hangs_69 ?_
    refine go_iload_n dX11_hangs_72 rfl ?_
    refine go_iload dX11_hangs_73 rfl ?_
    refine go_iconst (v := (-1 : Int32)) rfl dX11_hangs_75 ?_
    refine go_icmp_eq (tgt := 112) dX11_hangs_76 (by decide) (fun hc => ?_) (fun hc => ?_)
    · replace H := H.1 hc
      refine go_iconst (v := (0 : Int32)) rfl dX11_hangs_112 ?_
      refine go_zastN (Or.inl rfl) (j := n1) ⟨by decide, by decide, by decide⟩ (rf_k12 RK) rfl hn1 (by omega) dX11_hangs_113 ?_
      show go_W mt_X11_hangs fr_R 114 [some (pv_r m), some (pv_i x1), some (pv_i x2), some (pv_i x3), some (pv_i (I (m + 1) (200 + 14 * n1 + 4)))] [] (mm_si B (i2_u I (m + 12) n1 (0 : Int32))) (qi_ (fun x M' => ∃ I', M' = mm_si B I' ∧ P x I'))
      obtain ⟨I2, hI2⟩ : ∃ I', I' = i2_u I (m + 12) n1 (0 : Int32) := ⟨_, rfl⟩
      rw [← hI2]
      replace H := H I2 hI2
      refine go_iload_n dX11_hangs_114 rfl ?_
      refine go_aload_n dX11_hangs_115 rfl ?_
      refine go_getRe (k := 21) ⟨by decide, rfl, by decide, Or.inr ⟨_, rfl⟩⟩ RK.1 (rf_r12 RK) fl_X11_77 dX11_hangs_116 ?_
      refine go_iload_n dX11_hangs_119 rfl ?_
      refine go_zaldN (j := n1) ⟨by decide, by decide, by decide⟩ (rf_k12 RK) hn1 (by omega) dX11_hangs_120 ?_
      refine go_if_eq (tgt := 128) dX11_hangs_121 (by decide) (fun hc => ?_) (fun hc => ?_)
      · replace H := H.1 hc
        refine go_iconst (v := (0 : Int32)) rfl dX11_hangs_128 ?_
        refine go_iadd dX11_hangs_129 ?_
        refine go_istore_n (by decide) dX11_hangs_130 ?_
        show go_W mt_X11_hangs fr_R 131 [some (pv_r m), some (pv_i x1), some (pv_i (x2 + (0 : Int32))), some (pv_i x3), some (pv_i (I (m + 1) (200 + 14 * n1 + 4)))] [] (mm_si B I2) (qi_ (fun x M' => ∃ I', M' = mm_si B I' ∧ P x I'))
        refine go_iincN (n := n1) (k := 1) hn1 (by decide) rfl rfl dX11_hangs_131 ?_
        show go_W mt_X11_hangs fr_R 134 [some (pv_r m), some (pv_i x1), some (pv_i (x2 + (0 : Int32))), some (pv_i (nI (n1 + 1))), some (pv_i (I (m + 1) (200 + 14 * n1 + 4)))] [] (mm_si B I2) (qi_ (fun x M' => ∃ I', M' = mm_si B I' ∧ P x I'))
        refine go_goto (tgt := 50) dX11_hangs_134 (by decide) ?_
        exact go_fg (ls' := [some (pv_r m), some (pv_i x1), some (pv_i (x2 + (0 : Int32))), some (pv_i (nI (n1 + 1))), none]) ⟨rfl, ⟨rfl, ⟨rfl, ⟨rfl, trivial⟩⟩⟩⟩ H
      · replace H := H.2 hc
        refine go_iconst (v := (1 : Int32)) rfl dX11_hangs_124 ?_
        refine go_goto (tgt := 129) dX11_hangs_125 (by decide) ?_
        refine go_iadd dX11_hangs_129 ?_
        refine go_istore_n (by decide) dX11_hangs_130 ?_
        show go_W mt_X11_hangs fr_R 131 [some (pv_r m), some (pv_i x1), some (pv_i (x2 + (1 : Int32))), some (pv_i x3), some (pv_i (I (m + 1) (200 + 14 * n1 + 4)))] [] (mm_si B I2) (qi_ (fun x M' => ∃ I', M' = mm_si B I' ∧ P x I'))
        refine go_iincN (n := n1) (k := 1) hn1 (by decide) rfl rfl dX11_hangs_131 ?_
        show go_W mt_X11_hangs fr_R 134 [some (pv_r m), some (pv_i x1), some (pv_i (x2 + (1 : Int32))), some (pv_i (nI (n1 + 1))), some (pv_i (I (m + 1) (200 + 14 * n1 + 4)))] [] (mm_si B I2) (qi_ (fun x M' => ∃ I', M' = mm_si B I' ∧ P x I'))
        refine go_goto (tgt := 50) dX11_hangs_134 (by decide) ?_
        exact go_fg (ls' := [some (pv_r m), some (pv_i x1), some (pv_i (x2 + (1 : Int32))), some (pv_i (nI (n1 + 1))), none]) ⟨rfl, ⟨rfl, ⟨rfl, ⟨rfl, trivial⟩⟩⟩⟩ H
    · replace H := H.2 hc
      refine go_aload_n dX11_hangs_79 rfl ?_
      refine go_getRe (k := 21) ⟨by decide, rfl, by decide, Or.inr ⟨_, rfl⟩⟩ RK.1 (rf_r12 RK) fl_X11_77 dX11_hangs_80 ?_
      refine go_iload dX11_hangs_83 rfl ?_
      obtain ⟨n3, ⟨hn3, hn3b⟩, H⟩ := H
      refine go_zaldN (j := n3) ⟨by decide, by decide, by decide⟩ (rf_k12 RK) hn3 hn3b dX11_hangs_85 ?_
      refine go_if_eq (tgt := 112) dX11_hangs_86 (by decide) (fun hc => ?_) (fun hc => ?_)
      · replace H := H.1 hc
        refine go_iconst (v := (0 : Int32)) rfl dX11_hangs_112 ?_
        refine go_zastN (Or.inl rfl) (j := n1) ⟨by decide, by decide, by decide⟩ (rf_k12 RK) rfl hn1 (by omega) dX11_hangs_113 ?_
        show go_W mt_X11_hangs fr_R 114 [some (pv_r m), some (pv_i x1), some (pv_i x2), some (pv_i x3), some (pv_i (I (m + 1) (200 + 14 * n1 + 4)))] [] (mm_si B (i2_u I (m + 12) n1 (0 : Int32))) (qi_ (fun x M' => ∃ I', M' = mm_si B I' ∧ P x I'))
        obtain ⟨I4, hI4⟩ : ∃ I', I' = i2_u I (m + 12) n1 (0 : Int32) := ⟨_, rfl⟩
        rw [← hI4]
        replace H := H I4 hI4
        refine go_iload_n dX11_hangs_114 rfl ?_
        refine go_aload_n dX11_hangs_115 rfl ?_
        refine go_getRe (k := 21) ⟨by decide, rfl, by decide, Or.inr ⟨_, rfl⟩⟩ RK.1 (rf_r12 RK) fl_X11_77 dX11_hangs_116 ?_
        refine go_iload_n dX11_hangs_119 rfl ?_
        refine go_zaldN (j := n1) ⟨by decide, by decide, by decide⟩ (rf_k12 RK) hn1 (by omega) dX11_hangs_120 ?_
        refine go_if_eq (tgt := 128) dX11_hangs_121 (by decide) (fun hc => ?_) (fun hc => ?_)
        · replace H := H.1 hc
          refine go_iconst (v := (0 : Int32)) rfl dX11_hangs_128 ?_
          refine go_iadd dX11_hangs_129 ?_
          refine go_istore_n (by decide) dX11_hangs_130 ?_
          show go_W mt_X11_hangs fr_R 131 [some (pv_r m), some (pv_i x1), some (pv_i (x2 + (0 : Int32))), some (pv_i x3), some (pv_i (I (m + 1) (200 + 14 * n1 + 4)))] [] (mm_si B I4) (qi_ (fun x M' => ∃ I', M' = mm_si B I' ∧ P x I'))
          refine go_iincN (n := n1) (k := 1) hn1 (by decide) rfl rfl dX11_hangs_131 ?_
          show go_W mt_X11_hangs fr_R 134 [some (pv_r m), some (pv_i x1), some (pv_i (x2 + (0 : Int32))), some (pv_i (nI (n1 + 1))), some (pv_i (I (m + 1) (200 + 14 * n1 + 4)))] [] (mm_si B I4) (qi_ (fun x M' => ∃ I', M' = mm_si B I' ∧ P x I'))
          refine go_goto (tgt := 50) dX11_hangs_134 (by decide) ?_
          exact go_fg (ls' := [some (pv_r m), some (pv_i x1), some (pv_i (x2 + (0 : Int32))), some (pv_i (nI (n1 + 1))), none]) ⟨rfl, ⟨rfl, ⟨rfl, ⟨rfl, trivial⟩⟩⟩⟩ H
        · replace H := H.2 hc
          refine go_iconst (v := (1 : Int32)) rfl dX11_hangs_124 ?_
          refine go_goto (tgt := 129) dX11_hangs_125 (by decide) ?_
          refine go_iadd dX11_hangs_129 ?_
          refine go_istore_n (by decide) dX11_hangs_130 ?_
          show go_W mt_X11_hangs fr_R 131 [some (pv_r m), some (pv_i x1), some (pv_i (x2 + (1 : Int32))), some (pv_i x3), some (pv_i (I (m + 1) (200 + 14 * n1 + 4)))] [] (mm_si B I4) (qi_ (fun x M' => ∃ I', M' = mm_si B I' ∧ P x I'))
          refine go_iincN (n := n1) (k := 1) hn1 (by decide) rfl rfl dX11_hangs_131 ?_
          show go_W mt_X11_hangs fr_R 134 [some (pv_r m), some (pv_i x1), some (pv_i (x2 + (1 : Int32))), some (pv_i (nI (n1 + 1))), some (pv_i (I (m + 1) (200 + 14 * n1 + 4)))] [] (mm_si B I4) (qi_ (fun x M' => ∃ I', M' = mm_si B I' ∧ P x I'))
          refine go_goto (tgt := 50) dX11_hangs_134 (by decide) ?_
          exact go_fg (ls' := [some (pv_r m), some (pv_i x1), some (pv_i (x2 + (1 : Int32))), some (pv_i (nI (n1 + 1))), none]) ⟨rfl, ⟨rfl, ⟨rfl, ⟨rfl, trivial⟩⟩⟩⟩ H
      · replace H := H.2 hc
        refine go_aload_n dX11_hangs_89 rfl ?_
        refine go_iload_n dX11_hangs_90 rfl ?_
        by_cases hc : (I (m + 1) (200 + 14 * n1 + 6) ≤ 3)
        · replace H := H.1 hc
          refine go_V (av := [pv_i x3]) (st := [pv_i x3, pv_r (m + 12)]) (ci := 11) ok_X11_stands ⟨by decide, by decide⟩ ml_X11_98 rfl (by decide) (fun v hv => by simp only [List.mem_cons, List.not_mem_nil, or_false] at hv; rcases hv with rfl <;> first | exact pv_1i | exact pv_1r) (Nat.le_of_ble_eq_true rfl) (fun _ h => h) (by decide) rfl RK.1 dX11_hangs_91 (rx_stands_t RK hn1 (by omega) hc) (fun r M' hq _ => ?_)
          obtain ⟨_, rfl, _, rfl, rfl, rfl⟩ := hq
          show go_W mt_X11_hangs fr_R 94 [some (pv_r m), some (pv_i x1), some (pv_i x2), some (pv_i x3), some (pv_i (I (m + 1) (200 + 14 * n1 + 4)))] [pv_i (1 : Int32), pv_i x3, pv_r (m + 12)] (mm_si B I) (qi_ (fun x M' => ∃ I', M' = mm_si B I' ∧ P x I'))
          refine go_if_ne (tgt := 108) dX11_hangs_94 (by decide) (fun _ => ?_) (fun hc => absurd hc (by decide))
          refine go_iconst (v := (1 : Int32)) rfl dX11_hangs_108 ?_
          refine go_goto (tgt := 113) dX11_hangs_109 (by decide) ?_
          refine go_zastN (Or.inr rfl) (j := n1) ⟨by decide, by decide, by decide⟩ (rf_k12 RK) rfl hn1 (by omega) dX11_hangs_113 ?_
          show go_W mt_X11_hangs fr_R 114 [some (pv_r m), some (pv_i x1), some (pv_i x2), some (pv_i x3), some (pv_i (I (m + 1) (200 + 14 * n1 + 4)))] [] (mm_si B (i2_u I (m + 12) n1 (1 : Int32))) (qi_ (fun x M' => ∃ I', M' = mm_si B I' ∧ P x I'))
          obtain ⟨I5, hI5⟩ : ∃ I', I' = i2_u I (m + 12) n1 (1 : Int32) := ⟨_, rfl⟩
          rw [← hI5]
          replace H := H I5 hI5
          refine go_iload_n dX11_hangs_114 rfl ?_
          refine go_aload_n dX11_hangs_115 rfl ?_
          refine go_getRe (k := 21) ⟨by decide, rfl, by decide, Or.inr ⟨_, rfl⟩⟩ RK.1 (rf_r12 RK) fl_X11_77 dX11_hangs_116 ?_
          refine go_iload_n dX11_hangs_119 rfl ?_
          refine go_zaldN (j := n1) ⟨by decide, by decide, by decide⟩ (rf_k12 RK) hn1 (by omega) dX11_hangs_120 ?_
          refine go_if_eq (tgt := 128) dX11_hangs_121 (by decide) (fun hc => ?_) (fun hc => ?_)
          · replace H := H.1 hc
            refine go_iconst (v := (0 : Int32)) rfl dX11_hangs_128 ?_
            refine go_iadd dX11_hangs_129 ?_
            refine go_istore_n (by decide) dX11_hangs_130 ?_
            show go_W mt_X11_hangs fr_R 131 [some (pv_r m), some (pv_i x1), some (pv_i (x2 + (0 : Int32))), some (pv_i x3), some (pv_i (I (m + 1) (200 + 14 * n1 + 4)))] [] (mm_si B I5) (qi_ (fun x M' => ∃ I', M' = mm_si B I' ∧ P x I'))
            refine go_iincN (n := n1) (k := 1) hn1 (by decide) rfl rfl dX11_hangs_131 ?_
            show go_W mt_X11_hangs fr_R 134 [some (pv_r m), some (pv_i x1), some (pv_i (x2 + (0 : Int32))), some (pv_i (nI (n1 + 1))), some (pv_i (I (m + 1) (200 + 14 * n1 + 4)))] [] (mm_si B I5) (qi_ (fun x M' => ∃ I', M' = mm_si B I' ∧ P x I'))
            refine go_goto (tgt := 50) dX11_hangs_134 (by decide) ?_
            exact go_fg (ls' := [some (pv_r m), some (pv_i x1), some (pv_i (x2 + (0 : Int32))), some (pv_i (nI (n1 + 1))), none]) ⟨rfl, ⟨rfl, ⟨rfl, ⟨rfl, trivial⟩⟩⟩⟩ H
          · replace H := H.2 hc
            refine go_iconst (v := (1 : Int32)) rfl dX11_hangs_124 ?_
            refine go_goto (tgt := 129) dX11_hangs_125 (by decide) ?_
            refine go_iadd dX11_hangs_129 ?_
            refine go_istore_n (by decide) dX11_hangs_130 ?_
            show go_W mt_X11_hangs fr_R 131 [some (pv_r m), some (pv_i x1), some (pv_i (x2 + (1 : Int32))), some (pv_i x3), some (pv_i (I (m + 1) (200 + 14 * n1 + 4)))] [] (mm_si B I5) (qi_ (fun x M' => ∃ I', M' = mm_si B I' ∧ P x I'))
            refine go_iincN (n := n1) (k := 1) hn1 (by decide) rfl rfl dX11_hangs_131 ?_
            show go_W mt_X11_hangs fr_R 134 [some (pv_r m), some (pv_i x1), some (pv_i (x2 + (1 : Int32))), some (pv_i (nI (n1 + 1))), some (pv_i (I (m + 1) (200 + 14 * n1 + 4)))] [] (mm_si B I5) (qi_ (fun x M' => ∃ I', M' = mm_si B I' ∧ P x I'))
            refine go_goto (tgt := 50) dX11_hangs_134 (by decide) ?_
            exact go_fg (ls' := [some (pv_r m), some (pv_i x1), some (pv_i (x2 + (1 : Int32))), some (pv_i (nI (n1 + 1))), none]) ⟨rfl, ⟨rfl, ⟨rfl, ⟨rfl, trivial⟩⟩⟩⟩ H
        · replace H := H.2 hc
          refine go_V (av := [pv_i x3]) (st := [pv_i x3, pv_r (m + 12)]) (ci := 11) ok_X11_stands ⟨by decide, by decide⟩ ml_X11_98 rfl (by decide) (fun v hv => by simp only [List.mem_cons, List.not_mem_nil, or_false] at hv; rcases hv with rfl <;> first | exact pv_1i | exact pv_1r) (Nat.le_of_ble_eq_true rfl) (fun _ h => h) (by decide) rfl RK.1 dX11_hangs_91 (rx_stands_f RK hn1 (by omega) hc) (fun r M' hq _ => ?_)
          obtain ⟨_, rfl, _, rfl, rfl, rfl⟩ := hq
          show go_W mt_X11_hangs fr_R 94 [some (pv_r m), some (pv_i x1), some (pv_i x2), some (pv_i x3), some (pv_i (I (m + 1) (200 + 14 * n1 + 4)))] [pv_i (0 : Int32), pv_i x3, pv_r (m + 12)] (mm_si B I) (qi_ (fun x M' => ∃ I', M' = mm_si B I' ∧ P x I'))
          refine go_if_ne (tgt := 108) dX11_hangs_94 (by decide) (fun hc => absurd hc (by decide)) (fun _ => ?_)
          refine go_aload_n dX11_hangs_97 rfl ?_
          refine go_iload_n dX11_hangs_98 rfl ?_
          refine go_bipush (v := (6 : Int32)) rfl dX11_hangs_99 ?_
          refine go_V (av := [pv_i x3, pv_i (6 : Int32)]) (st := [pv_i x3, pv_r (m + 12)]) (ci := 11) ok_X11_of ⟨by decide, by decide⟩ ml_X11_94 rfl (by decide) (fun v hv => by simp only [List.mem_cons, List.not_mem_nil, or_false] at hv; rcases hv with rfl | rfl <;> first | exact pv_1i | exact pv_1r) (Nat.le_of_ble_eq_true rfl) (fun _ h => h) (by decide) rfl RK.1 dX11_hangs_101 (rx_of RK hn1 rfl (by omega) (by decide)) (fun r M' hq _ => ?_)
          obtain ⟨_, rfl, _, rfl, rfl, rfl⟩ := hq
          show go_W mt_X11_hangs fr_R 104 [some (pv_r m), some (pv_i x1), some (pv_i x2), some (pv_i x3), some (pv_i (I (m + 1) (200 + 14 * n1 + 4)))] [pv_i (I (m + 1) (200 + 14 * n1 + 6)), pv_i x3, pv_r (m + 12)] (mm_si B I) (qi_ (fun x M' => ∃ I', M' = mm_si B I' ∧ P x I'))
          refine go_iconst (v := (5 : Int32)) rfl dX11_hangs_104 ?_
          refine go_icmp_ne (tgt := 112) dX11_hangs_105 (by decide) (fun hc => ?_) (fun hc => ?_)
          · replace H := H.1 hc
            refine go_iconst (v := (0 : Int32)) rfl dX11_hangs_112 ?_
            refine go_zastN (Or.inl rfl) (j := n1) ⟨by decide, by decide, by decide⟩ (rf_k12 RK) rfl hn1 (by omega) dX11_hangs_113 ?_
            show go_W mt_X11_hangs fr_R 114 [some (pv_r m), some (pv_i x1), some (pv_i x2), some (pv_i x3), some (pv_i (I (m + 1) (200 + 14 * n1 + 4)))] [] (mm_si B (i2_u I (m + 12) n1 (0 : Int32))) (qi_ (fun x M' => ∃ I', M' = mm_si B I' ∧ P x I'))
            obtain ⟨I6, hI6⟩ : ∃ I', I' = i2_u I (m + 12) n1 (0 : Int32) := ⟨_, rfl⟩
            rw [← hI6]
            replace H := H I6 hI6
            refine go_iload_n dX11_hangs_114 rfl ?_
            refine go_aload_n dX11_hangs_115 rfl ?_
            refine go_getRe (k := 21) ⟨by decide, rfl, by decide, Or.inr ⟨_, rfl⟩⟩ RK.1 (rf_r12 RK) fl_X11_77 dX11_hangs_116 ?_
            refine go_iload_n dX11_hangs_119 rfl ?_
            refine go_zaldN (j := n1) ⟨by decide, by decide, by decide⟩ (rf_k12 RK) hn1 (by omega) dX11_hangs_120 ?_
            refine go_if_eq (tgt := 128) dX11_hangs_121 (by decide) (fun hc => ?_) (fun hc => ?_)
            · replace H := H.1 hc
              refine go_iconst (v := (0 : Int32)) rfl dX11_hangs_128 ?_
              refine go_iadd dX11_hangs_129 ?_
              refine go_istore_n (by decide) dX11_hangs_130 ?_
              show go_W mt_X11_hangs fr_R 131 [some (pv_r m), some (pv_i x1), some (pv_i (x2 + (0 : Int32))), some (pv_i x3), some (pv_i (I (m + 1) (200 + 14 * n1 + 4)))] [] (mm_si B I6) (qi_ (fun x M' => ∃ I', M' = mm_si B I' ∧ P x I'))
              refine go_iincN (n := n1) (k := 1) hn1 (by decide) rfl rfl dX11_hangs_131 ?_
              show go_W mt_X11_hangs fr_R 134 [some (pv_r m), some (pv_i x1), some (pv_i (x2 + (0 : Int32))), some (pv_i (nI (n1 + 1))), some (pv_i (I (m + 1) (200 + 14 * n1 + 4)))] [] (mm_si B I6) (qi_ (fun x M' => ∃ I', M' = mm_si B I' ∧ P x I'))
              refine go_goto (tgt := 50) dX11_hangs_134 (by decide) ?_
              exact go_fg (ls' := [some (pv_r m), some (pv_i x1), some (pv_i (x2 + (0 : Int32))), some (pv_i (nI (n1 + 1))), none]) ⟨rfl, ⟨rfl, ⟨rfl, ⟨rfl, trivial⟩⟩⟩⟩ H
            · replace H := H.2 hc
              refine go_iconst (v := (1 : Int32)) rfl dX11_hangs_124 ?_
              refine go_goto (tgt := 129) dX11_hangs_125 (by decide) ?_
              refine go_iadd dX11_hangs_129 ?_
              refine go_istore_n (by decide) dX11_hangs_130 ?_
              show go_W mt_X11_hangs fr_R 131 [some (pv_r m), some (pv_i x1), some (pv_i (x2 + (1 : Int32))), some (pv_i x3), some (pv_i (I (m + 1) (200 + 14 * n1 + 4)))] [] (mm_si B I6) (qi_ (fun x M' => ∃ I', M' = mm_si B I' ∧ P x I'))
              refine go_iincN (n := n1) (k := 1) hn1 (by decide) rfl rfl dX11_hangs_131 ?_
              show go_W mt_X11_hangs fr_R 134 [some (pv_r m), some (pv_i x1), some (pv_i (x2 + (1 : Int32))), some (pv_i (nI (n1 + 1))), some (pv_i (I (m + 1) (200 + 14 * n1 + 4)))] [] (mm_si B I6) (qi_ (fun x M' => ∃ I', M' = mm_si B I' ∧ P x I'))
              refine go_goto (tgt := 50) dX11_hangs_134 (by decide) ?_
              exact go_fg (ls' := [some (pv_r m), some (pv_i x1), some (pv_i (x2 + (1 : Int32))), some (pv_i (nI (n1 + 1))), none]) ⟨rfl, ⟨rfl, ⟨rfl, ⟨rfl, trivial⟩⟩⟩⟩ H
          · replace H := H.2 hc
            refine go_iconst (v := (1 : Int32)) rfl dX11_hangs_108 ?_
            refine go_goto (tgt := 113) dX11_hangs_109 (by decide) ?_
            refine go_zastN (Or.inr rfl) (j := n1) ⟨by decide, by decide, by decide⟩ (rf_k12 RK) rfl hn1 (by omega) dX11_hangs_113 ?_
            show go_W mt_X11_hangs fr_R 114 [some (pv_r m), some (pv_i x1), some (pv_i x2), some (pv_i x3), some (pv_i (I (m + 1) (200 + 14 * n1 + 4)))] [] (mm_si B (i2_u I (m + 12) n1 (1 : Int32))) (qi_ (fun x M' => ∃ I', M' = mm_si B I' ∧ P x I'))
            obtain ⟨I7, hI7⟩ : ∃ I', I' = i2_u I (m + 12) n1 (1 : Int32) := ⟨_, rfl⟩
            rw [← hI7]
            replace H := H I7 hI7
            refine go_iload_n dX11_hangs_114 rfl ?_
            refine go_aload_n dX11_hangs_115 rfl ?_
            refine go_getRe (k := 21) ⟨by decide, rfl, by decide, Or.inr ⟨_, rfl⟩⟩ RK.1 (rf_r12 RK) fl_X11_77 dX11_hangs_116 ?_
            refine go_iload_n dX11_hangs_119 rfl ?_
            refine go_zaldN (j := n1) ⟨by decide, by decide, by decide⟩ (rf_k12 RK) hn1 (by omega) dX11_hangs_120 ?_
            refine go_if_eq (tgt := 128) dX11_hangs_121 (by decide) (fun hc => ?_) (fun hc => ?_)
            · replace H := H.1 hc
              refine go_iconst (v := (0 : Int32)) rfl dX11_hangs_128 ?_
              refine go_iadd dX11_hangs_129 ?_
              refine go_istore_n (by decide) dX11_hangs_130 ?_
              show go_W mt_X11_hangs fr_R 131 [some (pv_r m), some (pv_i x1), some (pv_i (x2 + (0 : Int32))), some (pv_i x3), some (pv_i (I (m + 1) (200 + 14 * n1 + 4)))] [] (mm_si B I7) (qi_ (fun x M' => ∃ I', M' = mm_si B I' ∧ P x I'))
              refine go_iincN (n := n1) (k := 1) hn1 (by decide) rfl rfl dX11_hangs_131 ?_
              show go_W mt_X11_hangs fr_R 134 [some (pv_r m), some (pv_i x1), some (pv_i (x2 + (0 : Int32))), some (pv_i (nI (n1 + 1))), some (pv_i (I (m + 1) (200 + 14 * n1 + 4)))] [] (mm_si B I7) (qi_ (fun x M' => ∃ I', M' = mm_si B I' ∧ P x I'))
              refine go_goto (tgt := 50) dX11_hangs_134 (by decide) ?_
              exact go_fg (ls' := [some (pv_r m), some (pv_i x1), some (pv_i (x2 + (0 : Int32))), some (pv_i (nI (n1 + 1))), none]) ⟨rfl, ⟨rfl, ⟨rfl, ⟨rfl, trivial⟩⟩⟩⟩ H
            · replace H := H.2 hc
              refine go_iconst (v := (1 : Int32)) rfl dX11_hangs_124 ?_
              refine go_goto (tgt := 129) dX11_hangs_125 (by decide) ?_
              refine go_iadd dX11_hangs_129 ?_
              refine go_istore_n (by decide) dX11_hangs_130 ?_
              show go_W mt_X11_hangs fr_R 131 [some (pv_r m), some (pv_i x1), some (pv_i (x2 + (1 : Int32))), some (pv_i x3), some (pv_i (I (m + 1) (200 + 14 * n1 + 4)))] [] (mm_si B I7) (qi_ (fun x M' => ∃ I', M' = mm_si B I' ∧ P x I'))
              refine go_iincN (n := n1) (k := 1) hn1 (by decide) rfl rfl dX11_hangs_131 ?_
              show go_W mt_X11_hangs fr_R 134 [some (pv_r m), some (pv_i x1), some (pv_i (x2 + (1 : Int32))), some (pv_i (nI (n1 + 1))), some (pv_i (I (m + 1) (200 + 14 * n1 + 4)))] [] (mm_si B I7) (qi_ (fun x M' => ∃ I', M' = mm_si B I' ∧ P x I'))
              refine go_goto (tgt := 50) dX11_hangs_134 (by decide) ?_
              exact go_fg (ls' := [some (pv_r m), some (pv_i x1), some (pv_i (x2 + (1 : Int32))), some (pv_i (nI (n1 + 1))), none]) ⟨rfl, ⟨rfl, ⟨rfl, ⟨rfl, trivial⟩⟩⟩⟩ H
set_option maxRecDepth 20000 in
theorem wq_X11_spread_0 {B : mm_T} {I : Nat → Nat → Int32} {m : Nat} (RK : rf_ok B m) {x1 : Int32} {P : Int32 → (Nat → Nat → Int32) → Prop} (H : (((((0 : Int32) ≤ x1 ∧ x1 ≤ (2 : Int32))) → rw_i mt_X11_spread 18 [some (pv_r m), some (pv_i x1), some (pv_i (-1 : Int32)), some (pv_i (-1 : Int32)), some (pv_i (0 : Int32))] [] B I P) ∧ ((¬ ((0 : Int32) ≤ x1 ∧ x1 ≤ (2 : Int32))) → P (-1 : Int32) I))) : rw_i mt_X11_spread 0 [some (pv_r m), some (pv_i x1), none, none, none] [] B I P := by
  refine go_iload_n dX11_spread_0 rfl ?_
  refine go_iconst (v := (0 : Int32)) rfl dX11_spread_1 ?_
  refine go_iconst (v := (2 : Int32)) rfl dX11_spread_2 ?_
  by_cases hc : ((0 : Int32) ≤ x1 ∧ x1 ≤ (2 : Int32))
  · replace H := H.1 hc
    refine go_St (av := [pv_i x1, pv_i (0 : Int32), pv_i (2 : Int32)]) (st := []) ok_X11_isIn ⟨by decide, by decide⟩ ml_X11_90 rfl (by decide) (fun v hv => by simp only [List.mem_cons, List.not_mem_nil, or_false] at hv; rcases hv with rfl | rfl | rfl <;> first | exact pv_1i | exact pv_1r) (Nat.le_of_ble_eq_true rfl) (fun _ h => h) dX11_spread_3 (rx_isIn_t RK hc) (fun r M' hq _ => ?_)
    obtain ⟨_, rfl, _, rfl, rfl, rfl⟩ := hq
    show go_W mt_X11_spread fr_R 6 [some (pv_r m), some (pv_i x1), none, none, none] [pv_i (1 : Int32)] (mm_si B I) (qi_ (fun x M' => ∃ I', M' = mm_si B I' ∧ P x I'))
    refine go_if_ne (tgt := 11) dX11_spread_6 (by decide) (fun _ => ?_) (fun hc => absurd hc (by decide))
    refine go_iconst (v := (-1 : Int32)) rfl dX11_spread_11 ?_
    refine go_istore_n (by decide) dX11_spread_12 ?_
    show go_W mt_X11_spread fr_R 13 [some (pv_r m), some (pv_i x1), some (pv_i (-1 : Int32)), none, none] [] (mm_si B I) (qi_ (fun x M' => ∃ I', M' = mm_si B I' ∧ P x I'))
    refine go_iconst (v := (-1 : Int32)) rfl dX11_spread_13 ?_
    refine go_istore_n (by decide) dX11_spread_14 ?_
    show go_W mt_X11_spread fr_R 15 [some (pv_r m), some (pv_i x1), some (pv_i (-1 : Int32)), some (pv_i (-1 : Int32)), none] [] (mm_si B I) (qi_ (fun x M' => ∃ I', M' = mm_si B I' ∧ P x I'))
    refine go_iconst (v := (0 : Int32)) rfl dX11_spread_15 ?_
    refine go_istore (by decide) dX11_spread_16 ?_
    show go_W mt_X11_spread fr_R 18 [some (pv_r m), some (pv_i x1), some (pv_i (-1 : Int32)), some (pv_i (-1 : Int32)), some (pv_i (0 : Int32))] [] (mm_si B I) (qi_ (fun x M' => ∃ I', M' = mm_si B I' ∧ P x I'))
    exact H
  · replace H := H.2 hc
    refine go_St (av := [pv_i x1, pv_i (0 : Int32), pv_i (2 : Int32)]) (st := []) ok_X11_isIn ⟨by decide, by decide⟩ ml_X11_90 rfl (by decide) (fun v hv => by simp only [List.mem_cons, List.not_mem_nil, or_false] at hv; rcases hv with rfl | rfl | rfl <;> first | exact pv_1i | exact pv_1r) (Nat.le_of_ble_eq_true rfl) (fun _ h => h) dX11_spread_3 (rx_isIn_f RK hc) (fun r M' hq _ => ?_)
    obtain ⟨_, rfl, _, rfl, rfl, rfl⟩ := hq
    show go_W mt_X11_spread fr_R 6 [some (pv_r m), some (pv_i x1), none, none, none] [pv_i (0 : Int32)] (mm_si B I) (qi_ (fun x M' => ∃ I', M' = mm_si B I' ∧ P x I'))
    refine go_if_ne (tgt := 11) dX11_spread_6 (by decide) (fun hc => absurd hc (by decide)) (fun _ => ?_)
    refine go_iconst (v := (-1 : Int32)) rfl dX11_spread_9 ?_
    exact go_iret rfl rfl dX11_spread_10 ⟨_, rfl, _, rfl, H⟩
set_option maxRecDepth 20000 in
theorem wq_X11_spread_18 {B : mm_T} {I : Nat → Nat → Int32} {m : Nat} (RK : rf_ok B m) {x1 x2 x3 x4 : Int32} {P : Int32 → (Nat → Nat → Int32) → Prop} (H : ((((5 : Int32) ≤ x4) → (((¬ x2 = (-1 : Int32)) → (((¬ x1 = 0) → (((¬ x1 = (1 : Int32)) → P x3 I) ∧ ((x1 = (1 : Int32)) → P x2 I))) ∧ ((x1 = 0) → ∃ n1, (x2 = nI n1 ∧ n1 < 5) ∧ (∃ n2, (x3 = nI n2 ∧ n2 < 5) ∧ (P (I (m + 1) ((10 + 10 * n1) + 4) - I (m + 1) ((10 + 10 * n2) + 4)) I))))) ∧ ((x2 = (-1 : Int32)) → P (-1 : Int32) I))) ∧ ((¬ (5 : Int32) ≤ x4) → rs_i mt_X11_isLive [pv_r m, pv_i x4] B I (fun v4 I3 => (((¬ v4 = 0) → (((x2 = (-1 : Int32)) → (((x3 = (-1 : Int32)) → rw_i mt_X11_spread 18 [some (pv_r m), some (pv_i x1), some (pv_i x4), some (pv_i x4), some (pv_i (x4 + (1 : Int32)))] [] B I3 P) ∧ ((¬ x3 = (-1 : Int32)) → ∃ n5, (x4 = nI n5 ∧ n5 < 5) ∧ (∃ n6, (x3 = nI n6 ∧ n6 < 5) ∧ ((((I3 (m + 1) ((10 + 10 * n6) + 4) ≤ I3 (m + 1) ((10 + 10 * n5) + 4)) → rw_i mt_X11_spread 18 [some (pv_r m), some (pv_i x1), some (pv_i x4), some (pv_i x3), some (pv_i (nI (n5 + 1)))] [] B I3 P) ∧ ((¬ I3 (m + 1) ((10 + 10 * n6) + 4) ≤ I3 (m + 1) ((10 + 10 * n5) + 4)) → rw_i mt_X11_spread 18 [some (pv_r m), some (pv_i x1), some (pv_i x4), some (pv_i x4), some (pv_i (nI (n5 + 1)))] [] B I3 P))))))) ∧ ((¬ x2 = (-1 : Int32)) → ∃ n7, (x4 = nI n7 ∧ n7 < 5) ∧ (∃ n8, (x2 = nI n8 ∧ n8 < 5) ∧ ((((I3 (m + 1) ((10 + 10 * n7) + 4) ≤ I3 (m + 1) ((10 + 10 * n8) + 4)) → (((x3 = (-1 : Int32)) → rw_i mt_X11_spread 18 [some (pv_r m), some (pv_i x1), some (pv_i x2), some (pv_i x4), some (pv_i (nI (n7 + 1)))] [] B I3 P) ∧ ((¬ x3 = (-1 : Int32)) → ∃ n9, (x3 = nI n9 ∧ n9 < 5) ∧ ((((I3 (m + 1) ((10 + 10 * n9) + 4) ≤ I3 (m + 1) ((10 + 10 * n7) + 4)) → rw_i mt_X11_spread 18 [some (pv_r m), some (pv_i x1), some (pv_i x2), some (pv_i x3), some (pv_i (nI (n7 + 1)))] [] B I3 P) ∧ ((¬ I3 (m + 1) ((10 + 10 * n9) + 4) ≤ I3 (m + 1) ((10 + 10 * n7) + 4)) → rw_i mt_X11_spread 18 [some (pv_r m), some (pv_i x1), some (pv_i x2), some (pv_i x4), some (pv_i (nI (n7 + 1)))] [] B I3 P)))))) ∧ ((¬ I3 (m + 1) ((10 + 10 * n7) + 4) ≤ I3 (m + 1) ((10 + 10 * n8) + 4)) → (((x3 = (-1 : Int32)) → rw_i mt_X11_spread 18 [some (pv_r m), some (pv_i x1), some (pv_i x4), some (pv_i x4), some (pv_i (nI (n7 + 1)))] [] B I3 P) ∧ ((¬ x3 = (-1 : Int32)) → ∃ n10, (x3 = nI n10 ∧ n10 < 5) ∧ ((((I3 (m + 1) ((10 + 10 * n10) + 4) ≤ I3 (m + 1) ((10 + 10 * n7) + 4)) → rw_i mt_X11_spread 18 [some (pv_r m), some (pv_i x1), some (pv_i x4), some (pv_i x3), some (pv_i (nI (n7 + 1)))] [] B I3 P) ∧ ((¬ I3 (m + 1) ((10 + 10 * n10) + 4) ≤ I3 (m + 1) ((10 + 10 * n7) + 4)) → rw_i mt_X11_spread 18 [some (pv_r m), some (pv_i x1), some (pv_i x4), some (pv_i x4), some (pv_i (nI (n7 + 1)))] [] B I3 P)))))))))))) ∧ ((v4 = 0) → rw_i mt_X11_spread 18 [some (pv_r m), some (pv_i x1), some (pv_i x2), some (pv_i x3), some (pv_i (x4 + (1 : Int32)))] [] B I3 P)))))) : rw_i mt_X11_spread 18 [some (pv_r m), some (pv_i x1), some (pv_i x2), some (pv_i x3), some (pv_i x4)] [] B I P := by
  refine go_iload dX11_spread_18 rfl ?_
  refine go_iconst (v := (5 : Int32)) rfl dX11_spread_20 ?_
  refine go_icmp_ge (tgt := 118) dX11_spread_21 (by decide) (fun hc => ?_) (fun hc => ?_)
  · replace H := H.1 hc
    refine go_iload_n dX11_spread_118 rfl ?_
    refine go_iconst (v := (-1 : Int32)) rfl dX11_spread_119 ?_
    refine go_icmp_ne (tgt := 125) dX11_spread_120 (by decide) (fun hc => ?_) (fun hc => ?_)
    · replace H := H.1 hc
      refine go_iload_n dX11_spread_125 rfl ?_
      refine go_if_ne (tgt := 155) dX11_spread_126 (by decide) (fun hc => ?_) (fun hc => ?_)
      · replace H := H.1 hc
        refine go_iload_n dX11_spread_155 rfl ?_
        refine go_iconst (v := (1 : Int32)) rfl dX11_spread_156 ?_
        refine go_icmp_ne (tgt := 164) dX11_spread_157 (by decide) (fun hc => ?_) (fun hc => ?_)
        · replace H := H.1 hc
          refine go_iload_n dX11_spread_164 rfl ?_
          exact go_iret rfl rfl dX11_spread_165 ⟨_, rfl, _, rfl, H⟩
        · replace H := H.2 hc
          refine go_iload_n dX11_spread_160 rfl ?_
          refine go_goto (tgt := 165) dX11_spread_161 (by decide) ?_
          exact go_iret rfl rfl dX11_spread_165 ⟨_, rfl, _, rfl, H⟩
      · replace H := H.2 hc
        refine go_aload_n dX11_spread_129 rfl ?_
        refine go_getRe (k := 0) ⟨by decide, rfl, by decide, Or.inr ⟨_, rfl⟩⟩ RK.1 (rf_r1 RK) fl_X11_7 dX11_spread_130 ?_
        refine go_iload_n dX11_spread_133 rfl ?_
        obtain ⟨n1, ⟨hn1, hn1b⟩, H⟩ := H
        refine go_St (av := [pv_i x2]) (st := [pv_r (m + 1)]) ok_X11_at ⟨by decide, by decide⟩ ml_X11_80 rfl (by decide) (fun v hv => by simp only [List.mem_cons, List.not_mem_nil, or_false] at hv; rcases hv with rfl <;> first | exact pv_1i | exact pv_1r) (Nat.le_of_ble_eq_true rfl) (fun _ h => h) dX11_spread_134 (rx_at RK hn1) (fun r M' hq _ => ?_)
        obtain ⟨_, rfl, _, rfl, rfl, rfl⟩ := hq
        show go_W mt_X11_spread fr_R 137 [some (pv_r m), some (pv_i x1), some (pv_i x2), some (pv_i x3), some (pv_i x4)] [pv_i (nI (10 + 10 * n1)), pv_r (m + 1)] (mm_si B I) (qi_ (fun x M' => ∃ I', M' = mm_si B I' ∧ P x I'))
        refine go_iconst (v := (4 : Int32)) rfl dX11_spread_137 ?_
        refine go_iadd dX11_spread_138 ?_
        refine go_ialdN (j := ((10 + 10 * n1) + 4)) ⟨by decide, by decide, by decide⟩ (rf_k1 RK) (nI_ae rfl rfl) (by omega) dX11_spread_139 ?_
        refine go_aload_n dX11_spread_140 rfl ?_
        refine go_getRe (k := 0) ⟨by decide, rfl, by decide, Or.inr ⟨_, rfl⟩⟩ RK.1 (rf_r1 RK) fl_X11_7 dX11_spread_141 ?_
        refine go_iload_n dX11_spread_144 rfl ?_
        obtain ⟨n2, ⟨hn2, hn2b⟩, H⟩ := H
        refine go_St (av := [pv_i x3]) (st := [pv_r (m + 1), pv_i (I (m + 1) ((10 + 10 * n1) + 4))]) ok_X11_at ⟨by decide, by decide⟩ ml_X11_80 rfl (by decide) (fun v hv => by simp only [List.mem_cons, List.not_mem_nil, or_false] at hv; rcases hv with rfl <;> first | exact pv_1i | exact pv_1r) (Nat.le_of_ble_eq_true rfl) (fun _ h => h) dX11_spread_145 (rx_at RK hn2) (fun r M' hq _ => ?_)
        obtain ⟨_, rfl, _, rfl, rfl, rfl⟩ := hq
        show go_W mt_X11_spread fr_R 148 [some (pv_r m), some (pv_i x1), some (pv_i x2), some (pv_i x3), some (pv_i x4)] [pv_i (nI (10 + 10 * n2)), pv_r (m + 1), pv_i (I (m + 1) ((10 + 10 * n1) + 4))] (mm_si B I) (qi_ (fun x M' => ∃ I', M' = mm_si B I' ∧ P x I'))
        refine go_iconst (v := (4 : Int32)) rfl dX11_spread_148 ?_
        refine go_iadd dX11_spread_149 ?_
        refine go_ialdN (j := ((10 + 10 * n2) + 4)) ⟨by decide, by decide, by decide⟩ (rf_k1 RK) (nI_ae rfl rfl) (by omega) dX11_spread_150 ?_
        refine go_isub dX11_spread_151 ?_
        refine go_goto (tgt := 165) dX11_spread_152 (by decide) ?_
        exact go_iret rfl rfl dX11_spread_165 ⟨_, rfl, _, rfl, H⟩
    · replace H := H.2 hc
      refine go_iconst (v := (-1 : Int32)) rfl dX11_spread_123 ?_
      exact go_iret rfl rfl dX11_spread_124 ⟨_, rfl, _, rfl, H⟩
  · replace H := H.2 hc
    refine go_aload_n dX11_spread_24 rfl ?_
    refine go_iload dX11_spread_25 rfl ?_
    refine go_V (av := [pv_i x4]) (st := []) (ci := 11) ok_X11_isLive ⟨by decide, by decide⟩ ml_X11_109 rfl (by decide) (fun v hv => by simp only [List.mem_cons, List.not_mem_nil, or_false] at hv; rcases hv with rfl <;> first | exact pv_1i | exact pv_1r) (Nat.le_of_ble_eq_true rfl) (fun _ h => h) (by decide) rfl RK.1 dX11_spread_27 H (fun r M' hq _ => ?_)
    obtain ⟨v4, rfl, I3, rfl, H⟩ := hq
    show go_W mt_X11_spread fr_R 30 [some (pv_r m), some (pv_i x1), some (pv_i x2), some (pv_i x3), some (pv_i x4)] [pv_i v4] (mm_si B I3) (qi_ (fun x M' => ∃ I', M' = mm_si B I' ∧ P x I'))
    refine go_if_ne (tgt := 36) dX11_spread_30 (by decide) (fun hc => ?_) (fun hc => ?_)
    · replace H := H.1 hc
      refine go_iload_n dX11_spread_36 rfl ?_
      refine go_iconst (v := (-1 : Int32)) rfl dX11_spread_37 ?_
      refine go_icmp_eq (tgt := 67) dX11_spread_38 (by decide) (fun hc => ?_) (fun hc => ?_)
      · replace H := H.1 hc
        refine go_iload dX11_spread_67 rfl ?_
        refine go_goto (tgt := 73) dX11_spread_69 (by decide) ?_
        refine go_istore_n (by decide) dX11_spread_73 ?_
        show go_W mt_X11_spread fr_R 74 [some (pv_r m), some (pv_i x1), some (pv_i x4), some (pv_i x3), some (pv_i x4)] [] (mm_si B I3) (qi_ (fun x M' => ∃ I', M' = mm_si B I' ∧ P x I'))
        refine go_iload_n dX11_spread_74 rfl ?_
        refine go_iconst (v := (-1 : Int32)) rfl dX11_spread_75 ?_
        refine go_icmp_eq (tgt := 105) dX11_spread_76 (by decide) (fun hc => ?_) (fun hc => ?_)
        · replace H := H.1 hc
          refine go_iload dX11_spread_105 rfl ?_
          refine go_goto (tgt := 111) dX11_spread_107 (by decide) ?_
          refine go_istore_n (by decide) dX11_spread_111 ?_
          show go_W mt_X11_spread fr_R 112 [some (pv_r m), some (pv_i x1), some (pv_i x4), some (pv_i x4), some (pv_i x4)] [] (mm_si B I3) (qi_ (fun x M' => ∃ I', M' = mm_si B I' ∧ P x I'))
          refine go_iinc (v := (1 : Int32)) (by decide) rfl rfl dX11_spread_112 ?_
          show go_W mt_X11_spread fr_R 115 [some (pv_r m), some (pv_i x1), some (pv_i x4), some (pv_i x4), some (pv_i (x4 + (1 : Int32)))] [] (mm_si B I3) (qi_ (fun x M' => ∃ I', M' = mm_si B I' ∧ P x I'))
          refine go_goto (tgt := 18) dX11_spread_115 (by decide) ?_
          exact H
        · replace H := H.2 hc
          refine go_aload_n dX11_spread_79 rfl ?_
          refine go_getRe (k := 0) ⟨by decide, rfl, by decide, Or.inr ⟨_, rfl⟩⟩ RK.1 (rf_r1 RK) fl_X11_7 dX11_spread_80 ?_
          refine go_iload dX11_spread_83 rfl ?_
          obtain ⟨n5, ⟨hn5, hn5b⟩, H⟩ := H
          refine go_St (av := [pv_i x4]) (st := [pv_r (m + 1)]) ok_X11_at ⟨by decide, by decide⟩ ml_X11_80 rfl (by decide) (fun v hv => by simp only [List.mem_cons, List.not_mem_nil, or_false] at hv; rcases hv with rfl <;> first | exact pv_1i | exact pv_1r) (Nat.le_of_ble_eq_true rfl) (fun _ h => h) dX11_spread_85 (rx_at RK hn5) (fun r M' hq _ => ?_)
          obtain ⟨_, rfl, _, rfl, rfl, rfl⟩ := hq
          show go_W mt_X11_spread fr_R 88 [some (pv_r m), some (pv_i x1), some (pv_i x4), some (pv_i x3), some (pv_i x4)] [pv_i (nI (10 + 10 * n5)), pv_r (m + 1)] (mm_si B I3) (qi_ (fun x M' => ∃ I', M' = mm_si B I' ∧ P x I'))
          refine go_iconst (v := (4 : Int32)) rfl dX11_spread_88 ?_
          refine go_iadd dX11_spread_89 ?_
          refine go_ialdN (j := ((10 + 10 * n5) + 4)) ⟨by decide, by decide, by decide⟩ (rf_k1 RK) (nI_ae rfl rfl) (by omega) dX11_spread_90 ?_
          refine go_aload_n dX11_spread_91 rfl ?_
          refine go_getRe (k := 0) ⟨by decide, rfl, by decide, Or.inr ⟨_, rfl⟩⟩ RK.1 (rf_r1 RK) fl_X11_7 dX11_spread_92 ?_
          refine go_iload_n dX11_spread_95 rfl ?_
          obtain ⟨n6, ⟨hn6, hn6b⟩, H⟩ := H
          refine go_St (av := [pv_i x3]) (st := [pv_r (m + 1), pv_i (I3 (m + 1) ((10 + 10 * n5) + 4))]) ok_X11_at ⟨by decide, by decide⟩ ml_X11_80 rfl (by decide) (fun v hv => by simp only [List.mem_cons, List.not_mem_nil, or_false] at hv; rcases hv with rfl <;> first | exact pv_1i | exact pv_1r) (Nat.le_of_ble_eq_true rfl) (fun _ h => h) dX11_spread_96 (rx_at RK hn6) (fun r M' hq _ => ?_)
          obtain ⟨_, rfl, _, rfl, rfl, rfl⟩ := hq
          show go_W mt_X11_spread fr_R 99 [some (pv_r m), some (pv_i x1), some (pv_i x4), some (pv_i x3), some (pv_i x4)] [pv_i (nI (10 + 10 * n6)), pv_r (m + 1), pv_i (I3 (m + 1) ((10 + 10 * n5) + 4))] (mm_si B I3) (qi_ (fun x M' => ∃ I', M' = mm_si B I' ∧ P x I'))
          refine go_iconst (v := (4 : Int32)) rfl dX11_spread_99 ?_
          refine go_iadd dX11_spread_100 ?_
          refine go_ialdN (j := ((10 + 10 * n6) + 4)) ⟨by decide, by decide, by decide⟩ (rf_k1 RK) (nI_ae rfl rfl) (by omega) dX11_spread_101 ?_
          refine go_icmp_ge (tgt := 110) dX11_spread_102 (by decide) (fun hc => ?_) (fun hc => ?_)
          · replace H := H.1 hc
            refine go_iload_n dX11_spread_110 rfl ?_
            refine go_istore_n (by decide) dX11_spread_111 ?_
            show go_W mt_X11_spread fr_R 112 [some (pv_r m), some (pv_i x1), some (pv_i x4), some (pv_i x3), some (pv_i x4)] [] (mm_si B I3) (qi_ (fun x M' => ∃ I', M' = mm_si B I' ∧ P x I'))
            refine go_iincN (n := n5) (k := 1) hn5 (by decide) rfl rfl dX11_spread_112 ?_
            show go_W mt_X11_spread fr_R 115 [some (pv_r m), some (pv_i x1), some (pv_i x4), some (pv_i x3), some (pv_i (nI (n5 + 1)))] [] (mm_si B I3) (qi_ (fun x M' => ∃ I', M' = mm_si B I' ∧ P x I'))
            refine go_goto (tgt := 18) dX11_spread_115 (by decide) ?_
            exact H
          · replace H := H.2 hc
            refine go_iload dX11_spread_105 rfl ?_
            refine go_goto (tgt := 111) dX11_spread_107 (by decide) ?_
            refine go_istore_n (by decide) dX11_spread_111 ?_
            show go_W mt_X11_spread fr_R 112 [some (pv_r m), some (pv_i x1), some (pv_i x4), some (pv_i x4), some (pv_i x4)] [] (mm_si B I3) (qi_ (fun x M' => ∃ I', M' = mm_si B I' ∧ P x I'))
            refine go_iincN (n := n5) (k := 1) hn5 (by decide) rfl rfl dX11_spread_112 ?_
            show go_W mt_X11_spread fr_R 115 [some (pv_r m), some (pv_i x1), some (pv_i x4), some (pv_i x4), some (pv_i (nI (n5 + 1)))] [] (mm_si B I3) (qi_ (fun x M' => ∃ I', M' = mm_si B I' ∧ P x I'))
            refine go_goto (tgt := 18) dX11_spread_115 (by decide) ?_
            exact H
      · replace H := H.2 hc
        refine go_aload_n dX11_spread_41 rfl ?_
        refine go_getRe (k := 0) ⟨by decide, rfl, by decide, Or.inr ⟨_, rfl⟩⟩ RK.1 (rf_r1 RK) fl_X11_7 dX11_spread_42 ?_
        refine go_iload dX11_spread_45 rfl ?_
        obtain ⟨n7, ⟨hn7, hn7b⟩, H⟩ := H
        refine go_St (av := [pv_i x4]) (st := [pv_r (m + 1)]) ok_X11_at ⟨by decide, by decide⟩ ml_X11_80 rfl (by decide) (fun v hv => by simp only [List.mem_cons, List.not_mem_nil, or_false] at hv; rcases hv with rfl <;> first | exact pv_1i | exact pv_1r) (Nat.le_of_ble_eq_true rfl) (fun _ h => h) dX11_spread_47 (rx_at RK hn7) (fun r M' hq _ => ?_)
        obtain ⟨_, rfl, _, rfl, rfl, rfl⟩ := hq
        show go_W mt_X11_spread fr_R 50 [some (pv_r m), some (pv_i x1), some (pv_i x2), some (pv_i x3), some (pv_i x4)] [pv_i (nI (10 + 10 * n7)), pv_r (m + 1)] (mm_si B I3) (qi_ (fun x M' => ∃ I', M' = mm_si B I' ∧ P x I'))
        refine go_iconst (v := (4 : Int32)) rfl dX11_spread_50 ?_
        refine go_iadd dX11_spread_51 ?_
        refine go_ialdN (j := ((10 + 10 * n7) + 4)) ⟨by decide, by decide, by decide⟩ (rf_k1 RK) (nI_ae rfl rfl) (by omega) dX11_spread_52 ?_
        refine go_aload_n dX11_spread_53 rfl ?_
        refine go_getRe (k := 0) ⟨by decide, rfl, by decide, Or.inr ⟨_, rfl⟩⟩ RK.1 (rf_r1 RK) fl_X11_7 dX11_spread_54 ?_
        refine go_iload_n dX11_spread_57 rfl ?_
        obtain ⟨n8, ⟨hn8, hn8b⟩, H⟩ := H
        refine go_St (av := [pv_i x2]) (st := [pv_r (m + 1), pv_i (I3 (m + 1) ((10 + 10 * n7) + 4))]) ok_X11_at ⟨by decide, by decide⟩ ml_X11_80 rfl (by decide) (fun v hv => by simp only [List.mem_cons, List.not_mem_nil, or_false] at hv; rcases hv with rfl <;> first | exact pv_1i | exact pv_1r) (Nat.le_of_ble_eq_true rfl) (fun _ h => h) dX11_spread_58 (rx_at RK hn8) (fun r M' hq _ => ?_)
        obtain ⟨_, rfl, _, rfl, rfl, rfl⟩ := hq
        show go_W mt_X11_spread fr_R 61 [some (pv_r m), some (pv_i x1), some (pv_i x2), some (pv_i x3), some (pv_i x4)] [pv_i (nI (10 + 10 * n8)), pv_r (m + 1), pv_i (I3 (m + 1) ((10 + 10 * n7) + 4))] (mm_si B I3) (qi_ (fun x M' => ∃ I', M' = mm_si B I' ∧ P x I'))
        refine go_iconst (v := (4 : Int32)) rfl dX11_spread_61 ?_
        refine go_iadd dX11_spread_62 ?_
        refine go_ialdN (j := ((10 + 10 * n8) + 4)) ⟨by decide, by decide, by decide⟩ (rf_k1 RK) (nI_ae rfl rfl) (by omega) dX11_spread_63 ?_
        refine go_icmp_le (tgt := 72) dX11_spread_64 (by decide) (fun hc => ?_) (fun hc => ?_)
        · replace H := H.1 hc
          refine go_iload_n dX11_spread_72 rfl ?_
          refine go_istore_n (by decide) dX11_spread_73 ?_
          show go_W mt_X11_spread fr_R 74 [some (pv_r m), some (pv_i x1), some (pv_i x2), some (pv_i x3), some (pv_i x4)] [] (mm_si B I3) (qi_ (fun x M' => ∃ I', M' = mm_si B I' ∧ P x I'))
          refine go_iload_n dX11_spread_74 rfl ?_
          refine go_iconst (v := (-1 : Int32)) rfl dX11_spread_75 ?_
          refine go_icmp_eq (tgt := 105) dX11_spread_76 (by decide) (fun hc => ?_) (fun hc => ?_)
          · replace H := H.1 hc
            refine go_iload dX11_spread_105 rfl ?_
            refine go_goto (tgt := 111) dX11_spread_107 (by decide) ?_
            refine go_istore_n (by decide) dX11_spread_111 ?_
            show go_W mt_X11_spread fr_R 112 [some (pv_r m), some (pv_i x1), some (pv_i x2), some (pv_i x4), some (pv_i x4)] [] (mm_si B I3) (qi_ (fun x M' => ∃ I', M' = mm_si B I' ∧ P x I'))
            refine go_iincN (n := n7) (k := 1) hn7 (by decide) rfl rfl dX11_spread_112 ?_
            show go_W mt_X11_spread fr_R 115 [some (pv_r m), some (pv_i x1), some (pv_i x2), some (pv_i x4), some (pv_i (nI (n7 + 1)))] [] (mm_si B I3) (qi_ (fun x M' => ∃ I', M' = mm_si B I' ∧ P x I'))
            refine go_goto (tgt := 18) dX11_spread_115 (by decide) ?_
            exact H
          · replace H := H.2 hc
            refine go_aload_n dX11_spread_79 rfl ?_
            refine go_getRe (k := 0) ⟨by decide, rfl, by decide, Or.inr ⟨_, rfl⟩⟩ RK.1 (rf_r1 RK) fl_X11_7 dX11_spread_80 ?_
            refine go_iload dX11_spread_83 rfl ?_
            refine go_St (av := [pv_i x4]) (st := [pv_r (m + 1)]) ok_X11_at ⟨by decide, by decide⟩ ml_X11_80 rfl (by decide) (fun v hv => by simp only [List.mem_cons, List.not_mem_nil, or_false] at hv; rcases hv with rfl <;> first | exact pv_1i | exact pv_1r) (Nat.le_of_ble_eq_true rfl) (fun _ h => h) dX11_spread_85 (rx_at RK hn7) (fun r M' hq _ => ?_)
            obtain ⟨_, rfl, _, rfl, rfl, rfl⟩ := hq
            show go_W mt_X11_spread fr_R 88 [some (pv_r m), some (pv_i x1), some (pv_i x2), some (pv_i x3), some (pv_i x4)] [pv_i (nI (10 + 10 * n7)), pv_r (m + 1)] (mm_si B I3) (qi_ (fun x M' => ∃ I', M' = mm_si B I' ∧ P x I'))
            refine go_iconst (v := (4 : Int32)) rfl dX11_spread_88 ?_
            refine go_iadd dX11_spread_89 ?_
            refine go_ialdN (j := ((10 + 10 * n7) + 4)) ⟨by decide, by decide, by decide⟩ (rf_k1 RK) (nI_ae rfl rfl) (by omega) dX11_spread_90 ?_
            refine go_aload_n dX11_spread_91 rfl ?_
            refine go_getRe (k := 0) ⟨by decide, rfl, by decide, Or.inr ⟨_, rfl⟩⟩ RK.1 (rf_r1 RK) fl_X11_7 dX11_spread_92 ?_
            refine go_iload_n dX11_spread_95 rfl ?_
            obtain ⟨n9, ⟨hn9, hn9b⟩, H⟩ := H
            refine go_St (av := [pv_i x3]) (st := [pv_r (m + 1), pv_i (I3 (m + 1) ((10 + 10 * n7) + 4))]) ok_X11_at ⟨by decide, by decide⟩ ml_X11_80 rfl (by decide) (fun v hv => by simp only [List.mem_cons, List.not_mem_nil, or_false] at hv; rcases hv with rfl <;> first | exact pv_1i | exact pv_1r) (Nat.le_of_ble_eq_true rfl) (fun _ h => h) dX11_spread_96 (rx_at RK hn9) (fun r M' hq _ => ?_)
            obtain ⟨_, rfl, _, rfl, rfl, rfl⟩ := hq
            show go_W mt_X11_spread fr_R 99 [some (pv_r m), some (pv_i x1), some (pv_i x2), some (pv_i x3), some (pv_i x4)] [pv_i (nI (10 + 10 * n9)), pv_r (m + 1), pv_i (I3 (m + 1) ((10 + 10 * n7) + 4))] (mm_si B I3) (qi_ (fun x M' => ∃ I', M' = mm_si B I' ∧ P x I'))
            refine go_iconst (v := (4 : Int32)) rfl dX11_spread_99 ?_
            refine go_iadd dX11_spread_100 ?_
            refine go_ialdN (j := ((10 + 10 * n9) + 4)) ⟨by decide, by decide, by decide⟩ (rf_k1 RK) (nI_ae rfl rfl) (by omega) dX11_spread_101 ?_
            refine go_icmp_ge (tgt := 110) dX11_spread_102 (by decide) (fun hc => ?_) (fun hc => ?_)
            · replace H := H.1 hc
              refine go_iload_n dX11_spread_110 rfl ?_
              refine go_istore_n (by decide) dX11_spread_111 ?_
              show go_W mt_X11_spread fr_R 112 [some (pv_r m), some (pv_i x1), some (pv_i x2), some (pv_i x3), some (pv_i x4)] [] (mm_si B I3) (qi_ (fun x M' => ∃ I', M' = mm_si B I' ∧ P x I'))
              refine go_iincN (n := n7) (k := 1) hn7 (by decide) rfl rfl dX11_spread_112 ?_
              show go_W mt_X11_spread fr_R 115 [some (pv_r m), some (pv_i x1), some (pv_i x2), some (pv_i x3), some (pv_i (nI (n7 + 1)))] [] (mm_si B I3) (qi_ (fun x M' => ∃ I', M' = mm_si B I' ∧ P x I'))
              refine go_goto (tgt := 18) dX11_spread_115 (by decide) ?_
              exact H
            · replace H := H.2 hc
              refine go_iload dX11_spread_105 rfl ?_
              refine go_goto (tgt := 111) dX11_spread_107 (by decide) ?_
              refine go_istore_n (by decide) dX11_spread_111 ?_
              show go_W mt_X11_spread fr_R 112 [some (pv_r m), some (pv_i x1), some (pv_i x2), some (pv_i x4), some (pv_i x4)] [] (mm_si B I3) (qi_ (fun x M' => ∃ I', M' = mm_si B I' ∧ P x I'))
              refine go_iincN (n := n7) (k := 1) hn7 (by decide) rfl rfl dX11_spread_112 ?_
              show go_W mt_X11_spread fr_R 115 [some (pv_r m), some (pv_i x1), some (pv_i x2), some (pv_i x4), some (pv_i (nI (n7 + 1)))] [] (mm_si B I3) (qi_ (fun x M' => ∃ I', M' = mm_si B I' ∧ P x I'))
              refine go_goto (tgt := 18) dX11_spread_115 (by decide) ?_
              exact H
        · replace H := H.2 hc
          refine go_iload dX11_spread_67 rfl ?_
          refine go_goto (tgt := 73) dX11_spread_69 (by decide) ?_
          refine go_istore_n (by decide) dX11_spread_73 ?_
          show go_W mt_X11_spread fr_R 74 [some (pv_r m), some (pv_i x1), some (pv_i x4), some (pv_i x3), some (pv_i x4)] [] (mm_si B I3) (qi_ (fun x M' => ∃ I', M' = mm_si B I' ∧ P x I'))
          refine go_iload_n dX11_spread_74 rfl ?_
          refine go_iconst (v := (-1 : Int32)) rfl dX11_spread_75 ?_
          refine go_icmp_eq (tgt := 105) dX11_spread_76 (by decide) (fun hc => ?_) (fun hc => ?_)
          · replace H := H.1 hc
            refine go_iload dX11_spread_105 rfl ?_
            refine go_goto (tgt := 111) dX11_spread_107 (by decide) ?_
            refine go_istore_n (by decide) dX11_spread_111 ?_
            show go_W mt_X11_spread fr_R 112 [some (pv_r m), some (pv_i x1), some (pv_i x4), some (pv_i x4), some (pv_i x4)] [] (mm_si B I3) (qi_ (fun x M' => ∃ I', M' = mm_si B I' ∧ P x I'))
            refine go_iincN (n := n7) (k := 1) hn7 (by decide) rfl rfl dX11_spread_112 ?_
            show go_W mt_X11_spread fr_R 115 [some (pv_r m), some (pv_i x1), some (pv_i x4), some (pv_i x4), some (pv_i (nI (n7 + 1)))] [] (mm_si B I3) (qi_ (fun x M' => ∃ I', M' = mm_si B I' ∧ P x I'))
            refine go_goto (tgt := 18) dX11_spread_115 (by decide) ?_
            exact H
          · replace H := H.2 hc
            refine go_aload_n dX11_spread_79 rfl ?_
            refine go_getRe (k := 0) ⟨by decide, rfl, by decide, Or.inr ⟨_, rfl⟩⟩ RK.1 (rf_r1 RK) fl_X11_7 dX11_spread_80 ?_
            refine go_iload dX11_spread_83 rfl ?_
            refine go_St (av := [pv_i x4]) (st := [pv_r (m + 1)]) ok_X11_at ⟨by decide, by decide⟩ ml_X11_80 rfl (by decide) (fun v hv => by simp only [List.mem_cons, List.not_mem_nil, or_false] at hv; rcases hv with rfl <;> first | exact pv_1i | exact pv_1r) (Nat.le_of_ble_eq_true rfl) (fun _ h => h) dX11_spread_85 (rx_at RK hn7) (fun r M' hq _ => ?_)
            obtain ⟨_, rfl, _, rfl, rfl, rfl⟩ := hq
            show go_W mt_X11_spread fr_R 88 [some (pv_r m), some (pv_i x1), some (pv_i x4), some (pv_i x3), some (pv_i x4)] [pv_i (nI (10 + 10 * n7)), pv_r (m + 1)] (mm_si B I3) (qi_ (fun x M' => ∃ I', M' = mm_si B I' ∧ P x I'))
            refine go_iconst (v := (4 : Int32)) rfl dX11_spread_88 ?_
            refine go_iadd dX11_spread_89 ?_
            refine go_ialdN (j := ((10 + 10 * n7) + 4)) ⟨by decide, by decide, by decide⟩ (rf_k1 RK) (nI_ae rfl rfl) (by omega) dX11_spread_90 ?_
            refine go_aload_n dX11_spread_91 rfl ?_
            refine go_getRe (k := 0) ⟨by decide, rfl, by decide, Or.inr ⟨_, rfl⟩⟩ RK.1 (rf_r1 RK) fl_X11_7 dX11_spread_92 ?_
            refine go_iload_n dX11_spread_95 rfl ?_
            obtain ⟨n10, ⟨hn10, hn10b⟩, H⟩ := H
            refine go_St (av := [pv_i x3]) (st := [pv_r (m + 1), pv_i (I3 (m + 1) ((10 + 10 * n7) + 4))]) ok_X11_at ⟨by decide, by decide⟩ ml_X11_80 rfl (by decide) (fun v hv => by simp only [List.mem_cons, List.not_mem_nil, or_false] at hv; rcases hv with rfl <;> first | exact pv_1i | exact pv_1r) (Nat.le_of_ble_eq_true rfl) (fun _ h => h) dX11_spread_96 (rx_at RK hn10) (fun r M' hq _ => ?_)
            obtain ⟨_, rfl, _, rfl, rfl, rfl⟩ := hq
            show go_W mt_X11_spread fr_R 99 [some (pv_r m), some (pv_i x1), some (pv_i x4), some (pv_i x3), some (pv_i x4)] [pv_i (nI (10 + 10 * n10)), pv_r (m + 1), pv_i (I3 (m + 1) ((10 + 10 * n7) + 4))] (mm_si B I3) (qi_ (fun x M' => ∃ I', M' = mm_si B I' ∧ P x I'))
            refine go_iconst (v := (4 : Int32)) rfl dX11_spread_99 ?_
            refine go_iadd dX11_spread_100 ?_
            refine go_ialdN (j := ((10 + 10 * n10) + 4)) ⟨by decide, by decide, by decide⟩ (rf_k1 RK) (nI_ae rfl rfl) (by omega) dX11_spread_101 ?_
            refine go_icmp_ge (tgt := 110) dX11_spread_102 (by decide) (fun hc => ?_) (fun hc => ?_)
            · replace H := H.1 hc
              refine go_iload_n dX11_spread_110 rfl ?_
              refine go_istore_n (by decide) dX11_spread_111 ?_
              show go_W mt_X11_spread fr_R 112 [some (pv_r m), some (pv_i x1), some (pv_i x4), some (pv_i x3), some (pv_i x4)] [] (mm_si B I3) (qi_ (fun x M' => ∃ I', M' = mm_si B I' ∧ P x I'))
              refine go_iincN (n := n7) (k := 1) hn7 (by decide) rfl rfl dX11_spread_112 ?_
              show go_W mt_X11_spread fr_R 115 [some (pv_r m), some (pv_i x1), some (pv_i x4), some (pv_i x3), some (pv_i (nI (n7 + 1)))] [] (mm_si B I3) (qi_ (fun x M' => ∃ I', M' = mm_si B I' ∧ P x I'))
              refine go_goto (tgt := 18) dX11_spread_115 (by decide) ?_
              exact H
            · replace H := H.2 hc
              refine go_iload dX11_spread_105 rfl ?_
              refine go_goto (tgt := 111) dX11_spread_107 (by decide) ?_
              refine go_istore_n (by decide) dX11_spread_111 ?_
              show go_W mt_X11_spread fr_R 112 [some (pv_r m), some (pv_i x1), some (pv_i x4), some (pv_i x4), some (pv_i x4)] [] (mm_si B I3) (qi_ (fun x M' => ∃ I', M' = mm_si B I' ∧ P x I'))
              refine go_iincN (n := n7) (k := 1) hn7 (by decide) rfl rfl dX11_spread_112 ?_
              show go_W mt_X11_spread fr_R 115 [some (pv_r m), some (pv_i x1), some (pv_i x4), some (pv_i x4), some (pv_i (nI (n7 + 1)))] [] (mm_si B I3) (qi_ (fun x M' => ∃ I', M' = mm_si B I' ∧ P x I'))
              refine go_goto (tgt := 18) dX11_spread_115 (by decide) ?_
              exact H
    · replace H := H.2 hc
      refine go_goto (tgt := 112) dX11_spread_33 (by decide) ?_
      refine go_iinc (v := (1 : Int32)) (by decide) rfl rfl dX11_spread_112 ?_
      show go_W mt_X11_spread fr_R 115 [some (pv_r m), some (pv_i x1), some (pv_i x2), some (pv_i x3), some (pv_i (x4 + (1 : Int32)))] [] (mm_si B I3) (qi_ (fun x M' => ∃ I', M' = mm_si B I' ∧ P x I'))
      refine go_goto (tgt := 18) dX11_spread_115 (by decide) ?_
      exact H
set_option maxRecDepth 20000 in
theorem wq_X11_blamed_0 {B : mm_T} {I : Nat → Nat → Int32} {m : Nat} (RK : rf_ok B m) {x1 : Int32} {P : Int32 → (Nat → Nat → Int32) → Prop} (H : (((((0 : Int32) ≤ x1 ∧ x1 ≤ (101 : Int32))) → rw_i mt_X11_blamed 16 [some (pv_r m), some (pv_i x1), some (pv_i (0 : Int32)), some (pv_i (0 : Int32))] [] B I P) ∧ ((¬ ((0 : Int32) ≤ x1 ∧ x1 ≤ (101 : Int32))) → P (-1 : Int32) I))) : rw_i mt_X11_blamed 0 [some (pv_r m), some (pv_i x1), none, none] [] B I P := by
  refine go_iload_n dX11_blamed_0 rfl ?_
  refine go_iconst (v := (0 : Int32)) rfl dX11_blamed_1 ?_
  refine go_bipush (v := (101 : Int32)) rfl dX11_blamed_2 ?_
  by_cases hc : ((0 : Int32) ≤ x1 ∧ x1 ≤ (101 : Int32))
  · replace H := H.1 hc
    refine go_St (av := [pv_i x1, pv_i (0 : Int32), pv_i (101 : Int32)]) (st := []) ok_X11_isIn ⟨by decide, by decide⟩ ml_X11_90 rfl (by decide) (fun v hv => by simp only [List.mem_cons, List.not_mem_nil, or_false] at hv; rcases hv with rfl | rfl | rfl <;> first | exact pv_1i | exact pv_1r) (Nat.le_of_ble_eq_true rfl) (fun _ h => h) dX11_blamed_4 (rx_isIn_t RK hc) (fun r M' hq _ => ?_)
    obtain ⟨_, rfl, _, rfl, rfl, rfl⟩ := hq
    show go_W mt_X11_blamed fr_R 7 [some (pv_r m), some (pv_i x1), none, none] [pv_i (1 : Int32)] (mm_si B I) (qi_ (fun x M' => ∃ I', M' = mm_si B I' ∧ P x I'))
    refine go_if_ne (tgt := 12) dX11_blamed_7 (by decide) (fun _ => ?_) (fun hc => absurd hc (by decide))
    refine go_iconst (v := (0 : Int32)) rfl dX11_blamed_12 ?_
    refine go_istore_n (by decide) dX11_blamed_13 ?_
    show go_W mt_X11_blamed fr_R 14 [some (pv_r m), some (pv_i x1), some (pv_i (0 : Int32)), none] [] (mm_si B I) (qi_ (fun x M' => ∃ I', M' = mm_si B I' ∧ P x I'))
    refine go_iconst (v := (0 : Int32)) rfl dX11_blamed_14 ?_
    refine go_istore_n (by decide) dX11_blamed_15 ?_
    show go_W mt_X11_blamed fr_R 16 [some (pv_r m), some (pv_i x1), some (pv_i (0 : Int32)), some (pv_i (0 : Int32))] [] (mm_si B I) (qi_ (fun x M' => ∃ I', M' = mm_si B I' ∧ P x I'))
    exact H
  · replace H := H.2 hc
    refine go_St (av := [pv_i x1, pv_i (0 : Int32), pv_i (101 : Int32)]) (st := []) ok_X11_isIn ⟨by decide, by decide⟩ ml_X11_90 rfl (by decide) (fun v hv => by simp only [List.mem_cons, List.not_mem_nil, or_false] at hv; rcases hv with rfl | rfl | rfl <;> first | exact pv_1i | exact pv_1r) (Nat.le_of_ble_eq_true rfl) (fun _ h => h) dX11_blamed_4 (rx_isIn_f RK hc) (fun r M' hq _ => ?_)
    obtain ⟨_, rfl, _, rfl, rfl, rfl⟩ := hq
    show go_W mt_X11_blamed fr_R 7 [some (pv_r m), some (pv_i x1), none, none] [pv_i (0 : Int32)] (mm_si B I) (qi_ (fun x M' => ∃ I', M' = mm_si B I' ∧ P x I'))
    refine go_if_ne (tgt := 12) dX11_blamed_7 (by decide) (fun hc => absurd hc (by decide)) (fun _ => ?_)
    refine go_iconst (v := (-1 : Int32)) rfl dX11_blamed_10 ?_
    exact go_iret rfl rfl dX11_blamed_11 ⟨_, rfl, _, rfl, H⟩
set_option maxRecDepth 20000 in
theorem wq_X11_blamed_16 {B : mm_T} {I : Nat → Nat → Int32} {m : Nat} (RK : rf_ok B m) {x1 x2 x3 : Int32} {P : Int32 → (Nat → Nat → Int32) → Prop} (H : (((I (m + 1) 3 ≤ x3) → P x2 I) ∧ ((¬ I (m + 1) 3 ≤ x3) → ∃ n1, (((5800 : Int32) + x3) = nI n1 ∧ n1 < 6200) ∧ (∃ n2, (I (m + 1) n1 = nI n2 ∧ n2 < 400) ∧ ((((¬ I (m + 1) (200 + 14 * n2 + 13) = x1) → rw_i mt_X11_blamed 16 [some (pv_r m), some (pv_i x1), some (pv_i (x2 + (0 : Int32))), some (pv_i (x3 + (1 : Int32)))] [] B I P) ∧ ((I (m + 1) (200 + 14 * n2 + 13) = x1) → rw_i mt_X11_blamed 16 [some (pv_r m), some (pv_i x1), some (pv_i (x2 + (1 : Int32))), some (pv_i (x3 + (1 : Int32)))] [] B I P))))))) : rw_i mt_X11_blamed 16 [some (pv_r m), some (pv_i x1), some (pv_i x2), some (pv_i x3)] [] B I P := by
  refine go_iload_n dX11_blamed_16 rfl ?_
  refine go_aload_n dX11_blamed_17 rfl ?_
  refine go_getRe (k := 0) ⟨by decide, rfl, by decide, Or.inr ⟨_, rfl⟩⟩ RK.1 (rf_r1 RK) fl_X11_7 dX11_blamed_18 ?_
  refine go_iconst (v := (3 : Int32)) rfl dX11_blamed_21 ?_
  refine go_ialdN (j := 3) ⟨by decide, by decide, by decide⟩ (rf_k1 RK) rfl (by decide) dX11_blamed_22 ?_
  refine go_icmp_ge (tgt := 60) dX11_blamed_23 (by decide) (fun hc => ?_) (fun hc => ?_)
  · replace H := H.1 hc
    refine go_iload_n dX11_blamed_60 rfl ?_
    exact go_iret rfl rfl dX11_blamed_61 ⟨_, rfl, _, rfl, H⟩
  · replace H := H.2 hc
    refine go_iload_n dX11_blamed_26 rfl ?_
    refine go_aload_n dX11_blamed_27 rfl ?_
    refine go_aload_n dX11_blamed_28 rfl ?_
    refine go_getRe (k := 0) ⟨by decide, rfl, by decide, Or.inr ⟨_, rfl⟩⟩ RK.1 (rf_r1 RK) fl_X11_7 dX11_blamed_29 ?_
    refine go_sipush (v := (5800 : Int32)) rfl dX11_blamed_32 ?_
    refine go_iload_n dX11_blamed_35 rfl ?_
    refine go_iadd dX11_blamed_36 ?_
    obtain ⟨n1, ⟨hn1, hn1b⟩, H⟩ := H
    refine go_ialdN (j := n1) ⟨by decide, by decide, by decide⟩ (rf_k1 RK) hn1 hn1b dX11_blamed_37 ?_
    refine go_bipush (v := (13 : Int32)) rfl dX11_blamed_38 ?_
    obtain ⟨n2, ⟨hn2, hn2b⟩, H⟩ := H
    refine go_V (av := [pv_i (I (m + 1) n1), pv_i (13 : Int32)]) (st := [pv_i x2]) (ci := 11) ok_X11_of ⟨by decide, by decide⟩ ml_X11_94 rfl (by decide) (fun v hv => by simp only [List.mem_cons, List.not_mem_nil, or_false] at hv; rcases hv with rfl | rfl <;> first | exact pv_1i | exact pv_1r) (Nat.le_of_ble_eq_true rfl) (fun _ h => h) (by decide) rfl RK.1 dX11_blamed_40 (rx_of RK hn2 rfl hn2b (by decide)) (fun r M' hq _ => ?_)
    obtain ⟨_, rfl, _, rfl, rfl, rfl⟩ := hq
    show go_W mt_X11_blamed fr_R 43 [some (pv_r m), some (pv_i x1), some (pv_i x2), some (pv_i x3)] [pv_i (I (m + 1) (200 + 14 * n2 + 13)), pv_i x2] (mm_si B I) (qi_ (fun x M' => ∃ I', M' = mm_si B I' ∧ P x I'))
    refine go_iload_n dX11_blamed_43 rfl ?_
    refine go_icmp_ne (tgt := 51) dX11_blamed_44 (by decide) (fun hc => ?_) (fun hc => ?_)
    · replace H := H.1 hc
      refine go_iconst (v := (0 : Int32)) rfl dX11_blamed_51 ?_
      refine go_iadd dX11_blamed_52 ?_
      refine go_istore_n (by decide) dX11_blamed_53 ?_
      show go_W mt_X11_blamed fr_R 54 [some (pv_r m), some (pv_i x1), some (pv_i (x2 + (0 : Int32))), some (pv_i x3)] [] (mm_si B I) (qi_ (fun x M' => ∃ I', M' = mm_si B I' ∧ P x I'))
      refine go_iinc (v := (1 : Int32)) (by decide) rfl rfl dX11_blamed_54 ?_
      show go_W mt_X11_blamed fr_R 57 [some (pv_r m), some (pv_i x1), some (pv_i (x2 + (0 : Int32))), some (pv_i (x3 + (1 : Int32)))] [] (mm_si B I) (qi_ (fun x M' => ∃ I', M' = mm_si B I' ∧ P x I'))
      refine go_goto (tgt := 16) dX11_blamed_57 (by decide) ?_
      exact H
    · replace H := H.2 hc
      refine go_iconst (v := (1 : Int32)) rfl dX11_blamed_47 ?_
      refine go_goto (tgt := 52) dX11_blamed_48 (by decide) ?_
      refine go_iadd dX11_blamed_52 ?_
      refine go_istore_n (by decide) dX11_blamed_53 ?_
      show go_W mt_X11_blamed fr_R 54 [some (pv_r m), some (pv_i x1), some (pv_i (x2 + (1 : Int32))), some (pv_i x3)] [] (mm_si B I) (qi_ (fun x M' => ∃ I', M' = mm_si B I' ∧ P x I'))
      refine go_iinc (v := (1 : Int32)) (by decide) rfl rfl dX11_blamed_54 ?_
      show go_W mt_X11_blamed fr_R 57 [some (pv_r m), some (pv_i x1), some (pv_i (x2 + (1 : Int32))), some (pv_i (x3 + (1 : Int32)))] [] (mm_si B I) (qi_ (fun x M' => ∃ I', M' = mm_si B I' ∧ P x I'))
      refine go_goto (tgt := 16) dX11_blamed_57 (by decide) ?_
      exact H
set_option maxRecDepth 20000 in
theorem wq_X11_worst_0 {B : mm_T} {I : Nat → Nat → Int32} {m : Nat} (RK : rf_ok B m)  {P : Int32 → (Nat → Nat → Int32) → Prop} (H : (((¬ I (m + 1) 3 = 0) → rw_i mt_X11_worst 15 [some (pv_r m), some (pv_i (0 : Int32)), some (pv_i (1 : Int32))] [] B I P) ∧ ((I (m + 1) 3 = 0) → P (-1 : Int32) I))) : rw_i mt_X11_worst 0 [some (pv_r m), none, none] [] B I P := by
  refine go_aload_n dX11_worst_0 rfl ?_
  refine go_getRe (k := 0) ⟨by decide, rfl, by decide, Or.inr ⟨_, rfl⟩⟩ RK.1 (rf_r1 RK) fl_X11_7 dX11_worst_1 ?_
  refine go_iconst (v := (3 : Int32)) rfl dX11_worst_4 ?_
  refine go_ialdN (j := 3) ⟨by decide, by decide, by decide⟩ (rf_k1 RK) rfl (by decide) dX11_worst_5 ?_
  refine go_if_ne (tgt := 11) dX11_worst_6 (by decide) (fun hc => ?_) (fun hc => ?_)
  · replace H := H.1 hc
    refine go_iconst (v := (0 : Int32)) rfl dX11_worst_11 ?_
    refine go_istore_n (by decide) dX11_worst_12 ?_
    show go_W mt_X11_worst fr_R 13 [some (pv_r m), some (pv_i (0 : Int32)), none] [] (mm_si B I) (qi_ (fun x M' => ∃ I', M' = mm_si B I' ∧ P x I'))
    refine go_iconst (v := (1 : Int32)) rfl dX11_worst_13 ?_
    refine go_istore_n (by decide) dX11_worst_14 ?_
    show go_W mt_X11_worst fr_R 15 [some (pv_r m), some (pv_i (0 : Int32)), some (pv_i (1 : Int32))] [] (mm_si B I) (qi_ (fun x M' => ∃ I', M' = mm_si B I' ∧ P x I'))
    exact H
  · replace H := H.2 hc
    refine go_iconst (v := (-1 : Int32)) rfl dX11_worst_9 ?_
    exact go_iret rfl rfl dX11_worst_10 ⟨_, rfl, _, rfl, H⟩
set_option maxRecDepth 20000 in
theorem wq_X11_worst_15 {B : mm_T} {I : Nat → Nat → Int32} {m : Nat} (RK : rf_ok B m) {x1 x2 : Int32} {P : Int32 → (Nat → Nat → Int32) → Prop} (H : ((((101 : Int32) < x2) → P x1 I) ∧ ((¬ (101 : Int32) < x2) → rs_i mt_X11_blamed [pv_r m, pv_i x2] B I (fun v2 I1 => rs_i mt_X11_blamed [pv_r m, pv_i x1] B I1 (fun v4 I3 => (((v2 ≤ v4) → rw_i mt_X11_worst 15 [some (pv_r m), some (pv_i x1), some (pv_i (x2 + (1 : Int32)))] [] B I3 P) ∧ ((¬ v2 ≤ v4) → rw_i mt_X11_worst 15 [some (pv_r m), some (pv_i x2), some (pv_i (x2 + (1 : Int32)))] [] B I3 P))))))) : rw_i mt_X11_worst 15 [some (pv_r m), some (pv_i x1), some (pv_i x2)] [] B I P := by
  refine go_iload_n dX11_worst_15 rfl ?_
  refine go_bipush (v := (101 : Int32)) rfl dX11_worst_16 ?_
  refine go_icmp_gt (tgt := 46) dX11_worst_18 (by decide) (fun hc => ?_) (fun hc => ?_)
  · replace H := H.1 hc
    refine go_iload_n dX11_worst_46 rfl ?_
    exact go_iret rfl rfl dX11_worst_47 ⟨_, rfl, _, rfl, H⟩
  · replace H := H.2 hc
    refine go_aload_n dX11_worst_21 rfl ?_
    refine go_iload_n dX11_worst_22 rfl ?_
    refine go_V (av := [pv_i x2]) (st := []) (ci := 11) ok_X11_blamed ⟨by decide, by decide⟩ ml_X11_310 rfl (by decide) (fun v hv => by simp only [List.mem_cons, List.not_mem_nil, or_false] at hv; rcases hv with rfl <;> first | exact pv_1i | exact pv_1r) (Nat.le_of_ble_eq_true rfl) (fun _ h => h) (by decide) rfl RK.1 dX11_worst_23 H (fun r M' hq _ => ?_)
    obtain ⟨v2, rfl, I1, rfl, H⟩ := hq
    show go_W mt_X11_worst fr_R 26 [some (pv_r m), some (pv_i x1), some (pv_i x2)] [pv_i v2] (mm_si B I1) (qi_ (fun x M' => ∃ I', M' = mm_si B I' ∧ P x I'))
    refine go_aload_n dX11_worst_26 rfl ?_
    refine go_iload_n dX11_worst_27 rfl ?_
    refine go_V (av := [pv_i x1]) (st := [pv_i v2]) (ci := 11) ok_X11_blamed ⟨by decide, by decide⟩ ml_X11_310 rfl (by decide) (fun v hv => by simp only [List.mem_cons, List.not_mem_nil, or_false] at hv; rcases hv with rfl <;> first | exact pv_1i | exact pv_1r) (Nat.le_of_ble_eq_true rfl) (fun _ h => h) (by decide) rfl RK.1 dX11_worst_28 H (fun r M' hq _ => ?_)
    obtain ⟨v4, rfl, I3, rfl, H⟩ := hq
    show go_W mt_X11_worst fr_R 31 [some (pv_r m), some (pv_i x1), some (pv_i x2)] [pv_i v4, pv_i v2] (mm_si B I3) (qi_ (fun x M' => ∃ I', M' = mm_si B I' ∧ P x I'))
    refine go_icmp_le (tgt := 38) dX11_worst_31 (by decide) (fun hc => ?_) (fun hc => ?_)
    · replace H := H.1 hc
      refine go_iload_n dX11_worst_38 rfl ?_
      refine go_istore_n (by decide) dX11_worst_39 ?_
      show go_W mt_X11_worst fr_R 40 [some (pv_r m), some (pv_i x1), some (pv_i x2)] [] (mm_si B I3) (qi_ (fun x M' => ∃ I', M' = mm_si B I' ∧ P x I'))
      refine go_iinc (v := (1 : Int32)) (by decide) rfl rfl dX11_worst_40 ?_
      show go_W mt_X11_worst fr_R 43 [some (pv_r m), some (pv_i x1), some (pv_i (x2 + (1 : Int32)))] [] (mm_si B I3) (qi_ (fun x M' => ∃ I', M' = mm_si B I' ∧ P x I'))
      refine go_goto (tgt := 15) dX11_worst_43 (by decide) ?_
      exact H
    · replace H := H.2 hc
      refine go_iload_n dX11_worst_34 rfl ?_
      refine go_goto (tgt := 39) dX11_worst_35 (by decide) ?_
      refine go_istore_n (by decide) dX11_worst_39 ?_
      show go_W mt_X11_worst fr_R 40 [some (pv_r m), some (pv_i x2), some (pv_i x2)] [] (mm_si B I3) (qi_ (fun x M' => ∃ I', M' = mm_si B I' ∧ P x I'))
      refine go_iinc (v := (1 : Int32)) (by decide) rfl rfl dX11_worst_40 ?_
      show go_W mt_X11_worst fr_R 43 [some (pv_r m), some (pv_i x2), some (pv_i (x2 + (1 : Int32)))] [] (mm_si B I3) (qi_ (fun x M' => ∃ I', M' = mm_si B I' ∧ P x I'))
      refine go_goto (tgt := 15) dX11_worst_43 (by decide) ?_
      exact H
set_option maxRecDepth 20000 in
theorem wq_X11_log_0 {B : mm_T} {I : Nat → Nat → Int32} {m : Nat} (RK : rf_ok B m) {x1 x2 : Int32} {P : Int32 → (Nat → Nat → Int32) → Prop} (H : (((((0 : Int32) ≤ x1 ∧ x1 ≤ ((if (64 : Int32) ≤ I m 6 then (64 : Int32) else I m 6) - (1 : Int32)))) → (((((0 : Int32) ≤ x2 ∧ x2 ≤ (5 : Int32))) → ∃ n1, ((((6 : Int32) * (((I m 6 - (1 : Int32)) - x1) - ((I m 6 - (1 : Int32)) - x1) / (64 : Int32) * (64 : Int32))) + x2) = nI n1 ∧ n1 < 384) ∧ (P (I (m + 6) n1) I)) ∧ ((¬ ((0 : Int32) ≤ x2 ∧ x2 ≤ (5 : Int32))) → P (-2 : Int32) I))) ∧ ((¬ ((0 : Int32) ≤ x1 ∧ x1 ≤ ((if (64 : Int32) ≤ I m 6 then (64 : Int32) else I m 6) - (1 : Int32)))) → P (-2 : Int32) I))) : rw_i mt_X11_log 0 [some (pv_r m), some (pv_i x1), some (pv_i x2)] [] B I P := by
  refine go_iload_n dX11_log_0 rfl ?_
  refine go_iconst (v := (0 : Int32)) rfl dX11_log_1 ?_
  refine go_aload_n dX11_log_2 rfl ?_
  refine go_getI (k := 6) ⟨by decide, rfl, by decide, rfl⟩ RK.1 fl_X11_28 dX11_log_3 ?_
  refine go_bipush (v := (64 : Int32)) rfl dX11_log_6 ?_
  refine go_St (av := [pv_i (I m 6), pv_i (64 : Int32)]) (st := [pv_i (0 : Int32), pv_i x1]) ok_X11_lesser ⟨by decide, by decide⟩ ml_X11_267 rfl (by decide) (fun v hv => by simp only [List.mem_cons, List.not_mem_nil, or_false] at hv; rcases hv with rfl | rfl <;> first | exact pv_1i | exact pv_1r) (Nat.le_of_ble_eq_true rfl) (fun _ h => h) dX11_log_8 (rx_lesser RK) (fun r M' hq _ => ?_)
  obtain ⟨_, rfl, _, rfl, rfl, rfl⟩ := hq
  show go_W mt_X11_log fr_R 11 [some (pv_r m), some (pv_i x1), some (pv_i x2)] [pv_i (if (64 : Int32) ≤ I m 6 then (64 : Int32) else I m 6), pv_i (0 : Int32), pv_i x1] (mm_si B I) (qi_ (fun x M' => ∃ I', M' = mm_si B I' ∧ P x I'))
  refine go_iconst (v := (1 : Int32)) rfl dX11_log_11 ?_
  refine go_isub dX11_log_12 ?_
  by_cases hc : ((0 : Int32) ≤ x1 ∧ x1 ≤ ((if (64 : Int32) ≤ I m 6 then (64 : Int32) else I m 6) - (1 : Int32)))
  · replace H := H.1 hc
    refine go_St (av := [pv_i x1, pv_i (0 : Int32), pv_i ((if (64 : Int32) ≤ I m 6 then (64 : Int32) else I m 6) - (1 : Int32))]) (st := []) ok_X11_isIn ⟨by decide, by decide⟩ ml_X11_90 rfl (by decide) (fun v hv => by simp only [List.mem_cons, List.not_mem_nil, or_false] at hv; rcases hv with rfl | rfl | rfl <;> first | exact pv_1i | exact pv_1r) (Nat.le_of_ble_eq_true rfl) (fun _ h => h) dX11_log_13 (rx_isIn_t RK hc) (fun r M' hq _ => ?_)
    obtain ⟨_, rfl, _, rfl, rfl, rfl⟩ := hq
    show go_W mt_X11_log fr_R 16 [some (pv_r m), some (pv_i x1), some (pv_i x2)] [pv_i (1 : Int32)] (mm_si B I) (qi_ (fun x M' => ∃ I', M' = mm_si B I' ∧ P x I'))
    refine go_if_eq (tgt := 28) dX11_log_16 (by decide) (fun hc => absurd hc (by decide)) (fun _ => ?_)
    refine go_iload_n dX11_log_19 rfl ?_
    refine go_iconst (v := (0 : Int32)) rfl dX11_log_20 ?_
    refine go_iconst (v := (5 : Int32)) rfl dX11_log_21 ?_
    by_cases hc : ((0 : Int32) ≤ x2 ∧ x2 ≤ (5 : Int32))
    · replace H := H.1 hc
      refine go_St (av := [pv_i x2, pv_i (0 : Int32), pv_i (5 : Int32)]) (st := []) ok_X11_isIn ⟨by decide, by decide⟩ ml_X11_90 rfl (by decide) (fun v hv => by simp only [List.mem_cons, List.not_mem_nil, or_false] at hv; rcases hv with rfl | rfl | rfl <;> first | exact pv_1i | exact pv_1r) (Nat.le_of_ble_eq_true rfl) (fun _ h => h) dX11_log_22 (rx_isIn_t RK hc) (fun r M' hq _ => ?_)
      obtain ⟨_, rfl, _, rfl, rfl, rfl⟩ := hq
      show go_W mt_X11_log fr_R 25 [some (pv_r m), some (pv_i x1), some (pv_i x2)] [pv_i (1 : Int32)] (mm_si B I) (qi_ (fun x M' => ∃ I', M' = mm_si B I' ∧ P x I'))
      refine go_if_ne (tgt := 31) dX11_log_25 (by decide) (fun _ => ?_) (fun hc => absurd hc (by decide))
      refine go_aload_n dX11_log_31 rfl ?_
      refine go_getRe (k := 5) ⟨by decide, rfl, by decide, Or.inr ⟨_, rfl⟩⟩ RK.1 (rf_r6 RK) fl_X11_25 dX11_log_32 ?_
      refine go_bipush (v := (6 : Int32)) rfl dX11_log_35 ?_
      refine go_aload_n dX11_log_37 rfl ?_
      refine go_getI (k := 6) ⟨by decide, rfl, by decide, rfl⟩ RK.1 fl_X11_28 dX11_log_38 ?_
      refine go_iconst (v := (1 : Int32)) rfl dX11_log_41 ?_
      refine go_isub dX11_log_42 ?_
      refine go_iload_n dX11_log_43 rfl ?_
      refine go_isub dX11_log_44 ?_
      refine go_bipush (v := (64 : Int32)) rfl dX11_log_45 ?_
      refine go_irem (by decide) dX11_log_47 ?_
      refine go_imul dX11_log_48 ?_
      refine go_iload_n dX11_log_49 rfl ?_
      refine go_iadd dX11_log_50 ?_
      obtain ⟨n1, ⟨hn1, hn1b⟩, H⟩ := H
      refine go_ialdN (j := n1) ⟨by decide, by decide, by decide⟩ (rf_k6 RK) hn1 hn1b dX11_log_51 ?_
      exact go_iret rfl rfl dX11_log_52 ⟨_, rfl, _, rfl, H⟩
    · replace H := H.2 hc
      refine go_St (av := [pv_i x2, pv_i (0 : Int32), pv_i (5 : Int32)]) (st := []) ok_X11_isIn ⟨by decide, by decide⟩ ml_X11_90 rfl (by decide) (fun v hv => by simp only [List.mem_cons, List.not_mem_nil, or_false] at hv; rcases hv with rfl | rfl | rfl <;> first | exact pv_1i | exact pv_1r) (Nat.le_of_ble_eq_true rfl) (fun _ h => h) dX11_log_22 (rx_isIn_f RK hc) (fun r M' hq _ => ?_)
      obtain ⟨_, rfl, _, rfl, rfl, rfl⟩ := hq
      show go_W mt_X11_log fr_R 25 [some (pv_r m), some (pv_i x1), some (pv_i x2)] [pv_i (0 : Int32)] (mm_si B I) (qi_ (fun x M' => ∃ I', M' = mm_si B I' ∧ P x I'))
      refine go_if_ne (tgt := 31) dX11_log_25 (by decide) (fun hc => absurd hc (by decide)) (fun _ => ?_)
      refine go_bipush (v := (-2 : Int32)) rfl dX11_log_28 ?_
      exact go_iret rfl rfl dX11_log_30 ⟨_, rfl, _, rfl, H⟩
  · replace H := H.2 hc
    refine go_St (av := [pv_i x1, pv_i (0 : Int32), pv_i ((if (64 : Int32) ≤ I m 6 then (64 : Int32) else I m 6) - (1 : Int32))]) (st := []) ok_X11_isIn ⟨by decide, by decide⟩ ml_X11_90 rfl (by decide) (fun v hv => by simp only [List.mem_cons, List.not_mem_nil, or_false] at hv; rcases hv with rfl | rfl | rfl <;> first | exact pv_1i | exact pv_1r) (Nat.le_of_ble_eq_true rfl) (fun _ h => h) dX11_log_13 (rx_isIn_f RK hc) (fun r M' hq _ => ?_)
    obtain ⟨_, rfl, _, rfl, rfl, rfl⟩ := hq
    show go_W mt_X11_log fr_R 16 [some (pv_r m), some (pv_i x1), some (pv_i x2)] [pv_i (0 : Int32)] (mm_si B I) (qi_ (fun x M' => ∃ I', M' = mm_si B I' ∧ P x I'))
    refine go_if_eq (tgt := 28) dX11_log_16 (by decide) (fun _ => ?_) (fun hc => absurd hc (by decide))
    refine go_bipush (v := (-2 : Int32)) rfl dX11_log_28 ?_
    exact go_iret rfl rfl dX11_log_30 ⟨_, rfl, _, rfl, H⟩
