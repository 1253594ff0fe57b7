/-! the walks of draw, stepsOne, steps, by program (wip/whole/walk2z.py) -/
set_option maxRecDepth 20000 in
theorem wz_X11_draw_0 {B : mm_T} {I : Nat → Nat → Int32} {m : Nat} (RK : rf_ok B m) {z : Int64} {x1 : Int32} {P : Int32 → Int64 → (Nat → Nat → Int32) → Prop} (H : ¬ x1.toInt64 = 0 ∧ (P (((((((1103515245 : Int64) * z) + (12345 : Int64)) - (((1103515245 : Int64) * z) + (12345 : Int64)) / (2147483648 : Int64) * (2147483648 : Int64)) / (64 : Int64)) - (((((1103515245 : Int64) * z) + (12345 : Int64)) - (((1103515245 : Int64) * z) + (12345 : Int64)) / (2147483648 : Int64) * (2147483648 : Int64)) / (64 : Int64)) / x1.toInt64 * x1.toInt64).toInt32) ((((1103515245 : Int64) * z) + (12345 : Int64)) - (((1103515245 : Int64) * z) + (12345 : Int64)) / (2147483648 : Int64) * (2147483648 : Int64)) I)) : zw_i mt_X11_draw 0 [some (pv_r m), some (pv_i x1)] [] B m z I P := by
  refine go_aload_n dX11_draw_0 rfl ?_
  refine go_ldc2 (v := (1103515245 : Int64)) kc_X11_245 dX11_draw_1 ?_
  refine go_aload_n dX11_draw_4 rfl ?_
  refine go_getLe (k := 14) ⟨by decide, rfl, by decide, rfl⟩ RK.1 zl_ fl_X11_55 dX11_draw_5 ?_
  refine go_lmul dX11_draw_8 ?_
  refine go_ldc2 (v := (12345 : Int64)) kc_X11_247 dX11_draw_9 ?_
  refine go_ladd dX11_draw_12 ?_
  refine go_ldc2 (v := (2147483648 : Int64)) kc_X11_249 dX11_draw_13 ?_
  refine go_lrem (by decide) dX11_draw_16 ?_
  refine go_putL (k := 14) ⟨by decide, rfl, by decide, rfl⟩ RK.1 rfl (Or.inl rfl) fl_X11_55 dX11_draw_17 ?_
  rw [zp_]
  show go_W mt_X11_draw fr_R 20 [some (pv_r m), some (pv_i x1)] [] (mm_si (mm_pl B m 14 ((((1103515245 : Int64) * z) + (12345 : Int64)) - (((1103515245 : Int64) * z) + (12345 : Int64)) / (2147483648 : Int64) * (2147483648 : Int64))) I) (qi_ (fun x M' => ∃ z' I', M' = mm_si (mm_pl B m 14 z') I' ∧ P x z' I'))
  refine go_aload_n dX11_draw_20 rfl ?_
  refine go_getLe (k := 14) ⟨by decide, rfl, by decide, rfl⟩ RK.1 zl_ fl_X11_55 dX11_draw_21 ?_
  refine go_ldc2 (v := (64 : Int64)) kc_X11_251 dX11_draw_24 ?_
  refine go_ldiv (by decide) dX11_draw_27 ?_
  refine go_iload_n dX11_draw_28 rfl ?_
  refine go_i2l dX11_draw_29 ?_
  refine go_lrem H.1 dX11_draw_30 ?_
  replace H := H.2
  refine go_l2i dX11_draw_31 ?_
  exact go_iret rfl rfl dX11_draw_32 ⟨_, rfl, _, _, rfl, H⟩
set_option maxRecDepth 20000 in
theorem wz_X11_stepsOne_0 {B : mm_T} {I : Nat → Nat → Int32} {m : Nat} (RK : rf_ok B m) {z : Int64}  {P : Int32 → Int64 → (Nat → Nat → Int32) → Prop} (H : zs_i mt_X11_draw [pv_r m, pv_i (10 : Int32)] B m z I (fun v2 z3 I1 => ((((3 : Int32) ≤ v2) → (((¬ v2 = (8 : Int32)) → (((¬ v2 = (9 : Int32)) → zs_i mt_X11_draw [pv_r m, pv_i (6 : Int32)] B m z3 I1 (fun v5 z6 I4 => (((¬ v2 = (7 : Int32)) → ∃ n7, (v5 = nI n7 ∧ n7 < 6) ∧ (((((5 : Int32) ≤ v2) → (((¬ I4 (m + 1) (60 + 4 * n7) = (-1 : Int32)) → (((¬ v2 = (7 : Int32)) → rs_v mt_X11_isDoneNow [pv_r m, pv_i (I4 (m + 1) (60 + 4 * n7))] (mm_pl B m 14 z6) I4 (fun I8 => P (1 : Int32) z6 I8)) ∧ ((v2 = (7 : Int32)) → rs_i mt_X11_failsNow [pv_r m, pv_i (I4 (m + 1) (60 + 4 * n7)), pv_i (0 : Int32)] (mm_pl B m 14 z6) I4 (fun v10 I9 => P (1 : Int32) z6 I9)))) ∧ ((I4 (m + 1) (60 + 4 * n7) = (-1 : Int32)) → P (0 : Int32) z6 I4))) ∧ ((¬ (5 : Int32) ≤ v2) → (((¬ I4 (m + 1) (60 + 4 * n7) = (-1 : Int32)) → P (0 : Int32) z6 I4) ∧ ((I4 (m + 1) (60 + 4 * n7) = (-1 : Int32)) → rs_i mt_X11_takesBy [pv_r m, pv_i v5] (mm_pl B m 14 z6) I4 (fun v12 I11 => (((v12 = (-1 : Int32)) → P (0 : Int32) z6 I11) ∧ ((¬ v12 = (-1 : Int32)) → P (1 : Int32) z6 I11))))))))) ∧ ((v2 = (7 : Int32)) → zs_i mt_X11_draw [pv_r m, pv_i (99 : Int32)] B m z6 I4 (fun v14 z15 I13 => ∃ n16, (v5 = nI n16 ∧ n16 < 6) ∧ (((((5 : Int32) ≤ v2) → (((¬ I13 (m + 1) (60 + 4 * n16) = (-1 : Int32)) → (((¬ v2 = (7 : Int32)) → rs_v mt_X11_isDoneNow [pv_r m, pv_i (I13 (m + 1) (60 + 4 * n16))] (mm_pl B m 14 z15) I13 (fun I17 => P (1 : Int32) z15 I17)) ∧ ((v2 = (7 : Int32)) → rs_i mt_X11_failsNow [pv_r m, pv_i (I13 (m + 1) (60 + 4 * n16)), pv_i (v14 + (1 : Int32))] (mm_pl B m 14 z15) I13 (fun v19 I18 => P (1 : Int32) z15 I18)))) ∧ ((I13 (m + 1) (60 + 4 * n16) = (-1 : Int32)) → P (0 : Int32) z15 I13))) ∧ ((¬ (5 : Int32) ≤ v2) → (((¬ I13 (m + 1) (60 + 4 * n16) = (-1 : Int32)) → P (0 : Int32) z15 I13) ∧ ((I13 (m + 1) (60 + 4 * n16) = (-1 : Int32)) → rs_i mt_X11_takesBy [pv_r m, pv_i v5] (mm_pl B m 14 z15) I13 (fun v21 I20 => (((v21 = (-1 : Int32)) → P (0 : Int32) z15 I20) ∧ ((¬ v21 = (-1 : Int32)) → P (1 : Int32) z15 I20))))))))))))) ∧ ((v2 = (9 : Int32)) → zs_i mt_X11_draw [pv_r m, pv_i (400 : Int32)] B m z3 I1 (fun v23 z24 I22 => zs_i mt_X11_draw [pv_r m, pv_i (10 : Int32)] B m z24 I22 (fun v26 z27 I25 => ((((0 ≤ v23 ∧ v23 ≤ I25 (m + 1) 1 - 1)) → ∃ n28, (v23 = nI n28 ∧ n28 < 400) ∧ (((((I25 (m + 1) (200 + 14 * n28 + 6) ≤ 2)) → (((¬ I25 (m + 1) (200 + 14 * n28 + 1) = v26) → ∀ I29, I29 = i2_u I25 (m + 1) (200 + 14 * n28 + 1) v26 → P (1 : Int32) z27 I29) ∧ ((I25 (m + 1) (200 + 14 * n28 + 1) = v26) → P (0 : Int32) z27 I25))) ∧ ((¬ (I25 (m + 1) (200 + 14 * n28 + 6) ≤ 2)) → P (0 : Int32) z27 I25)))) ∧ ((¬ (0 ≤ v23 ∧ v23 ≤ I25 (m + 1) 1 - 1)) → P (0 : Int32) z27 I25))))))) ∧ ((v2 = (8 : Int32)) → rs_v mt_X11_ticks [pv_r m] (mm_pl B m 14 z3) I1 (fun I30 => P (1 : Int32) z3 I30)))) ∧ ((¬ (3 : Int32) ≤ v2) → zs_i mt_X11_draw [pv_r m, pv_i (5 : Int32)] B m z3 I1 (fun v32 z33 I31 => zs_i mt_X11_draw [pv_r m, pv_i (10 : Int32)] B m z33 I31 (fun v35 z36 I34 => zs_i mt_X11_draw [pv_r m, pv_i (20 : Int32)] B m z36 I34 (fun v38 z39 I37 => zs_i mt_X11_draw [pv_r m, pv_i (10000 : Int32)] B m z39 I37 (fun v41 z42 I40 => rs_i mt_X11_comesNow [pv_r m, pv_i v32, pv_i v35, pv_i (v38 + (1 : Int32)), pv_i v41, pv_i (-1 : Int32)] (mm_pl B m 14 z42) I40 (fun v44 I43 => (((v44 < 0) → P (0 : Int32) z42 I43) ∧ ((¬ v44 < 0) → P (1 : Int32) z42 I43))))))))))) : zw_i mt_X11_stepsOne 0 [some (pv_r m), none, none, none, none] [] B m z I P := by
  refine go_aload_n dX11_stepsOne_0 rfl ?_
  refine go_bipush (v := (10 : Int32)) rfl dX11_stepsOne_1 ?_
  have RZ : rf_ok (mm_pl B m 14 z) m := RK
  refine go_V (av := [pv_i (10 : Int32)]) (st := []) (ci := 11) ok_X11_draw ⟨by decide, by decide⟩ ml_X11_253 rfl (by decide) (fun v hv => by simp only [List.mem_cons, List.not_mem_nil, or_false] at hv; rcases hv with rfl <;> first | exact pv_1i | exact pv_1r) (Nat.le_of_ble_eq_true rfl) (fun _ h => h) (by decide) rfl RK.1 dX11_stepsOne_3 H (fun r M' hq _ => ?_)
  obtain ⟨v2, rfl, z3, I1, rfl, H⟩ := hq
  show go_W mt_X11_stepsOne fr_R 6 [some (pv_r m), none, none, none, none] [pv_i v2] (mm_si (mm_pl B m 14 z3) I1) (qi_ (fun x M' => ∃ z' I', M' = mm_si (mm_pl B m 14 z') I' ∧ P x z' I'))
  refine go_istore_n (by decide) dX11_stepsOne_6 ?_
  show go_W mt_X11_stepsOne fr_R 7 [some (pv_r m), some (pv_i v2), none, none, none] [] (mm_si (mm_pl B m 14 z3) I1) (qi_ (fun x M' => ∃ z' I', M' = mm_si (mm_pl B m 14 z') I' ∧ P x z' I'))
  refine go_iload_n dX11_stepsOne_7 rfl ?_
  refine go_iconst (v := (3 : Int32)) rfl dX11_stepsOne_8 ?_
  refine go_icmp_ge (tgt := 60) dX11_stepsOne_9 (by decide) (fun hc => ?_) (fun hc => ?_)
  · replace H := H.1 hc
    refine go_iload_n dX11_stepsOne_60 rfl ?_
    refine go_bipush (v := (8 : Int32)) rfl dX11_stepsOne_61 ?_
    refine go_icmp_ne (tgt := 72) dX11_stepsOne_63 (by decide) (fun hc => ?_) (fun hc => ?_)
    · replace H := H.1 hc
      refine go_iload_n dX11_stepsOne_72 rfl ?_
      refine go_bipush (v := (9 : Int32)) rfl dX11_stepsOne_73 ?_
      refine go_icmp_ne (tgt := 130) dX11_stepsOne_75 (by decide) (fun hc => ?_) (fun hc => ?_)
      · replace H := H.1 hc
        refine go_aload_n dX11_stepsOne_130 rfl ?_
        refine go_bipush (v := (6 : Int32)) rfl dX11_stepsOne_131 ?_
        have RZ : rf_ok (mm_pl B m 14 z3) m := RK
        refine go_V (av := [pv_i (6 : Int32)]) (st := []) (ci := 11) ok_X11_draw ⟨by decide, by decide⟩ ml_X11_253 rfl (by decide) (fun v hv => by simp only [List.mem_cons, List.not_mem_nil, or_false] at hv; rcases hv with rfl <;> first | exact pv_1i | exact pv_1r) (Nat.le_of_ble_eq_true rfl) (fun _ h => h) (by decide) rfl RK.1 dX11_stepsOne_133 H (fun r M' hq _ => ?_)
        obtain ⟨v5, rfl, z6, I4, rfl, H⟩ := hq
        show go_W mt_X11_stepsOne fr_R 136 [some (pv_r m), some (pv_i v2), none, none, none] [pv_i v5] (mm_si (mm_pl B m 14 z6) I4) (qi_ (fun x M' => ∃ z' I', M' = mm_si (mm_pl B m 14 z') I' ∧ P x z' I'))
        refine go_istore_n (by decide) dX11_stepsOne_136 ?_
        show go_W mt_X11_stepsOne fr_R 137 [some (pv_r m), some (pv_i v2), some (pv_i v5), none, none] [] (mm_si (mm_pl B m 14 z6) I4) (qi_ (fun x M' => ∃ z' I', M' = mm_si (mm_pl B m 14 z') I' ∧ P x z' I'))
        refine go_iload_n dX11_stepsOne_137 rfl ?_
        refine go_bipush (v := (7 : Int32)) rfl dX11_stepsOne_138 ?_
        refine go_icmp_ne (tgt := 154) dX11_stepsOne_140 (by decide) (fun hc => ?_) (fun hc => ?_)
        · replace H := H.1 hc
          refine go_iconst (v := (0 : Int32)) rfl dX11_stepsOne_154 ?_
          refine go_istore_n (by decide) dX11_stepsOne_155 ?_
          show go_W mt_X11_stepsOne fr_R 156 [some (pv_r m), some (pv_i v2), some (pv_i v5), some (pv_i (0 : Int32)), none] [] (mm_si (mm_pl B m 14 z6) I4) (qi_ (fun x M' => ∃ z' I', M' = mm_si (mm_pl B m 14 z') I' ∧ P x z' I'))
          refine go_aload_n dX11_stepsOne_156 rfl ?_
          refine go_getRe (k := 0) ⟨by decide, rfl, by decide, Or.inr ⟨_, rfl⟩⟩ RK.1 (rf_r1 RK) fl_X11_7 dX11_stepsOne_157 ?_
          refine go_iload_n dX11_stepsOne_160 rfl ?_
          obtain ⟨n7, ⟨hn7, hn7b⟩, H⟩ := H
          have RZ : rf_ok (mm_pl B m 14 z6) m := RK
          refine go_St (av := [pv_i v5]) (st := [pv_r (m + 1)]) ok_X11_workerAt ⟨by decide, by decide⟩ ml_X11_84 rfl (by decide) (fun v hv => by simp only [List.mem_cons, List.not_mem_nil, or_false] at hv; rcases hv with rfl <;> first | exact pv_1i | exact pv_1r) (Nat.le_of_ble_eq_true rfl) (fun _ h => h) dX11_stepsOne_161 (rx_workerAt RZ hn7) (fun r M' hq _ => ?_)
          obtain ⟨_, rfl, _, rfl, rfl, rfl⟩ := hq
          show go_W mt_X11_stepsOne fr_R 164 [some (pv_r m), some (pv_i v2), some (pv_i v5), some (pv_i (0 : Int32)), none] [pv_i (nI (60 + 4 * n7)), pv_r (m + 1)] (mm_si (mm_pl B m 14 z6) I4) (qi_ (fun x M' => ∃ z' I', M' = mm_si (mm_pl B m 14 z') I' ∧ P x z' I'))
          refine go_ialdN (j := (60 + 4 * n7)) ⟨by decide, by decide, by decide⟩ (rf_k1 RK) rfl (by omega) dX11_stepsOne_164 ?_
          refine go_istore (by decide) dX11_stepsOne_165 ?_
          show go_W mt_X11_stepsOne fr_R 167 [some (pv_r m), some (pv_i v2), some (pv_i v5), some (pv_i (0 : Int32)), some (pv_i (I4 (m + 1) (60 + 4 * n7)))] [] (mm_si (mm_pl B m 14 z6) I4) (qi_ (fun x M' => ∃ z' I', M' = mm_si (mm_pl B m 14 z') I' ∧ P x z' I'))
          refine go_iload_n dX11_stepsOne_167 rfl ?_
          refine go_iconst (v := (5 : Int32)) rfl dX11_stepsOne_168 ?_
          refine go_icmp_ge (tgt := 193) dX11_stepsOne_169 (by decide) (fun hc => ?_) (fun hc => ?_)
          · replace H := H.1 hc
            refine go_iload dX11_stepsOne_193 rfl ?_
            refine go_iconst (v := (-1 : Int32)) rfl dX11_stepsOne_195 ?_
            refine go_icmp_ne (tgt := 201) dX11_stepsOne_196 (by decide) (fun hc => ?_) (fun hc => ?_)
            · replace H := H.1 hc
              refine go_iload_n dX11_stepsOne_201 rfl ?_
              refine go_bipush (v := (7 : Int32)) rfl dX11_stepsOne_202 ?_
              refine go_icmp_ne (tgt := 218) dX11_stepsOne_204 (by decide) (fun hc => ?_) (fun hc => ?_)
              · replace H := H.1 hc
                refine go_aload_n dX11_stepsOne_218 rfl ?_
                refine go_iload dX11_stepsOne_219 rfl ?_
                have RZ : rf_ok (mm_pl B m 14 z6) m := RK
                refine go_V (av := [pv_i (I4 (m + 1) (60 + 4 * n7))]) (st := []) (ci := 11) ok_X11_isDoneNow ⟨by decide, by decide⟩ ml_X11_221 rfl (by decide) (fun v hv => by simp only [List.mem_cons, List.not_mem_nil, or_false] at hv; rcases hv with rfl <;> first | exact pv_1i | exact pv_1r) (Nat.le_of_ble_eq_true rfl) (fun _ h => h) (by decide) rfl RK.1 dX11_stepsOne_221 H (fun r M' hq _ => ?_)
                obtain ⟨rfl, I8, rfl, H⟩ := hq
                show go_W mt_X11_stepsOne fr_R 224 [some (pv_r m), some (pv_i v2), some (pv_i v5), some (pv_i (0 : Int32)), some (pv_i (I4 (m + 1) (60 + 4 * n7)))] [] (mm_si (mm_pl B m 14 z6) I8) (qi_ (fun x M' => ∃ z' I', M' = mm_si (mm_pl B m 14 z') I' ∧ P x z' I'))
                refine go_iconst (v := (1 : Int32)) rfl dX11_stepsOne_224 ?_
                exact go_iret rfl rfl dX11_stepsOne_225 ⟨_, rfl, _, _, rfl, H⟩
              · replace H := H.2 hc
                refine go_aload_n dX11_stepsOne_207 rfl ?_
                refine go_iload dX11_stepsOne_208 rfl ?_
                refine go_iload_n dX11_stepsOne_210 rfl ?_
                have RZ : rf_ok (mm_pl B m 14 z6) m := RK
                refine go_V (av := [pv_i (I4 (m + 1) (60 + 4 * n7)), pv_i (0 : Int32)]) (st := []) (ci := 11) ok_X11_failsNow ⟨by decide, by decide⟩ ml_X11_187 rfl (by decide) (fun v hv => by simp only [List.mem_cons, List.not_mem_nil, or_false] at hv; rcases hv with rfl | rfl <;> first | exact pv_1i | exact pv_1r) (Nat.le_of_ble_eq_true rfl) (fun _ h => h) (by decide) rfl RK.1 dX11_stepsOne_211 H (fun r M' hq _ => ?_)
                obtain ⟨v10, rfl, I9, rfl, H⟩ := hq
                show go_W mt_X11_stepsOne fr_R 214 [some (pv_r m), some (pv_i v2), some (pv_i v5), some (pv_i (0 : Int32)), some (pv_i (I4 (m + 1) (60 + 4 * n7)))] [pv_i v10] (mm_si (mm_pl B m 14 z6) I9) (qi_ (fun x M' => ∃ z' I', M' = mm_si (mm_pl B m 14 z') I' ∧ P x z' I'))
                refine go_pop pv_1i dX11_stepsOne_214 ?_
                refine go_goto (tgt := 224) dX11_stepsOne_215 (by decide) ?_
                refine go_iconst (v := (1 : Int32)) rfl dX11_stepsOne_224 ?_
                exact go_iret rfl rfl dX11_stepsOne_225 ⟨_, rfl, _, _, rfl, H⟩
            · replace H := H.2 hc
              refine go_iconst (v := (0 : Int32)) rfl dX11_stepsOne_199 ?_
              exact go_iret rfl rfl dX11_stepsOne_200 ⟨_, rfl, _, _, rfl, H⟩
          · replace H := H.2 hc
            refine go_iload dX11_stepsOne_172 rfl ?_
            refine go_iconst (v := (-1 : Int32)) rfl dX11_stepsOne_174 ?_
            refine go_icmp_ne (tgt := 191) dX11_stepsOne_175 (by decide) (fun hc => ?_) (fun hc => ?_)
            · replace H := H.1 hc
              refine go_iconst (v := (0 : Int32)) rfl dX11_stepsOne_191 ?_
              exact go_iret rfl rfl dX11_stepsOne_192 ⟨_, rfl, _, _, rfl, H⟩
            · replace H := H.2 hc
              refine go_aload_n dX11_stepsOne_178 rfl ?_
              refine go_iload_n dX11_stepsOne_179 rfl ?_
              have RZ : rf_ok (mm_pl B m 14 z6) m := RK
              refine go_V (av := [pv_i v5]) (st := []) (ci := 11) ok_X11_takesBy ⟨by decide, by decide⟩ ml_X11_215 rfl (by decide) (fun v hv => by simp only [List.mem_cons, List.not_mem_nil, or_false] at hv; rcases hv with rfl <;> first | exact pv_1i | exact pv_1r) (Nat.le_of_ble_eq_true rfl) (fun _ h => h) (by decide) rfl RK.1 dX11_stepsOne_180 H (fun r M' hq _ => ?_)
              obtain ⟨v12, rfl, I11, rfl, H⟩ := hq
              show go_W mt_X11_stepsOne fr_R 183 [some (pv_r m), some (pv_i v2), some (pv_i v5), some (pv_i (0 : Int32)), some (pv_i (I4 (m + 1) (60 + 4 * n7)))] [pv_i v12] (mm_si (mm_pl B m 14 z6) I11) (qi_ (fun x M' => ∃ z' I', M' = mm_si (mm_pl B m 14 z') I' ∧ P x z' I'))
              refine go_iconst (v := (-1 : Int32)) rfl dX11_stepsOne_183 ?_
              refine go_icmp_eq (tgt := 191) dX11_stepsOne_184 (by decide) (fun hc => ?_) (fun hc => ?_)
              · replace H := H.1 hc
                refine go_iconst (v := (0 : Int32)) rfl dX11_stepsOne_191 ?_
                exact go_iret rfl rfl dX11_stepsOne_192 ⟨_, rfl, _, _, rfl, H⟩
              · replace H := H.2 hc
                refine go_iconst (v := (1 : Int32)) rfl dX11_stepsOne_187 ?_
                refine go_goto (tgt := 192) dX11_stepsOne_188 (by decide) ?_
                exact go_iret rfl rfl dX11_stepsOne_192 ⟨_, rfl, _, _, rfl, H⟩
        · replace H := H.2 hc
          refine go_aload_n dX11_stepsOne_143 rfl ?_
          refine go_bipush (v := (99 : Int32)) rfl dX11_stepsOne_144 ?_
          have RZ : rf_ok (mm_pl B m 14 z6) m := RK
          refine go_V (av := [pv_i (99 : Int32)]) (st := []) (ci := 11) ok_X11_draw ⟨by decide, by decide⟩ ml_X11_253 rfl (by decide) (fun v hv => by simp only [List.mem_cons, List.not_mem_nil, or_false] at hv; rcases hv with rfl <;> first | exact pv_1i | exact pv_1r) (Nat.le_of_ble_eq_true rfl) (fun _ h => h) (by decide) rfl RK.1 dX11_stepsOne_146 H (fun r M' hq _ => ?_)
          obtain ⟨v14, rfl, z15, I13, rfl, H⟩ := hq
          show go_W mt_X11_stepsOne fr_R 149 [some (pv_r m), some (pv_i v2), some (pv_i v5), none, none] [pv_i v14] (mm_si (mm_pl B m 14 z15) I13) (qi_ (fun x M' => ∃ z' I', M' = mm_si (mm_pl B m 14 z') I' ∧ P x z' I'))
          refine go_iconst (v := (1 : Int32)) rfl dX11_stepsOne_149 ?_
          refine go_iadd dX11_stepsOne_150 ?_
          refine go_goto (tgt := 155) dX11_stepsOne_151 (by decide) ?_
          refine go_istore_n (by decide) dX11_stepsOne_155 ?_
          show go_W mt_X11_stepsOne fr_R 156 [some (pv_r m), some (pv_i v2), some (pv_i v5), some (pv_i (v14 + (1 : Int32))), none] [] (mm_si (mm_pl B m 14 z15) I13) (qi_ (fun x M' => ∃ z' I', M' = mm_si (mm_pl B m 14 z') I' ∧ P x z' I'))
          refine go_aload_n dX11_stepsOne_156 rfl ?_
          refine go_getRe (k := 0) ⟨by decide, rfl, by decide, Or.inr ⟨_, rfl⟩⟩ RK.1 (rf_r1 RK) fl_X11_7 dX11_stepsOne_157 ?_
          refine go_iload_n dX11_stepsOne_160 rfl ?_
          obtain ⟨n16, ⟨hn16, hn16b⟩, H⟩ := H
          have RZ : rf_ok (mm_pl B m 14 z15) m := RK
          refine go_St (av := [pv_i v5]) (st := [pv_r (m + 1)]) ok_X11_workerAt ⟨by decide, by decide⟩ ml_X11_84 rfl (by decide) (fun v hv => by simp only [List.mem_cons, List.not_mem_nil, or_false] at hv; rcases hv with rfl <;> first | exact pv_1i | exact pv_1r) (Nat.le_of_ble_eq_true rfl) (fun _ h => h) dX11_stepsOne_161 (rx_workerAt RZ hn16) (fun r M' hq _ => ?_)
          obtain ⟨_, rfl, _, rfl, rfl, rfl⟩ := hq
          show go_W mt_X11_stepsOne fr_R 164 [some (pv_r m), some (pv_i v2), some (pv_i v5), some (pv_i (v14 + (1 : Int32))), none] [pv_i (nI (60 + 4 * n16)), pv_r (m + 1)] (mm_si (mm_pl B m 14 z15) I13) (qi_ (fun x M' => ∃ z' I', M' = mm_si (mm_pl B m 14 z') I' ∧ P x z' I'))
          refine go_ialdN (j := (60 + 4 * n16)) ⟨by decide, by decide, by decide⟩ (rf_k1 RK) rfl (by omega) dX11_stepsOne_164 ?_
          refine go_istore (by decide) dX11_stepsOne_165 ?_
          show go_W mt_X11_stepsOne fr_R 167 [some (pv_r m), some (pv_i v2), some (pv_i v5), some (pv_i (v14 + (1 : Int32))), some (pv_i (I13 (m + 1) (60 + 4 * n16)))] [] (mm_si (mm_pl B m 14 z15) I13) (qi_ (fun x M' => ∃ z' I', M' = mm_si (mm_pl B m 14 z') I' ∧ P x z' I'))
          refine go_iload_n dX11_stepsOne_167 rfl ?_
          refine go_iconst (v := (5 : Int32)) rfl dX11_stepsOne_168 ?_
          refine go_icmp_ge (tgt := 193) dX11_stepsOne_169 (by decide) (fun hc => ?_) (fun hc => ?_)
          · replace H := H.1 hc
            refine go_iload dX11_stepsOne_193 rfl ?_
            refine go_iconst (v := (-1 : Int32)) rfl dX11_stepsOne_195 ?_
            refine go_icmp_ne (tgt := 201) dX11_stepsOne_196 (by decide) (fun hc => ?_) (fun hc => ?_)
            · replace H := H.1 hc
              refine go_iload_n dX11_stepsOne_201 rfl ?_
              refine go_bipush (v := (7 : Int32)) rfl dX11_stepsOne_202 ?_
              refine go_icmp_ne (tgt := 218) dX11_stepsOne_204 (by decide) (fun hc => ?_) (fun hc => ?_)
              · replace H := H.1 hc
                refine go_aload_n dX11_stepsOne_218 rfl ?_
                refine go_iload dX11_stepsOne_219 rfl ?_
                have RZ : rf_ok (mm_pl B m 14 z15) m := RK
                refine go_V (av := [pv_i (I13 (m + 1) (60 + 4 * n16))]) (st := []) (ci := 11) ok_X11_isDoneNow ⟨by decide, by decide⟩ ml_X11_221 rfl (by decide) (fun v hv => by simp only [List.mem_cons, List.not_mem_nil, or_false] at hv; rcases hv with rfl <;> first | exact pv_1i | exact pv_1r) (Nat.le_of_ble_eq_true rfl) (fun _ h => h) (by decide) rfl RK.1 dX11_stepsOne_221 H (fun r M' hq _ => ?_)
                obtain ⟨rfl, I17, rfl, H⟩ := hq
                show go_W mt_X11_stepsOne fr_R 224 [some (pv_r m), some (pv_i v2), some (pv_i v5), some (pv_i (v14 + (1 : Int32))), some (pv_i (I13 (m + 1) (60 + 4 * n16)))] [] (mm_si (mm_pl B m 14 z15) I17) (qi_ (fun x M' => ∃ z' I', M' = mm_si (mm_pl B m 14 z') I' ∧ P x z' I'))
                refine go_iconst (v := (1 : Int32)) rfl dX11_stepsOne_224 ?_
                exact go_iret rfl rfl dX11_stepsOne_225 ⟨_, rfl, _, _, rfl, H⟩
              · replace H := H.2 hc
                refine go_aload_n dX11_stepsOne_207 rfl ?_
                refine go_iload dX11_stepsOne_208 rfl ?_
                refine go_iload_n dX11_stepsOne_210 rfl ?_
                have RZ : rf_ok (mm_pl B m 14 z15) m := RK
                refine go_V (av := [pv_i (I13 (m + 1) (60 + 4 * n16)), pv_i (v14 + (1 : Int32))]) (st := []) (ci := 11) ok_X11_failsNow ⟨by decide, by decide⟩ ml_X11_187 rfl (by decide) (fun v hv => by simp only [List.mem_cons, List.not_mem_nil, or_false] at hv; rcases hv with rfl | rfl <;> first | exact pv_1i | exact pv_1r) (Nat.le_of_ble_eq_true rfl) (fun _ h => h) (by decide) rfl RK.1 dX11_stepsOne_211 H (fun r M' hq _ => ?_)
                obtain ⟨v19, rfl, I18, rfl, H⟩ := hq
                show go_W mt_X11_stepsOne fr_R 214 [some (pv_r m), some (pv_i v2), some (pv_i v5), some (pv_i (v14 + (1 : Int32))), some (pv_i (I13 (m + 1) (60 + 4 * n16)))] [pv_i v19] (mm_si (mm_pl B m 14 z15) I18) (qi_ (fun x M' => ∃ z' I', M' = mm_si (mm_pl B m 14 z') I' ∧ P x z' I'))
                refine go_pop pv_1i dX11_stepsOne_214 ?_
                refine go_goto (tgt := 224) dX11_stepsOne_215 (by decide) ?_
                refine go_iconst (v := (1 : Int32)) rfl dX11_stepsOne_224 ?_
                exact go_iret rfl rfl dX11_stepsOne_225 ⟨_, rfl, _, _, rfl, H⟩
            · replace H := H.2 hc
              refine go_iconst (v := (0 : Int32)) rfl dX11_stepsOne_199 ?_
              exact go_iret rfl rfl dX11_stepsOne_200 ⟨_, rfl, _, _, rfl, H⟩
          · replace H := H.2 hc
            refine go_iload dX11_stepsOne_172 rfl ?_
            refine go_iconst (v := (-1 : Int32)) rfl dX11_stepsOne_174 ?_
            refine go_icmp_ne (tgt := 191) dX11_stepsOne_175 (by decide) (fun hc => ?_) (fun hc => ?_)
            · replace H := H.1 hc
              refine go_iconst (v := (0 : Int32)) rfl dX11_stepsOne_191 ?_
              exact go_iret rfl rfl dX11_stepsOne_192 ⟨_, rfl, _, _, rfl, H⟩
            · replace H := H.2 hc
              refine go_aload_n dX11_stepsOne_178 rfl ?_
              refine go_iload_n dX11_stepsOne_179 rfl ?_
              have RZ : rf_ok (mm_pl B m 14 z15) m := RK
              refine go_V (av := [pv_i v5]) (st := []) (ci := 11) ok_X11_takesBy ⟨by decide, by decide⟩ ml_X11_215 rfl (by decide) (fun v hv => by simp only [List.mem_cons, List.not_mem_nil, or_false] at hv; rcases hv with rfl <;> first | exact pv_1i | exact pv_1r) (Nat.le_of_ble_eq_true rfl) (fun _ h => h) (by decide) rfl RK.1 dX11_stepsOne_180 H (fun r M' hq _ => ?_)
              obtain ⟨v21, rfl, I20, rfl, H⟩ := hq
              show go_W mt_X11_stepsOne fr_R 183 [some (pv_r m), some (pv_i v2), some (pv_i v5), some (pv_i (v14 + (1 : Int32))), some (pv_i (I13 (m + 1) (60 + 4 * n16)))] [pv_i v21] (mm_si (mm_pl B m 14 z15) I20) (qi_ (fun x M' => ∃ z' I', M' = mm_si (mm_pl B m 14 z') I' ∧ P x z' I'))
              refine go_iconst (v := (-1 : Int32)) rfl dX11_stepsOne_183 ?_
              refine go_icmp_eq (tgt := 191) dX11_stepsOne_184 (by decide) (fun hc => ?_) (fun hc => ?_)
              · replace H := H.1 hc
                refine go_iconst (v := (0 : Int32)) rfl dX11_stepsOne_191 ?_
                exact go_iret rfl rfl dX11_stepsOne_192 ⟨_, rfl, _, _, rfl, H⟩
              · replace H := H.2 hc
                refine go_iconst (v := (1 : Int32)) rfl dX11_stepsOne_187 ?_
                refine go_goto (tgt := 192) dX11_stepsOne_188 (by decide) ?_
                exact go_iret rfl rfl dX11_stepsOne_192 ⟨_, rfl, _, _, rfl, H⟩
      · replace H := H.2 hc
        refine go_aload_n dX11_stepsOne_78 rfl ?_
        refine go_sipush (v := (400 : Int32)) rfl dX11_stepsOne_79 ?_
        have RZ : rf_ok (mm_pl B m 14 z3) m := RK
        refine go_V (av := [pv_i (400 : Int32)]) (st := []) (ci := 11) ok_X11_draw ⟨by decide, by decide⟩ ml_X11_253 rfl (by decide) (fun v hv => by simp only [List.mem_cons, List.not_mem_nil, or_false] at hv; rcases hv with rfl <;> first | exact pv_1i | exact pv_1r) (Nat.le_of_ble_eq_true rfl) (fun _ h => h) (by decide) rfl RK.1 dX11_stepsOne_82 H (fun r M' hq _ => ?_)
        obtain ⟨v23, rfl, z24, I22, rfl, H⟩ := hq
        show go_W mt_X11_stepsOne fr_R 85 [some (pv_r m), some (pv_i v2), none, none, none] [pv_i v23] (mm_si (mm_pl B m 14 z24) I22) (qi_ (fun x M' => ∃ z' I', M' = mm_si (mm_pl B m 14 z') I' ∧ P x z' I'))
        refine go_istore_n (by decide) dX11_stepsOne_85 ?_
        show go_W mt_X11_stepsOne fr_R 86 [some (pv_r m), some (pv_i v2), some (pv_i v23), none, none] [] (mm_si (mm_pl B m 14 z24) I22) (qi_ (fun x M' => ∃ z' I', M' = mm_si (mm_pl B m 14 z') I' ∧ P x z' I'))
        refine go_aload_n dX11_stepsOne_86 rfl ?_
        refine go_bipush (v := (10 : Int32)) rfl dX11_stepsOne_87 ?_
        have RZ : rf_ok (mm_pl B m 14 z24) m := RK
        refine go_V (av := [pv_i (10 : Int32)]) (st := []) (ci := 11) ok_X11_draw ⟨by decide, by decide⟩ ml_X11_253 rfl (by decide) (fun v hv => by simp only [List.mem_cons, List.not_mem_nil, or_false] at hv; rcases hv with rfl <;> first | exact pv_1i | exact pv_1r) (Nat.le_of_ble_eq_true rfl) (fun _ h => h) (by decide) rfl RK.1 dX11_stepsOne_89 H (fun r M' hq _ => ?_)
        obtain ⟨v26, rfl, z27, I25, rfl, H⟩ := hq
        show go_W mt_X11_stepsOne fr_R 92 [some (pv_r m), some (pv_i v2), some (pv_i v23), none, none] [pv_i v26] (mm_si (mm_pl B m 14 z27) I25) (qi_ (fun x M' => ∃ z' I', M' = mm_si (mm_pl B m 14 z') I' ∧ P x z' I'))
        refine go_istore_n (by decide) dX11_stepsOne_92 ?_
        show go_W mt_X11_stepsOne fr_R 93 [some (pv_r m), some (pv_i v2), some (pv_i v23), some (pv_i v26), none] [] (mm_si (mm_pl B m 14 z27) I25) (qi_ (fun x M' => ∃ z' I', M' = mm_si (mm_pl B m 14 z') I' ∧ P x z' I'))
        refine go_aload_n dX11_stepsOne_93 rfl ?_
        refine go_iload_n dX11_stepsOne_94 rfl ?_
        by_cases hc : (0 ≤ v23 ∧ v23 ≤ I25 (m + 1) 1 - 1)
        · replace H := H.1 hc
          have RZ : rf_ok (mm_pl B m 14 z27) m := RK
          refine go_V (av := [pv_i v23]) (st := []) (ci := 11) ok_X11_isTask ⟨by decide, by decide⟩ ml_X11_161 rfl (by decide) (fun v hv => by simp only [List.mem_cons, List.not_mem_nil, or_false] at hv; rcases hv with rfl <;> first | exact pv_1i | exact pv_1r) (Nat.le_of_ble_eq_true rfl) (fun _ h => h) (by decide) rfl RK.1 dX11_stepsOne_95 (rx_isTask_t RZ hc) (fun r M' hq _ => ?_)
          obtain ⟨_, rfl, _, rfl, rfl, rfl⟩ := hq
          show go_W mt_X11_stepsOne fr_R 98 [some (pv_r m), some (pv_i v2), some (pv_i v23), some (pv_i v26), none] [pv_i (1 : Int32)] (mm_si (mm_pl B m 14 z27) I25) (qi_ (fun x M' => ∃ z' I', M' = mm_si (mm_pl B m 14 z') I' ∧ P x z' I'))
          refine go_if_eq (tgt := 119) dX11_stepsOne_98 (by decide) (fun hc => absurd hc (by decide)) (fun _ => ?_)
          refine go_aload_n dX11_stepsOne_101 rfl ?_
          refine go_iload_n dX11_stepsOne_102 rfl ?_
          obtain ⟨n28, ⟨hn28, hn28b⟩, H⟩ := H
          by_cases hc : (I25 (m + 1) (200 + 14 * n28 + 6) ≤ 2)
          · replace H := H.1 hc
            have RZ : rf_ok (mm_pl B m 14 z27) m := RK
            refine go_V (av := [pv_i v23]) (st := []) (ci := 11) ok_X11_isAtRest ⟨by decide, by decide⟩ ml_X11_230 rfl (by decide) (fun v hv => by simp only [List.mem_cons, List.not_mem_nil, or_false] at hv; rcases hv with rfl <;> first | exact pv_1i | exact pv_1r) (Nat.le_of_ble_eq_true rfl) (fun _ h => h) (by decide) rfl RK.1 dX11_stepsOne_103 (rx_isAtRest_t RZ hn28 hn28b hc) (fun r M' hq _ => ?_)
            obtain ⟨_, rfl, _, rfl, rfl, rfl⟩ := hq
            show go_W mt_X11_stepsOne fr_R 106 [some (pv_r m), some (pv_i v2), some (pv_i v23), some (pv_i v26), none] [pv_i (1 : Int32)] (mm_si (mm_pl B m 14 z27) I25) (qi_ (fun x M' => ∃ z' I', M' = mm_si (mm_pl B m 14 z') I' ∧ P x z' I'))
            refine go_if_eq (tgt := 119) dX11_stepsOne_106 (by decide) (fun hc => absurd hc (by decide)) (fun _ => ?_)
            refine go_aload_n dX11_stepsOne_109 rfl ?_
            refine go_iload_n dX11_stepsOne_110 rfl ?_
            refine go_iconst (v := (1 : Int32)) rfl dX11_stepsOne_111 ?_
            have RZ : rf_ok (mm_pl B m 14 z27) m := RK
            refine go_V (av := [pv_i v23, pv_i (1 : Int32)]) (st := []) (ci := 11) ok_X11_of ⟨by decide, by decide⟩ ml_X11_94 rfl (by decide) (fun v hv => by simp only [List.mem_cons, List.not_mem_nil, or_false] at hv; rcases hv with rfl | rfl <;> first | exact pv_1i | exact pv_1r) (Nat.le_of_ble_eq_true rfl) (fun _ h => h) (by decide) rfl RK.1 dX11_stepsOne_112 (rx_of RZ hn28 rfl (by omega) (by decide)) (fun r M' hq _ => ?_)
            obtain ⟨_, rfl, _, rfl, rfl, rfl⟩ := hq
            show go_W mt_X11_stepsOne fr_R 115 [some (pv_r m), some (pv_i v2), some (pv_i v23), some (pv_i v26), none] [pv_i (I25 (m + 1) (200 + 14 * n28 + 1))] (mm_si (mm_pl B m 14 z27) I25) (qi_ (fun x M' => ∃ z' I', M' = mm_si (mm_pl B m 14 z') I' ∧ P x z' I'))
            refine go_iload_n dX11_stepsOne_115 rfl ?_
            refine go_icmp_ne (tgt := 121) dX11_stepsOne_116 (by decide) (fun hc => ?_) (fun hc => ?_)
            · replace H := H.1 hc
              refine go_aload_n dX11_stepsOne_121 rfl ?_
              refine go_iload_n dX11_stepsOne_122 rfl ?_
              refine go_iconst (v := (1 : Int32)) rfl dX11_stepsOne_123 ?_
              refine go_iload_n dX11_stepsOne_124 rfl ?_
              have RZ : rf_ok (mm_pl B m 14 z27) m := RK
              refine go_V (av := [pv_i v23, pv_i (1 : Int32), pv_i v26]) (st := []) (ci := 11) ok_X11_is ⟨by decide, by decide⟩ ml_X11_121 rfl (by decide) (fun v hv => by simp only [List.mem_cons, List.not_mem_nil, or_false] at hv; rcases hv with rfl | rfl | rfl <;> first | exact pv_1i | exact pv_1r) (Nat.le_of_ble_eq_true rfl) (fun _ h => h) (by decide) rfl RK.1 dX11_stepsOne_125 (rx_is RZ hn28 rfl (by omega) (by decide)) (fun r M' hq _ => ?_)
              obtain ⟨rfl, _, rfl, rfl⟩ := hq
              show go_W mt_X11_stepsOne fr_R 128 [some (pv_r m), some (pv_i v2), some (pv_i v23), some (pv_i v26), none] [] (mm_si (mm_pl B m 14 z27) (i2_u I25 (m + 1) (200 + 14 * n28 + 1) v26)) (qi_ (fun x M' => ∃ z' I', M' = mm_si (mm_pl B m 14 z') I' ∧ P x z' I'))
              obtain ⟨I29, hI29⟩ : ∃ I', I' = i2_u I25 (m + 1) (200 + 14 * n28 + 1) v26 := ⟨_, rfl⟩
              rw [← hI29]
              replace H := H I29 hI29
              refine go_iconst (v := (1 : Int32)) rfl dX11_stepsOne_128 ?_
              exact go_iret rfl rfl dX11_stepsOne_129 ⟨_, rfl, _, _, rfl, H⟩
            · replace H := H.2 hc
              refine go_iconst (v := (0 : Int32)) rfl dX11_stepsOne_119 ?_
              exact go_iret rfl rfl dX11_stepsOne_120 ⟨_, rfl, _, _, rfl, H⟩
          · replace H := H.2 hc
            have RZ : rf_ok (mm_pl B m 14 z27) m := RK
            refine go_V (av := [pv_i v23]) (st := []) (ci := 11) ok_X11_isAtRest ⟨by decide, by decide⟩ ml_X11_230 rfl (by decide) (fun v hv => by simp only [List.mem_cons, List.not_mem_nil, or_false] at hv; rcases hv with rfl <;> first | exact pv_1i | exact pv_1r) (Nat.le_of_ble_eq_true rfl) (fun _ h => h) (by decide) rfl RK.1 dX11_stepsOne_103 (rx_isAtRest_f RZ hn28 hn28b hc) (fun r M' hq _ => ?_)
            obtain ⟨_, rfl, _, rfl, rfl, rfl⟩ := hq
            show go_W mt_X11_stepsOne fr_R 106 [some (pv_r m), some (pv_i v2), some (pv_i v23), some (pv_i v26), none] [pv_i (0 : Int32)] (mm_si (mm_pl B m 14 z27) I25) (qi_ (fun x M' => ∃ z' I', M' = mm_si (mm_pl B m 14 z') I' ∧ P x z' I'))
            refine go_if_eq (tgt := 119) dX11_stepsOne_106 (by decide) (fun _ => ?_) (fun hc => absurd hc (by decide))
            refine go_iconst (v := (0 : Int32)) rfl dX11_stepsOne_119 ?_
            exact go_iret rfl rfl dX11_stepsOne_120 ⟨_, rfl, _, _, rfl, H⟩
        · replace H := H.2 hc
          have RZ : rf_ok (mm_pl B m 14 z27) m := RK
          refine go_V (av := [pv_i v23]) (st := []) (ci := 11) ok_X11_isTask ⟨by decide, by decide⟩ ml_X11_161 rfl (by decide) (fun v hv => by simp only [List.mem_cons, List.not_mem_nil, or_false] at hv; rcases hv with rfl <;> first | exact pv_1i | exact pv_1r) (Nat.le_of_ble_eq_true rfl) (fun _ h => h) (by decide) rfl RK.1 dX11_stepsOne_95 (rx_isTask_f RZ hc) (fun r M' hq _ => ?_)
          obtain ⟨_, rfl, _, rfl, rfl, rfl⟩ := hq
          show go_W mt_X11_stepsOne fr_R 98 [some (pv_r m), some (pv_i v2), some (pv_i v23), some (pv_i v26), none] [pv_i (0 : Int32)] (mm_si (mm_pl B m 14 z27) I25) (qi_ (fun x M' => ∃ z' I', M' = mm_si (mm_pl B m 14 z') I' ∧ P x z' I'))
          refine go_if_eq (tgt := 119) dX11_stepsOne_98 (by decide) (fun _ => ?_) (fun hc => absurd hc (by decide))
          refine go_iconst (v := (0 : Int32)) rfl dX11_stepsOne_119 ?_
          exact go_iret rfl rfl dX11_stepsOne_120 ⟨_, rfl, _, _, rfl, H⟩
    · replace H := H.2 hc
      refine go_aload_n dX11_stepsOne_66 rfl ?_
      have RZ : rf_ok (mm_pl B m 14 z3) m := RK
      refine go_V (av := []) (st := []) (ci := 11) ok_X11_ticks ⟨by decide, by decide⟩ ml_X11_227 rfl (by decide) (fun v hv => absurd hv List.not_mem_nil) (Nat.le_of_ble_eq_true rfl) (fun _ h => h) (by decide) rfl RK.1 dX11_stepsOne_67 H (fun r M' hq _ => ?_)
      obtain ⟨rfl, I30, rfl, H⟩ := hq
      show go_W mt_X11_stepsOne fr_R 70 [some (pv_r m), some (pv_i v2), none, none, none] [] (mm_si (mm_pl B m 14 z3) I30) (qi_ (fun x M' => ∃ z' I', M' = mm_si (mm_pl B m 14 z') I' ∧ P x z' I'))
      refine go_iconst (v := (1 : Int32)) rfl dX11_stepsOne_70 ?_
      exact go_iret rfl rfl dX11_stepsOne_71 ⟨_, rfl, _, _, rfl, H⟩
  · replace H := H.2 hc
    refine go_aload_n dX11_stepsOne_12 rfl ?_
    refine go_iconst (v := (5 : Int32)) rfl dX11_stepsOne_13 ?_
    have RZ : rf_ok (mm_pl B m 14 z3) m := RK
    refine go_V (av := [pv_i (5 : Int32)]) (st := []) (ci := 11) ok_X11_draw ⟨by decide, by decide⟩ ml_X11_253 rfl (by decide) (fun v hv => by simp only [List.mem_cons, List.not_mem_nil, or_false] at hv; rcases hv with rfl <;> first | exact pv_1i | exact pv_1r) (Nat.le_of_ble_eq_true rfl) (fun _ h => h) (by decide) rfl RK.1 dX11_stepsOne_14 H (fun r M' hq _ => ?_)
    obtain ⟨v32, rfl, z33, I31, rfl, H⟩ := hq
    show go_W mt_X11_stepsOne fr_R 17 [some (pv_r m), some (pv_i v2), none, none, none] [pv_i v32] (mm_si (mm_pl B m 14 z33) I31) (qi_ (fun x M' => ∃ z' I', M' = mm_si (mm_pl B m 14 z') I' ∧ P x z' I'))
    refine go_istore_n (by decide) dX11_stepsOne_17 ?_
    show go_W mt_X11_stepsOne fr_R 18 [some (pv_r m), some (pv_i v2), some (pv_i v32), none, none] [] (mm_si (mm_pl B m 14 z33) I31) (qi_ (fun x M' => ∃ z' I', M' = mm_si (mm_pl B m 14 z') I' ∧ P x z' I'))
    refine go_aload_n dX11_stepsOne_18 rfl ?_
    refine go_bipush (v := (10 : Int32)) rfl dX11_stepsOne_19 ?_
    have RZ : rf_ok (mm_pl B m 14 z33) m := RK
    refine go_V (av := [pv_i (10 : Int32)]) (st := []) (ci := 11) ok_X11_draw ⟨by decide, by decide⟩ ml_X11_253 rfl (by decide) (fun v hv => by simp only [List.mem_cons, List.not_mem_nil, or_false] at hv; rcases hv with rfl <;> first | exact pv_1i | exact pv_1r) (Nat.le_of_ble_eq_true rfl) (fun _ h => h) (by decide) rfl RK.1 dX11_stepsOne_21 H (fun r M' hq _ => ?_)
    obtain ⟨v35, rfl, z36, I34, rfl, H⟩ := hq
    show go_W mt_X11_stepsOne fr_R 24 [some (pv_r m), some (pv_i v2), some (pv_i v32), none, none] [pv_i v35] (mm_si (mm_pl B m 14 z36) I34) (qi_ (fun x M' => ∃ z' I', M' = mm_si (mm_pl B m 14 z') I' ∧ P x z' I'))
    refine go_istore_n (by decide) dX11_stepsOne_24 ?_
    show go_W mt_X11_stepsOne fr_R 25 [some (pv_r m), some (pv_i v2), some (pv_i v32), some (pv_i v35), none] [] (mm_si (mm_pl B m 14 z36) I34) (qi_ (fun x M' => ∃ z' I', M' = mm_si (mm_pl B m 14 z') I' ∧ P x z' I'))
    refine go_aload_n dX11_stepsOne_25 rfl ?_
    refine go_bipush (v := (20 : Int32)) rfl dX11_stepsOne_26 ?_
    have RZ : rf_ok (mm_pl B m 14 z36) m := RK
    refine go_V (av := [pv_i (20 : Int32)]) (st := []) (ci := 11) ok_X11_draw ⟨by decide, by decide⟩ ml_X11_253 rfl (by decide) (fun v hv => by simp only [List.mem_cons, List.not_mem_nil, or_false] at hv; rcases hv with rfl <;> first | exact pv_1i | exact pv_1r) (Nat.le_of_ble_eq_true rfl) (fun _ h => h) (by decide) rfl RK.1 dX11_stepsOne_28 H (fun r M' hq _ => ?_)
    obtain ⟨v38, rfl, z39, I37, rfl, H⟩ := hq
    show go_W mt_X11_stepsOne fr_R 31 [some (pv_r m), some (pv_i v2), some (pv_i v32), some (pv_i v35), none] [pv_i v38] (mm_si (mm_pl B m 14 z39) I37) (qi_ (fun x M' => ∃ z' I', M' = mm_si (mm_pl B m 14 z') I' ∧ P x z' I'))
    refine go_iconst (v := (1 : Int32)) rfl dX11_stepsOne_31 ?_
    refine go_iadd dX11_stepsOne_32 ?_
    refine go_istore (by decide) dX11_stepsOne_33 ?_
    show go_W mt_X11_stepsOne fr_R 35 [some (pv_r m), some (pv_i v2), some (pv_i v32), some (pv_i v35), some (pv_i (v38 + (1 : Int32)))] [] (mm_si (mm_pl B m 14 z39) I37) (qi_ (fun x M' => ∃ z' I', M' = mm_si (mm_pl B m 14 z') I' ∧ P x z' I'))
    refine go_aload_n dX11_stepsOne_35 rfl ?_
    refine go_iload_n dX11_stepsOne_36 rfl ?_
    refine go_iload_n dX11_stepsOne_37 rfl ?_
    refine go_iload dX11_stepsOne_38 rfl ?_
    refine go_aload_n dX11_stepsOne_40 rfl ?_
    refine go_sipush (v := (10000 : Int32)) rfl dX11_stepsOne_41 ?_
    have RZ : rf_ok (mm_pl B m 14 z39) m := RK
    refine go_V (av := [pv_i (10000 : Int32)]) (st := [pv_i (v38 + (1 : Int32)), pv_i v35, pv_i v32, pv_r m]) (ci := 11) ok_X11_draw ⟨by decide, by decide⟩ ml_X11_253 rfl (by decide) (fun v hv => by simp only [List.mem_cons, List.not_mem_nil, or_false] at hv; rcases hv with rfl <;> first | exact pv_1i | exact pv_1r) (Nat.le_of_ble_eq_true rfl) (fun _ h => h) (by decide) rfl RK.1 dX11_stepsOne_44 H (fun r M' hq _ => ?_)
    obtain ⟨v41, rfl, z42, I40, rfl, H⟩ := hq
    show go_W mt_X11_stepsOne fr_R 47 [some (pv_r m), some (pv_i v2), some (pv_i v32), some (pv_i v35), some (pv_i (v38 + (1 : Int32)))] [pv_i v41, pv_i (v38 + (1 : Int32)), pv_i v35, pv_i v32, pv_r m] (mm_si (mm_pl B m 14 z42) I40) (qi_ (fun x M' => ∃ z' I', M' = mm_si (mm_pl B m 14 z') I' ∧ P x z' I'))
    refine go_iconst (v := (-1 : Int32)) rfl dX11_stepsOne_47 ?_
    have RZ : rf_ok (mm_pl B m 14 z42) m := RK
    refine go_V (av := [pv_i v32, pv_i v35, pv_i (v38 + (1 : Int32)), pv_i v41, pv_i (-1 : Int32)]) (st := []) (ci := 11) ok_X11_comesNow ⟨by decide, by decide⟩ ml_X11_196 rfl (by decide) (fun v hv => by simp only [List.mem_cons, List.not_mem_nil, or_false] at hv; rcases hv with rfl | rfl | rfl | rfl | rfl <;> first | exact pv_1i | exact pv_1r) (Nat.le_of_ble_eq_true rfl) (fun _ h => h) (by decide) rfl RK.1 dX11_stepsOne_48 H (fun r M' hq _ => ?_)
    obtain ⟨v44, rfl, I43, rfl, H⟩ := hq
    show go_W mt_X11_stepsOne fr_R 51 [some (pv_r m), some (pv_i v2), some (pv_i v32), some (pv_i v35), some (pv_i (v38 + (1 : Int32)))] [pv_i v44] (mm_si (mm_pl B m 14 z42) I43) (qi_ (fun x M' => ∃ z' I', M' = mm_si (mm_pl B m 14 z') I' ∧ P x z' I'))
    refine go_if_lt (tgt := 58) dX11_stepsOne_51 (by decide) (fun hc => ?_) (fun hc => ?_)
    · replace H := H.1 hc
      refine go_iconst (v := (0 : Int32)) rfl dX11_stepsOne_58 ?_
      exact go_iret rfl rfl dX11_stepsOne_59 ⟨_, rfl, _, _, rfl, H⟩
    · replace H := H.2 hc
      refine go_iconst (v := (1 : Int32)) rfl dX11_stepsOne_54 ?_
      refine go_goto (tgt := 59) dX11_stepsOne_55 (by decide) ?_
      exact go_iret rfl rfl dX11_stepsOne_59 ⟨_, rfl, _, _, rfl, H⟩
set_option maxRecDepth 20000 in
theorem wz_X11_steps_0 {B : mm_T} {I : Nat → Nat → Int32} {m : Nat} (RK : rf_ok B m) {z : Int64} {x1 x2 : Int32} {P : Int32 → Int64 → (Nat → Nat → Int32) → Prop} (H : (((x1 < 0) → (I m 8 = 0) ∧ (∀ I1, I1 = i2_u I m 7 (I m 7 + 1) → P (-2 : Int32) z I1)) ∧ ((¬ x1 < 0) → (((((1 : Int32) ≤ x2 ∧ x2 ≤ (60 : Int32))) → zw_i mt_X11_steps 32 [some (pv_r m), some (pv_i x1), some (pv_i x2), some (pv_i (0 : Int32)), some (pv_i (0 : Int32))] [] B m x1.toInt64 I P) ∧ ((¬ ((1 : Int32) ≤ x2 ∧ x2 ≤ (60 : Int32))) → (I m 8 = 0) ∧ (∀ I2, I2 = i2_u I m 7 (I m 7 + 1) → P (-2 : Int32) z I2)))))) : zw_i mt_X11_steps 0 [some (pv_r m), some (pv_i x1), some (pv_i x2), none, none] [] B m z I P := by
  refine go_iload_n dX11_steps_0 rfl ?_
  refine go_if_lt (tgt := 14) dX11_steps_1 (by decide) (fun hc => ?_) (fun hc => ?_)
  · replace H := H.1 hc
    refine go_aload_n dX11_steps_14 rfl ?_
    refine go_bipush (v := (-2 : Int32)) rfl dX11_steps_15 ?_
    obtain ⟨h8, H⟩ := H
    have RZ : rf_ok (mm_pl B m 14 z) m := RK
    refine go_V (av := [pv_i (-2 : Int32)]) (st := []) (ci := 11) ok_X11_refuses ⟨by decide, by decide⟩ ml_X11_199 rfl (by decide) (fun v hv => by simp only [List.mem_cons, List.not_mem_nil, or_false] at hv; rcases hv with rfl <;> first | exact pv_1i | exact pv_1r) (Nat.le_of_ble_eq_true rfl) (fun _ h => h) (by decide) rfl RK.1 dX11_steps_17 (rx_refuses RZ h8) (fun r M' hq _ => ?_)
    obtain ⟨_, rfl, _, rfl, rfl, rfl⟩ := hq
    show go_W mt_X11_steps fr_R 20 [some (pv_r m), some (pv_i x1), some (pv_i x2), none, none] [pv_i (-2 : Int32)] (mm_si (mm_pl B m 14 z) (i2_u I m 7 (I m 7 + 1))) (qi_ (fun x M' => ∃ z' I', M' = mm_si (mm_pl B m 14 z') I' ∧ P x z' I'))
    obtain ⟨I1, hI1⟩ : ∃ I', I' = i2_u I m 7 (I m 7 + 1) := ⟨_, rfl⟩
    rw [← hI1]
    replace H := H I1 hI1
    exact go_iret rfl rfl dX11_steps_20 ⟨_, rfl, _, _, rfl, H⟩
  · replace H := H.2 hc
    refine go_iload_n dX11_steps_4 rfl ?_
    refine go_iconst (v := (1 : Int32)) rfl dX11_steps_5 ?_
    refine go_bipush (v := (60 : Int32)) rfl dX11_steps_6 ?_
    by_cases hc : ((1 : Int32) ≤ x2 ∧ x2 ≤ (60 : Int32))
    · replace H := H.1 hc
      have RZ : rf_ok (mm_pl B m 14 z) m := RK
      refine go_St (av := [pv_i x2, pv_i (1 : Int32), pv_i (60 : Int32)]) (st := []) ok_X11_isIn ⟨by decide, by decide⟩ ml_X11_90 rfl (by decide) (fun v hv => by simp only [List.mem_cons, List.not_mem_nil, or_false] at hv; rcases hv with rfl | rfl | rfl <;> first | exact pv_1i | exact pv_1r) (Nat.le_of_ble_eq_true rfl) (fun _ h => h) dX11_steps_8 (rx_isIn_t RZ hc) (fun r M' hq _ => ?_)
      obtain ⟨_, rfl, _, rfl, rfl, rfl⟩ := hq
      show go_W mt_X11_steps fr_R 11 [some (pv_r m), some (pv_i x1), some (pv_i x2), none, none] [pv_i (1 : Int32)] (mm_si (mm_pl B m 14 z) I) (qi_ (fun x M' => ∃ z' I', M' = mm_si (mm_pl B m 14 z') I' ∧ P x z' I'))
      refine go_if_ne (tgt := 21) dX11_steps_11 (by decide) (fun _ => ?_) (fun hc => absurd hc (by decide))
      refine go_aload_n dX11_steps_21 rfl ?_
      refine go_iload_n dX11_steps_22 rfl ?_
      refine go_i2l dX11_steps_23 ?_
      refine go_putL (k := 14) ⟨by decide, rfl, by decide, rfl⟩ RK.1 rfl (Or.inl rfl) fl_X11_55 dX11_steps_24 ?_
      rw [zp_]
      show go_W mt_X11_steps fr_R 27 [some (pv_r m), some (pv_i x1), some (pv_i x2), none, none] [] (mm_si (mm_pl B m 14 x1.toInt64) I) (qi_ (fun x M' => ∃ z' I', M' = mm_si (mm_pl B m 14 z') I' ∧ P x z' I'))
      refine go_iconst (v := (0 : Int32)) rfl dX11_steps_27 ?_
      refine go_istore_n (by decide) dX11_steps_28 ?_
      show go_W mt_X11_steps fr_R 29 [some (pv_r m), some (pv_i x1), some (pv_i x2), some (pv_i (0 : Int32)), none] [] (mm_si (mm_pl B m 14 x1.toInt64) I) (qi_ (fun x M' => ∃ z' I', M' = mm_si (mm_pl B m 14 z') I' ∧ P x z' I'))
      refine go_iconst (v := (0 : Int32)) rfl dX11_steps_29 ?_
      refine go_istore (by decide) dX11_steps_30 ?_
      show go_W mt_X11_steps fr_R 32 [some (pv_r m), some (pv_i x1), some (pv_i x2), some (pv_i (0 : Int32)), some (pv_i (0 : Int32))] [] (mm_si (mm_pl B m 14 x1.toInt64) I) (qi_ (fun x M' => ∃ z' I', M' = mm_si (mm_pl B m 14 z') I' ∧ P x z' I'))
      exact H
    · replace H := H.2 hc
      have RZ : rf_ok (mm_pl B m 14 z) m := RK
      refine go_St (av := [pv_i x2, pv_i (1 : Int32), pv_i (60 : Int32)]) (st := []) ok_X11_isIn ⟨by decide, by decide⟩ ml_X11_90 rfl (by decide) (fun v hv => by simp only [List.mem_cons, List.not_mem_nil, or_false] at hv; rcases hv with rfl | rfl | rfl <;> first | exact pv_1i | exact pv_1r) (Nat.le_of_ble_eq_true rfl) (fun _ h => h) dX11_steps_8 (rx_isIn_f RZ hc) (fun r M' hq _ => ?_)
      obtain ⟨_, rfl, _, rfl, rfl, rfl⟩ := hq
      show go_W mt_X11_steps fr_R 11 [some (pv_r m), some (pv_i x1), some (pv_i x2), none, none] [pv_i (0 : Int32)] (mm_si (mm_pl B m 14 z) I) (qi_ (fun x M' => ∃ z' I', M' = mm_si (mm_pl B m 14 z') I' ∧ P x z' I'))
      refine go_if_ne (tgt := 21) dX11_steps_11 (by decide) (fun hc => absurd hc (by decide)) (fun _ => ?_)
      refine go_aload_n dX11_steps_14 rfl ?_
      refine go_bipush (v := (-2 : Int32)) rfl dX11_steps_15 ?_
      obtain ⟨h8, H⟩ := H
      have RZ : rf_ok (mm_pl B m 14 z) m := RK
      refine go_V (av := [pv_i (-2 : Int32)]) (st := []) (ci := 11) ok_X11_refuses ⟨by decide, by decide⟩ ml_X11_199 rfl (by decide) (fun v hv => by simp only [List.mem_cons, List.not_mem_nil, or_false] at hv; rcases hv with rfl <;> first | exact pv_1i | exact pv_1r) (Nat.le_of_ble_eq_true rfl) (fun _ h => h) (by decide) rfl RK.1 dX11_steps_17 (rx_refuses RZ h8) (fun r M' hq _ => ?_)
      obtain ⟨_, rfl, _, rfl, rfl, rfl⟩ := hq
      show go_W mt_X11_steps fr_R 20 [some (pv_r m), some (pv_i x1), some (pv_i x2), none, none] [pv_i (-2 : Int32)] (mm_si (mm_pl B m 14 z) (i2_u I m 7 (I m 7 + 1))) (qi_ (fun x M' => ∃ z' I', M' = mm_si (mm_pl B m 14 z') I' ∧ P x z' I'))
      obtain ⟨I2, hI2⟩ : ∃ I', I' = i2_u I m 7 (I m 7 + 1) := ⟨_, rfl⟩
      rw [← hI2]
      replace H := H I2 hI2
      exact go_iret rfl rfl dX11_steps_20 ⟨_, rfl, _, _, rfl, H⟩
set_option maxRecDepth 20000 in
theorem wz_X11_steps_32 {B : mm_T} {I : Nat → Nat → Int32} {m : Nat} (RK : rf_ok B m) {z : Int64} {x1 x2 x3 x4 : Int32} {P : Int32 → Int64 → (Nat → Nat → Int32) → Prop} (H : (((x2 ≤ x4) → P x3 z I) ∧ ((¬ x2 ≤ x4) → zs_i mt_X11_stepsOne [pv_r m] B m z I (fun v2 z3 I1 => (((v2 = 0) → zw_i mt_X11_steps 32 [some (pv_r m), some (pv_i x1), some (pv_i x2), some (pv_i (x3 + (0 : Int32))), some (pv_i (x4 + (1 : Int32)))] [] B m z3 I1 P) ∧ ((¬ v2 = 0) → zw_i mt_X11_steps 32 [some (pv_r m), some (pv_i x1), some (pv_i x2), some (pv_i (x3 + (1 : Int32))), some (pv_i (x4 + (1 : Int32)))] [] B m z3 I1 P)))))) : zw_i mt_X11_steps 32 [some (pv_r m), some (pv_i x1), some (pv_i x2), some (pv_i x3), some (pv_i x4)] [] B m z I P := by
  refine go_iload dX11_steps_32 rfl ?_
  refine go_iload_n dX11_steps_34 rfl ?_
  refine go_icmp_ge (tgt := 59) dX11_steps_35 (by decide) (fun hc => ?_) (fun hc => ?_)
  · replace H := H.1 hc
    refine go_iload_n dX11_steps_59 rfl ?_
    exact go_iret rfl rfl dX11_steps_60 ⟨_, rfl, _, _, rfl, H⟩
  · replace H := H.2 hc
    refine go_iload_n dX11_steps_38 rfl ?_
    refine go_aload_n dX11_steps_39 rfl ?_
    have RZ : rf_ok (mm_pl B m 14 z) m := RK
    refine go_V (av := []) (st := [pv_i x3]) (ci := 11) ok_X11_stepsOne ⟨by decide, by decide⟩ ml_X11_256 rfl (by decide) (fun v hv => absurd hv List.not_mem_nil) (Nat.le_of_ble_eq_true rfl) (fun _ h => h) (by decide) rfl RK.1 dX11_steps_40 H (fun r M' hq _ => ?_)
    obtain ⟨v2, rfl, z3, I1, rfl, H⟩ := hq
    show go_W mt_X11_steps fr_R 43 [some (pv_r m), some (pv_i x1), some (pv_i x2), some (pv_i x3), some (pv_i x4)] [pv_i v2, pv_i x3] (mm_si (mm_pl B m 14 z3) I1) (qi_ (fun x M' => ∃ z' I', M' = mm_si (mm_pl B m 14 z') I' ∧ P x z' I'))
    refine go_if_eq (tgt := 50) dX11_steps_43 (by decide) (fun hc => ?_) (fun hc => ?_)
    · replace H := H.1 hc
      refine go_iconst (v := (0 : Int32)) rfl dX11_steps_50 ?_
      refine go_iadd dX11_steps_51 ?_
      refine go_istore_n (by decide) dX11_steps_52 ?_
      show go_W mt_X11_steps fr_R 53 [some (pv_r m), some (pv_i x1), some (pv_i x2), some (pv_i (x3 + (0 : Int32))), some (pv_i x4)] [] (mm_si (mm_pl B m 14 z3) I1) (qi_ (fun x M' => ∃ z' I', M' = mm_si (mm_pl B m 14 z') I' ∧ P x z' I'))
      refine go_iinc (v := (1 : Int32)) (by decide) rfl rfl dX11_steps_53 ?_
      show go_W mt_X11_steps fr_R 56 [some (pv_r m), some (pv_i x1), some (pv_i x2), some (pv_i (x3 + (0 : Int32))), some (pv_i (x4 + (1 : Int32)))] [] (mm_si (mm_pl B m 14 z3) I1) (qi_ (fun x M' => ∃ z' I', M' = mm_si (mm_pl B m 14 z') I' ∧ P x z' I'))
      refine go_goto (tgt := 32) dX11_steps_56 (by decide) ?_
      exact H
    · replace H := H.2 hc
      refine go_iconst (v := (1 : Int32)) rfl dX11_steps_46 ?_
      refine go_goto (tgt := 51) dX11_steps_47 (by decide) ?_
      refine go_iadd dX11_steps_51 ?_
      refine go_istore_n (by decide) dX11_steps_52 ?_
      show go_W mt_X11_steps fr_R 53 [some (pv_r m), some (pv_i x1), some (pv_i x2), some (pv_i (x3 + (1 : Int32))), some (pv_i x4)] [] (mm_si (mm_pl B m 14 z3) I1) (qi_ (fun x M' => ∃ z' I', M' = mm_si (mm_pl B m 14 z') I' ∧ P x z' I'))
      refine go_iinc (v := (1 : Int32)) (by decide) rfl rfl dX11_steps_53 ?_
      show go_W mt_X11_steps fr_R 56 [some (pv_r m), some (pv_i x1), some (pv_i x2), some (pv_i (x3 + (1 : Int32))), some (pv_i (x4 + (1 : Int32)))] [] (mm_si (mm_pl B m 14 z3) I1) (qi_ (fun x M' => ∃ z' I', M' = mm_si (mm_pl B m 14 z') I' ∧ P x z' I'))
      refine go_goto (tgt := 32) dX11_steps_56 (by decide) ?_
      exact H
