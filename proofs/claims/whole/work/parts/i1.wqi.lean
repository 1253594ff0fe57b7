/-! the walk of the reference's constructor from its arrays on, by program (wip/whole/walk2i.py) -/
set_option maxRecDepth 20000 in
theorem wq_X11_init_160 {B : mm_T} {I : Nat → Nat → Int32} {m : Nat} (RK : rf_ok B m)  {P : (Nat → Nat → Int32) → Prop} (H : ∀ I1, I1 = i2_u I (m + 1) 4 (8 : Int32) → ∀ I2, I2 = i2_u I1 (m + 1) 5 (10 : Int32) → ∀ I3, I3 = i2_u I2 (m + 1) 6 (2 : Int32) → ∀ I4, I4 = i2_u I3 (m + 1) 7 (3 : Int32) → ∀ I5, I5 = i2_u I4 (m + 1) 8 (32 : Int32) → ∀ I6, I6 = i2_u I5 (m + 1) 9 (2 : Int32) → rw_v mt_X11_init 211 [some (pv_r m), some (pv_i (0 : Int32))] [] B I6 P) : rw_v mt_X11_init 160 [some (pv_r m), none] [] B I P := by
  refine go_aload_n dX11_init_160 rfl ?_
  refine go_getRe (k := 0) ⟨by decide, rfl, by decide, Or.inr ⟨_, rfl⟩⟩ RK.1 (rf_r1 RK) fl_X11_7 dX11_init_161 ?_
  refine go_iconst (v := (4 : Int32)) rfl dX11_init_164 ?_
  refine go_bipush (v := (8 : Int32)) rfl dX11_init_165 ?_
  refine go_iastN (j := 4) ⟨by decide, by decide, by decide⟩ (rf_k1 RK) rfl rfl (by decide) dX11_init_167 ?_
  show go_W mt_X11_init fr_R 168 [some (pv_r m), none] [] (mm_si B (i2_u I (m + 1) 4 (8 : Int32))) (qv_ (fun M' => ∃ I', M' = mm_si B I' ∧ P I'))
  obtain ⟨I1, hI1⟩ : ∃ I', I' = i2_u I (m + 1) 4 (8 : Int32) := ⟨_, rfl⟩
  rw [← hI1]
  replace H := H I1 hI1
  refine go_aload_n dX11_init_168 rfl ?_
  refine go_getRe (k := 0) ⟨by decide, rfl, by decide, Or.inr ⟨_, rfl⟩⟩ RK.1 (rf_r1 RK) fl_X11_7 dX11_init_169 ?_
  refine go_iconst (v := (5 : Int32)) rfl dX11_init_172 ?_
  refine go_bipush (v := (10 : Int32)) rfl dX11_init_173 ?_
  refine go_iastN (j := 5) ⟨by decide, by decide, by decide⟩ (rf_k1 RK) rfl rfl (by decide) dX11_init_175 ?_
  show go_W mt_X11_init fr_R 176 [some (pv_r m), none] [] (mm_si B (i2_u I1 (m + 1) 5 (10 : Int32))) (qv_ (fun M' => ∃ I', M' = mm_si B I' ∧ P I'))
  obtain ⟨I2, hI2⟩ : ∃ I', I' = i2_u I1 (m + 1) 5 (10 : Int32) := ⟨_, rfl⟩
  rw [← hI2]
  replace H := H I2 hI2
  refine go_aload_n dX11_init_176 rfl ?_
  refine go_getRe (k := 0) ⟨by decide, rfl, by decide, Or.inr ⟨_, rfl⟩⟩ RK.1 (rf_r1 RK) fl_X11_7 dX11_init_177 ?_
  refine go_bipush (v := (6 : Int32)) rfl dX11_init_180 ?_
  refine go_iconst (v := (2 : Int32)) rfl dX11_init_182 ?_
  refine go_iastN (j := 6) ⟨by decide, by decide, by decide⟩ (rf_k1 RK) rfl rfl (by decide) dX11_init_183 ?_
  show go_W mt_X11_init fr_R 184 [some (pv_r m), none] [] (mm_si B (i2_u I2 (m + 1) 6 (2 : Int32))) (qv_ (fun M' => ∃ I', M' = mm_si B I' ∧ P I'))
  obtain ⟨I3, hI3⟩ : ∃ I', I' = i2_u I2 (m + 1) 6 (2 : Int32) := ⟨_, rfl⟩
  rw [← hI3]
  replace H := H I3 hI3
  refine go_aload_n dX11_init_184 rfl ?_
  refine go_getRe (k := 0) ⟨by decide, rfl, by decide, Or.inr ⟨_, rfl⟩⟩ RK.1 (rf_r1 RK) fl_X11_7 dX11_init_185 ?_
  refine go_bipush (v := (7 : Int32)) rfl dX11_init_188 ?_
  refine go_iconst (v := (3 : Int32)) rfl dX11_init_190 ?_
  refine go_iastN (j := 7) ⟨by decide, by decide, by decide⟩ (rf_k1 RK) rfl rfl (by decide) dX11_init_191 ?_
  show go_W mt_X11_init fr_R 192 [some (pv_r m), none] [] (mm_si B (i2_u I3 (m + 1) 7 (3 : Int32))) (qv_ (fun M' => ∃ I', M' = mm_si B I' ∧ P I'))
  obtain ⟨I4, hI4⟩ : ∃ I', I' = i2_u I3 (m + 1) 7 (3 : Int32) := ⟨_, rfl⟩
  rw [← hI4]
  replace H := H I4 hI4
  refine go_aload_n dX11_init_192 rfl ?_
  refine go_getRe (k := 0) ⟨by decide, rfl, by decide, Or.inr ⟨_, rfl⟩⟩ RK.1 (rf_r1 RK) fl_X11_7 dX11_init_193 ?_
  refine go_bipush (v := (8 : Int32)) rfl dX11_init_196 ?_
  refine go_bipush (v := (32 : Int32)) rfl dX11_init_198 ?_
  refine go_iastN (j := 8) ⟨by decide, by decide, by decide⟩ (rf_k1 RK) rfl rfl (by decide) dX11_init_200 ?_
  show go_W mt_X11_init fr_R 201 [some (pv_r m), none] [] (mm_si B (i2_u I4 (m + 1) 8 (32 : Int32))) (qv_ (fun M' => ∃ I', M' = mm_si B I' ∧ P I'))
  obtain ⟨I5, hI5⟩ : ∃ I', I' = i2_u I4 (m + 1) 8 (32 : Int32) := ⟨_, rfl⟩
  rw [← hI5]
  replace H := H I5 hI5
  refine go_aload_n dX11_init_201 rfl ?_
  refine go_getRe (k := 0) ⟨by decide, rfl, by decide, Or.inr ⟨_, rfl⟩⟩ RK.1 (rf_r1 RK) fl_X11_7 dX11_init_202 ?_
  refine go_bipush (v := (9 : Int32)) rfl dX11_init_205 ?_
  refine go_iconst (v := (2 : Int32)) rfl dX11_init_207 ?_
  refine go_iastN (j := 9) ⟨by decide, by decide, by decide⟩ (rf_k1 RK) rfl rfl (by decide) dX11_init_208 ?_
  show go_W mt_X11_init fr_R 209 [some (pv_r m), none] [] (mm_si B (i2_u I5 (m + 1) 9 (2 : Int32))) (qv_ (fun M' => ∃ I', M' = mm_si B I' ∧ P I'))
  obtain ⟨I6, hI6⟩ : ∃ I', I' = i2_u I5 (m + 1) 9 (2 : Int32) := ⟨_, rfl⟩
  rw [← hI6]
  replace H := H I6 hI6
  refine go_iconst (v := (0 : Int32)) rfl dX11_init_209 ?_
  refine go_istore_n (by decide) dX11_init_210 ?_
  show go_W mt_X11_init fr_R 211 [some (pv_r m), some (pv_i (0 : Int32))] [] (mm_si B I6) (qv_ (fun M' => ∃ I', M' = mm_si B I' ∧ P I'))
  exact H
set_option maxRecDepth 20000 in
theorem wq_X11_init_211 {B : mm_T} {I : Nat → Nat → Int32} {m : Nat} (RK : rf_ok B m) {x1 : Int32} {P : (Nat → Nat → Int32) → Prop} (H : ((((5 : Int32) ≤ x1) → rw_v mt_X11_init 288 [some (pv_r m), some (pv_i (0 : Int32))] [] B I P) ∧ ((¬ (5 : Int32) ≤ x1) → ∃ n1, (x1 = nI n1 ∧ n1 < 5) ∧ (∀ I2, I2 = i2_u I (m + 1) ((10 + 10 * n1) + 0) (1 : Int32) → ∀ I3, I3 = i2_u I2 (m + 1) ((10 + 10 * n1) + 1) (12 : Int32) → ∀ I4, I4 = i2_u I3 (m + 1) ((10 + 10 * n1) + 2) (6 : Int32) → ∀ I5, I5 = i2_u I4 (m + 1) ((10 + 10 * n1) + 8) (-1 : Int32) → ∀ I6, I6 = i2_u I5 (m + 1) ((10 + 10 * n1) + 9) (-1 : Int32) → rw_v mt_X11_init 211 [some (pv_r m), some (pv_i (nI (n1 + 1)))] [] B I6 P)))) : rw_v mt_X11_init 211 [some (pv_r m), some (pv_i x1)] [] B I P := by
  refine go_iload_n dX11_init_211 rfl ?_
  refine go_iconst (v := (5 : Int32)) rfl dX11_init_212 ?_
  refine go_icmp_ge (tgt := 286) dX11_init_213 (by decide) (fun hc => ?_) (fun hc => ?_)
  · replace H := H.1 hc
    refine go_iconst (v := (0 : Int32)) rfl dX11_init_286 ?_
    refine go_istore_n (by decide) dX11_init_287 ?_
    show go_W mt_X11_init fr_R 288 [some (pv_r m), some (pv_i (0 : Int32))] [] (mm_si B I) (qv_ (fun M' => ∃ I', M' = mm_si B I' ∧ P I'))
    exact H
  · replace H := H.2 hc
    refine go_aload_n dX11_init_216 rfl ?_
    refine go_getRe (k := 0) ⟨by decide, rfl, by decide, Or.inr ⟨_, rfl⟩⟩ RK.1 (rf_r1 RK) fl_X11_7 dX11_init_217 ?_
    refine go_iload_n dX11_init_220 rfl ?_
    obtain ⟨n1, ⟨hn1, hn1b⟩, H⟩ := H
    refine go_St (av := [pv_i x1]) (st := [pv_r (m + 1)]) ok_X11_at ⟨by decide, by decide⟩ ml_X11_80 rfl (by decide) (fun v hv => by simp only [List.mem_cons, List.not_mem_nil, or_false] at hv; rcases hv with rfl <;> first | exact pv_1i | exact pv_1r) (Nat.le_of_ble_eq_true rfl) (fun _ h => h) dX11_init_221 (rx_at RK hn1) (fun r M' hq _ => ?_)
    obtain ⟨_, rfl, _, rfl, rfl, rfl⟩ := hq
    show go_W mt_X11_init fr_R 224 [some (pv_r m), some (pv_i x1)] [pv_i (nI (10 + 10 * n1)), pv_r (m + 1)] (mm_si B I) (qv_ (fun M' => ∃ I', M' = mm_si B I' ∧ P I'))
    refine go_iconst (v := (0 : Int32)) rfl dX11_init_224 ?_
    refine go_iadd dX11_init_225 ?_
    refine go_iconst (v := (1 : Int32)) rfl dX11_init_226 ?_
    refine go_iastN (j := ((10 + 10 * n1) + 0)) ⟨by decide, by decide, by decide⟩ (rf_k1 RK) rfl (nI_ae rfl rfl) (by omega) dX11_init_227 ?_
    show go_W mt_X11_init fr_R 228 [some (pv_r m), some (pv_i x1)] [] (mm_si B (i2_u I (m + 1) ((10 + 10 * n1) + 0) (1 : Int32))) (qv_ (fun M' => ∃ I', M' = mm_si B I' ∧ P I'))
    obtain ⟨I2, hI2⟩ : ∃ I', I' = i2_u I (m + 1) ((10 + 10 * n1) + 0) (1 : Int32) := ⟨_, rfl⟩
    rw [← hI2]
    replace H := H I2 hI2
    refine go_aload_n dX11_init_228 rfl ?_
    refine go_getRe (k := 0) ⟨by decide, rfl, by decide, Or.inr ⟨_, rfl⟩⟩ RK.1 (rf_r1 RK) fl_X11_7 dX11_init_229 ?_
    refine go_iload_n dX11_init_232 rfl ?_
    refine go_St (av := [pv_i x1]) (st := [pv_r (m + 1)]) ok_X11_at ⟨by decide, by decide⟩ ml_X11_80 rfl (by decide) (fun v hv => by simp only [List.mem_cons, List.not_mem_nil, or_false] at hv; rcases hv with rfl <;> first | exact pv_1i | exact pv_1r) (Nat.le_of_ble_eq_true rfl) (fun _ h => h) dX11_init_233 (rx_at RK hn1) (fun r M' hq _ => ?_)
    obtain ⟨_, rfl, _, rfl, rfl, rfl⟩ := hq
    show go_W mt_X11_init fr_R 236 [some (pv_r m), some (pv_i x1)] [pv_i (nI (10 + 10 * n1)), pv_r (m + 1)] (mm_si B I2) (qv_ (fun M' => ∃ I', M' = mm_si B I' ∧ P I'))
    refine go_iconst (v := (1 : Int32)) rfl dX11_init_236 ?_
    refine go_iadd dX11_init_237 ?_
    refine go_bipush (v := (12 : Int32)) rfl dX11_init_238 ?_
    refine go_iastN (j := ((10 + 10 * n1) + 1)) ⟨by decide, by decide, by decide⟩ (rf_k1 RK) rfl (nI_ae rfl rfl) (by omega) dX11_init_240 ?_
    show go_W mt_X11_init fr_R 241 [some (pv_r m), some (pv_i x1)] [] (mm_si B (i2_u I2 (m + 1) ((10 + 10 * n1) + 1) (12 : Int32))) (qv_ (fun M' => ∃ I', M' = mm_si B I' ∧ P I'))
    obtain ⟨I3, hI3⟩ : ∃ I', I' = i2_u I2 (m + 1) ((10 + 10 * n1) + 1) (12 : Int32) := ⟨_, rfl⟩
    rw [← hI3]
    replace H := H I3 hI3
    refine go_aload_n dX11_init_241 rfl ?_
    refine go_getRe (k := 0) ⟨by decide, rfl, by decide, Or.inr ⟨_, rfl⟩⟩ RK.1 (rf_r1 RK) fl_X11_7 dX11_init_242 ?_
    refine go_iload_n dX11_init_245 rfl ?_
    refine go_St (av := [pv_i x1]) (st := [pv_r (m + 1)]) ok_X11_at ⟨by decide, by decide⟩ ml_X11_80 rfl (by decide) (fun v hv => by simp only [List.mem_cons, List.not_mem_nil, or_false] at hv; rcases hv with rfl <;> first | exact pv_1i | exact pv_1r) (Nat.le_of_ble_eq_true rfl) (fun _ h => h) dX11_init_246 (rx_at RK hn1) (fun r M' hq _ => ?_)
    obtain ⟨_, rfl, _, rfl, rfl, rfl⟩ := hq
    show go_W mt_X11_init fr_R 249 [some (pv_r m), some (pv_i x1)] [pv_i (nI (10 + 10 * n1)), pv_r (m + 1)] (mm_si B I3) (qv_ (fun M' => ∃ I', M' = mm_si B I' ∧ P I'))
    refine go_iconst (v := (2 : Int32)) rfl dX11_init_249 ?_
    refine go_iadd dX11_init_250 ?_
    refine go_bipush (v := (6 : Int32)) rfl dX11_init_251 ?_
    refine go_iastN (j := ((10 + 10 * n1) + 2)) ⟨by decide, by decide, by decide⟩ (rf_k1 RK) rfl (nI_ae rfl rfl) (by omega) dX11_init_253 ?_
    show go_W mt_X11_init fr_R 254 [some (pv_r m), some (pv_i x1)] [] (mm_si B (i2_u I3 (m + 1) ((10 + 10 * n1) + 2) (6 : Int32))) (qv_ (fun M' => ∃ I', M' = mm_si B I' ∧ P I'))
    obtain ⟨I4, hI4⟩ : ∃ I', I' = i2_u I3 (m + 1) ((10 + 10 * n1) + 2) (6 : Int32) := ⟨_, rfl⟩
    rw [← hI4]
    replace H := H I4 hI4
    refine go_aload_n dX11_init_254 rfl ?_
    refine go_getRe (k := 0) ⟨by decide, rfl, by decide, Or.inr ⟨_, rfl⟩⟩ RK.1 (rf_r1 RK) fl_X11_7 dX11_init_255 ?_
    refine go_iload_n dX11_init_258 rfl ?_
    refine go_St (av := [pv_i x1]) (st := [pv_r (m + 1)]) ok_X11_at ⟨by decide, by decide⟩ ml_X11_80 rfl (by decide) (fun v hv => by simp only [List.mem_cons, List.not_mem_nil, or_false] at hv; rcases hv with rfl <;> first | exact pv_1i | exact pv_1r) (Nat.le_of_ble_eq_true rfl) (fun _ h => h) dX11_init_259 (rx_at RK hn1) (fun r M' hq _ => ?_)
    obtain ⟨_, rfl, _, rfl, rfl, rfl⟩ := hq
    show go_W mt_X11_init fr_R 262 [some (pv_r m), some (pv_i x1)] [pv_i (nI (10 + 10 * n1)), pv_r (m + 1)] (mm_si B I4) (qv_ (fun M' => ∃ I', M' = mm_si B I' ∧ P I'))
    refine go_bipush (v := (8 : Int32)) rfl dX11_init_262 ?_
    refine go_iadd dX11_init_264 ?_
    refine go_iconst (v := (-1 : Int32)) rfl dX11_init_265 ?_
    refine go_iastN (j := ((10 + 10 * n1) + 8)) ⟨by decide, by decide, by decide⟩ (rf_k1 RK) rfl (nI_ae rfl rfl) (by omega) dX11_init_266 ?_
    show go_W mt_X11_init fr_R 267 [some (pv_r m), some (pv_i x1)] [] (mm_si B (i2_u I4 (m + 1) ((10 + 10 * n1) + 8) (-1 : Int32))) (qv_ (fun M' => ∃ I', M' = mm_si B I' ∧ P I'))
    obtain ⟨I5, hI5⟩ : ∃ I', I' = i2_u I4 (m + 1) ((10 + 10 * n1) + 8) (-1 : Int32) := ⟨_, rfl⟩
    rw [← hI5]
    replace H := H I5 hI5
    refine go_aload_n dX11_init_267 rfl ?_
    refine go_getRe (k := 0) ⟨by decide, rfl, by decide, Or.inr ⟨_, rfl⟩⟩ RK.1 (rf_r1 RK) fl_X11_7 dX11_init_268 ?_
    refine go_iload_n dX11_init_271 rfl ?_
    refine go_St (av := [pv_i x1]) (st := [pv_r (m + 1)]) ok_X11_at ⟨by decide, by decide⟩ ml_X11_80 rfl (by decide) (fun v hv => by simp only [List.mem_cons, List.not_mem_nil, or_false] at hv; rcases hv with rfl <;> first | exact pv_1i | exact pv_1r) (Nat.le_of_ble_eq_true rfl) (fun _ h => h) dX11_init_272 (rx_at RK hn1) (fun r M' hq _ => ?_)
    obtain ⟨_, rfl, _, rfl, rfl, rfl⟩ := hq
    show go_W mt_X11_init fr_R 275 [some (pv_r m), some (pv_i x1)] [pv_i (nI (10 + 10 * n1)), pv_r (m + 1)] (mm_si B I5) (qv_ (fun M' => ∃ I', M' = mm_si B I' ∧ P I'))
    refine go_bipush (v := (9 : Int32)) rfl dX11_init_275 ?_
    refine go_iadd dX11_init_277 ?_
    refine go_iconst (v := (-1 : Int32)) rfl dX11_init_278 ?_
    refine go_iastN (j := ((10 + 10 * n1) + 9)) ⟨by decide, by decide, by decide⟩ (rf_k1 RK) rfl (nI_ae rfl rfl) (by omega) dX11_init_279 ?_
    show go_W mt_X11_init fr_R 280 [some (pv_r m), some (pv_i x1)] [] (mm_si B (i2_u I5 (m + 1) ((10 + 10 * n1) + 9) (-1 : Int32))) (qv_ (fun M' => ∃ I', M' = mm_si B I' ∧ P I'))
    obtain ⟨I6, hI6⟩ : ∃ I', I' = i2_u I5 (m + 1) ((10 + 10 * n1) + 9) (-1 : Int32) := ⟨_, rfl⟩
    rw [← hI6]
    replace H := H I6 hI6
    refine go_iincN (n := n1) (k := 1) hn1 (by decide) rfl rfl dX11_init_280 ?_
    show go_W mt_X11_init fr_R 283 [some (pv_r m), some (pv_i (nI (n1 + 1)))] [] (mm_si B I6) (qv_ (fun M' => ∃ I', M' = mm_si B I' ∧ P I'))
    refine go_goto (tgt := 211) dX11_init_283 (by decide) ?_
    exact H
set_option maxRecDepth 20000 in
theorem wq_X11_init_288 {B : mm_T} {I : Nat → Nat → Int32} {m : Nat} (RK : rf_ok B m) {x1 : Int32} {P : (Nat → Nat → Int32) → Prop} (H : ((((6 : Int32) ≤ x1) → P I) ∧ ((¬ (6 : Int32) ≤ x1) → ∃ n1, (x1 = nI n1 ∧ n1 < 6) ∧ (∀ I2, I2 = i2_u I (m + 1) (60 + 4 * n1) (-1 : Int32) → rw_v mt_X11_init 288 [some (pv_r m), some (pv_i (nI (n1 + 1)))] [] B I2 P)))) : rw_v mt_X11_init 288 [some (pv_r m), some (pv_i x1)] [] B I P := by
  refine go_iload_n dX11_init_288 rfl ?_
  refine go_bipush (v := (6 : Int32)) rfl dX11_init_289 ?_
  refine go_icmp_ge (tgt := 310) dX11_init_291 (by decide) (fun hc => ?_) (fun hc => ?_)
  · replace H := H.1 hc
    exact go_vret rfl dX11_init_310 ⟨rfl, _, rfl, H⟩
  · replace H := H.2 hc
    refine go_aload_n dX11_init_294 rfl ?_
    refine go_getRe (k := 0) ⟨by decide, rfl, by decide, Or.inr ⟨_, rfl⟩⟩ RK.1 (rf_r1 RK) fl_X11_7 dX11_init_295 ?_
    refine go_iload_n dX11_init_298 rfl ?_
    obtain ⟨n1, ⟨hn1, hn1b⟩, H⟩ := H
    refine go_St (av := [pv_i x1]) (st := [pv_r (m + 1)]) ok_X11_workerAt ⟨by decide, by decide⟩ ml_X11_84 rfl (by decide) (fun v hv => by simp only [List.mem_cons, List.not_mem_nil, or_false] at hv; rcases hv with rfl <;> first | exact pv_1i | exact pv_1r) (Nat.le_of_ble_eq_true rfl) (fun _ h => h) dX11_init_299 (rx_workerAt RK hn1) (fun r M' hq _ => ?_)
    obtain ⟨_, rfl, _, rfl, rfl, rfl⟩ := hq
    show go_W mt_X11_init fr_R 302 [some (pv_r m), some (pv_i x1)] [pv_i (nI (60 + 4 * n1)), pv_r (m + 1)] (mm_si B I) (qv_ (fun M' => ∃ I', M' = mm_si B I' ∧ P I'))
    refine go_iconst (v := (-1 : Int32)) rfl dX11_init_302 ?_
    refine go_iastN (j := (60 + 4 * n1)) ⟨by decide, by decide, by decide⟩ (rf_k1 RK) rfl rfl (by omega) dX11_init_303 ?_
    show go_W mt_X11_init fr_R 304 [some (pv_r m), some (pv_i x1)] [] (mm_si B (i2_u I (m + 1) (60 + 4 * n1) (-1 : Int32))) (qv_ (fun M' => ∃ I', M' = mm_si B I' ∧ P I'))
    obtain ⟨I2, hI2⟩ : ∃ I', I' = i2_u I (m + 1) (60 + 4 * n1) (-1 : Int32) := ⟨_, rfl⟩
    rw [← hI2]
    replace H := H I2 hI2
    refine go_iincN (n := n1) (k := 1) hn1 (by decide) rfl rfl dX11_init_304 ?_
    show go_W mt_X11_init fr_R 307 [some (pv_r m), some (pv_i (nI (n1 + 1)))] [] (mm_si B I2) (qv_ (fun M' => ∃ I', M' = mm_si B I' ∧ P I'))
    refine go_goto (tgt := 288) dX11_init_307 (by decide) ?_
    exact H
