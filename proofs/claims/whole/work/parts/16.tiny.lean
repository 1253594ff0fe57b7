/-! the small methods of the reference: walks, and what they answer -/
theorem wp_X11_isIn_0 {B : mm_T} {I : Nat → Nat → Int32} {m : Nat} (RK : rf_ok B m) {x1 x2 x3 : Int32} {P : Int32 → (Nat → Nat → Int32) → Prop} (H : (((x1 < x2) → P (0 : Int32) I) ∧ ((¬ x1 < x2) → (((x3 < x1) → P (0 : Int32) I) ∧ ((¬ x3 < x1) → P (1 : Int32) I))))) : rw_i mt_X11_isIn 0 [some (pv_i x1), some (pv_i x2), some (pv_i x3)] [] B I P := by
  refine go_iload_n dX11_isIn_0 rfl ?_
  refine go_iload_n dX11_isIn_1 rfl ?_
  refine go_icmp_lt (tgt := 14) dX11_isIn_2 (by decide) (fun hc => ?_) (fun hc => ?_)
  · replace H := H.1 hc
    refine go_iconst (v := (0 : Int32)) rfl dX11_isIn_14 ?_
    exact go_iret rfl rfl dX11_isIn_15 ⟨_, rfl, _, rfl, H⟩
  · replace H := H.2 hc
    refine go_iload_n dX11_isIn_5 rfl ?_
    refine go_iload_n dX11_isIn_6 rfl ?_
    refine go_icmp_gt (tgt := 14) dX11_isIn_7 (by decide) (fun hc => ?_) (fun hc => ?_)
    · replace H := H.1 hc
      refine go_iconst (v := (0 : Int32)) rfl dX11_isIn_14 ?_
      exact go_iret rfl rfl dX11_isIn_15 ⟨_, rfl, _, rfl, H⟩
    · replace H := H.2 hc
      refine go_iconst (v := (1 : Int32)) rfl dX11_isIn_10 ?_
      refine go_goto (tgt := 15) dX11_isIn_11 (by decide) ?_
      exact go_iret rfl rfl dX11_isIn_15 ⟨_, rfl, _, rfl, H⟩
theorem wp_X11_lesser_0 {B : mm_T} {I : Nat → Nat → Int32} {m : Nat} (RK : rf_ok B m) {x1 x2 : Int32} {P : Int32 → (Nat → Nat → Int32) → Prop} (H : (((x2 ≤ x1) → P x2 I) ∧ ((¬ x2 ≤ x1) → P x1 I))) : rw_i mt_X11_lesser 0 [some (pv_i x1), some (pv_i x2)] [] B I P := by
  refine go_iload_n dX11_lesser_0 rfl ?_
  refine go_iload_n dX11_lesser_1 rfl ?_
  refine go_icmp_ge (tgt := 9) dX11_lesser_2 (by decide) (fun hc => ?_) (fun hc => ?_)
  · replace H := H.1 hc
    refine go_iload_n dX11_lesser_9 rfl ?_
    exact go_iret rfl rfl dX11_lesser_10 ⟨_, rfl, _, rfl, H⟩
  · replace H := H.2 hc
    refine go_iload_n dX11_lesser_5 rfl ?_
    refine go_goto (tgt := 10) dX11_lesser_6 (by decide) ?_
    exact go_iret rfl rfl dX11_lesser_10 ⟨_, rfl, _, rfl, H⟩
theorem wp_X11_greater_0 {B : mm_T} {I : Nat → Nat → Int32} {m : Nat} (RK : rf_ok B m) {x1 x2 : Int32} {P : Int32 → (Nat → Nat → Int32) → Prop} (H : (((x1 ≤ x2) → P x2 I) ∧ ((¬ x1 ≤ x2) → P x1 I))) : rw_i mt_X11_greater 0 [some (pv_i x1), some (pv_i x2)] [] B I P := by
  refine go_iload_n dX11_greater_0 rfl ?_
  refine go_iload_n dX11_greater_1 rfl ?_
  refine go_icmp_le (tgt := 9) dX11_greater_2 (by decide) (fun hc => ?_) (fun hc => ?_)
  · replace H := H.1 hc
    refine go_iload_n dX11_greater_9 rfl ?_
    exact go_iret rfl rfl dX11_greater_10 ⟨_, rfl, _, rfl, H⟩
  · replace H := H.2 hc
    refine go_iload_n dX11_greater_5 rfl ?_
    refine go_goto (tgt := 10) dX11_greater_6 (by decide) ?_
    exact go_iret rfl rfl dX11_greater_10 ⟨_, rfl, _, rfl, H⟩
theorem wp_X11_at_0 {B : mm_T} {I : Nat → Nat → Int32} {m : Nat} (RK : rf_ok B m) {x1 : Int32} {P : Int32 → (Nat → Nat → Int32) → Prop} (H : P ((10 : Int32) + ((10 : Int32) * x1)) I) : rw_i mt_X11_at 0 [some (pv_i x1)] [] B I P := by
  refine go_bipush (v := (10 : Int32)) rfl dX11_at_0 ?_
  refine go_bipush (v := (10 : Int32)) rfl dX11_at_2 ?_
  refine go_iload_n dX11_at_4 rfl ?_
  refine go_imul dX11_at_5 ?_
  refine go_iadd dX11_at_6 ?_
  exact go_iret rfl rfl dX11_at_7 ⟨_, rfl, _, rfl, H⟩
theorem wp_X11_workerAt_0 {B : mm_T} {I : Nat → Nat → Int32} {m : Nat} (RK : rf_ok B m) {x1 : Int32} {P : Int32 → (Nat → Nat → Int32) → Prop} (H : P ((60 : Int32) + ((4 : Int32) * x1)) I) : rw_i mt_X11_workerAt 0 [some (pv_i x1)] [] B I P := by
  refine go_bipush (v := (60 : Int32)) rfl dX11_workerAt_0 ?_
  refine go_iconst (v := (4 : Int32)) rfl dX11_workerAt_2 ?_
  refine go_iload_n dX11_workerAt_3 rfl ?_
  refine go_imul dX11_workerAt_4 ?_
  refine go_iadd dX11_workerAt_5 ?_
  exact go_iret rfl rfl dX11_workerAt_6 ⟨_, rfl, _, rfl, H⟩
theorem wp_X11_timerAt_0 {B : mm_T} {I : Nat → Nat → Int32} {m : Nat} (RK : rf_ok B m) {x1 : Int32} {P : Int32 → (Nat → Nat → Int32) → Prop} (H : P ((85 : Int32) + ((8 : Int32) * x1)) I) : rw_i mt_X11_timerAt 0 [some (pv_i x1)] [] B I P := by
  refine go_bipush (v := (85 : Int32)) rfl dX11_timerAt_0 ?_
  refine go_bipush (v := (8 : Int32)) rfl dX11_timerAt_2 ?_
  refine go_iload_n dX11_timerAt_4 rfl ?_
  refine go_imul dX11_timerAt_5 ?_
  refine go_iadd dX11_timerAt_6 ?_
  exact go_iret rfl rfl dX11_timerAt_7 ⟨_, rfl, _, rfl, H⟩
theorem wp_X11_taskAt_0 {B : mm_T} {I : Nat → Nat → Int32} {m : Nat} (RK : rf_ok B m) {x1 : Int32} {P : Int32 → (Nat → Nat → Int32) → Prop} (H : P ((200 : Int32) + ((14 : Int32) * x1)) I) : rw_i mt_X11_taskAt 0 [some (pv_i x1)] [] B I P := by
  refine go_sipush (v := (200 : Int32)) rfl dX11_taskAt_0 ?_
  refine go_bipush (v := (14 : Int32)) rfl dX11_taskAt_3 ?_
  refine go_iload_n dX11_taskAt_5 rfl ?_
  refine go_imul dX11_taskAt_6 ?_
  refine go_iadd dX11_taskAt_7 ?_
  exact go_iret rfl rfl dX11_taskAt_8 ⟨_, rfl, _, rfl, H⟩
theorem wp_X11_of_0 {B : mm_T} {I : Nat → Nat → Int32} {m : Nat} (RK : rf_ok B m) {x1 x2 : Int32} {P : Int32 → (Nat → Nat → Int32) → Prop} (H : rs_i mt_X11_taskAt [pv_i x1] B I (fun v2 I1 => ∃ j3, ((v2 + x2) = nI j3 ∧ j3 < 6200) ∧ (P (I1 (m + 1) j3) I1))) : rw_i mt_X11_of 0 [some (pv_r m), some (pv_i x1), some (pv_i x2)] [] B I P := by
  refine go_aload_n dX11_of_0 rfl ?_
  refine go_getRe (k := 0) ⟨by decide, rfl, by decide, Or.inr ⟨_, rfl⟩⟩ RK.1 (rf_r1 RK) fl_X11_7 dX11_of_1 ?_
  refine go_iload_n dX11_of_4 rfl ?_
  refine go_St (av := [pv_i x1]) (st := [pv_r (m + 1)]) ok_X11_taskAt ⟨by decide, by decide⟩ ml_X11_87 rfl (by decide) (fun v hv => by simp only [List.mem_cons, List.not_mem_nil, or_false] at hv; rcases hv with rfl <;> first | exact pv_1i | exact pv_1r) (Nat.le_of_ble_eq_true rfl) (fun _ h => h) dX11_of_5 H (fun r M' hq _ => ?_)
  obtain ⟨v2, rfl, I1, rfl, H⟩ := hq
  show go_W mt_X11_of fr_R 8 [some (pv_r m), some (pv_i x1), some (pv_i x2)] [pv_i v2, pv_r (m + 1)] (mm_si B I1) (qi_ (fun x M' => ∃ I', M' = mm_si B I' ∧ P x I'))
  refine go_iload_n dX11_of_8 rfl ?_
  refine go_iadd dX11_of_9 ?_
  obtain ⟨j3, hjj3, H⟩ := H
  refine go_ialdN (j := j3) ⟨by decide, by decide⟩ (rf_k1 RK) hjj3.1 hjj3.2 dX11_of_10 ?_
  exact go_iret rfl rfl dX11_of_11 ⟨_, rfl, _, rfl, H⟩
theorem wp_X11_is_0 {B : mm_T} {I : Nat → Nat → Int32} {m : Nat} (RK : rf_ok B m) {x1 x2 x3 : Int32} {P : (Nat → Nat → Int32) → Prop} (H : rs_i mt_X11_taskAt [pv_i x1] B I (fun v2 I1 => ∃ j4, ((v2 + x2) = nI j4 ∧ j4 < 6200) ∧ (∀ I3, I3 = i2_u I1 (m + 1) j4 x3 → P I3))) : rw_v mt_X11_is 0 [some (pv_r m), some (pv_i x1), some (pv_i x2), some (pv_i x3)] [] B I P := by
  refine go_aload_n dX11_is_0 rfl ?_
  refine go_getRe (k := 0) ⟨by decide, rfl, by decide, Or.inr ⟨_, rfl⟩⟩ RK.1 (rf_r1 RK) fl_X11_7 dX11_is_1 ?_
  refine go_iload_n dX11_is_4 rfl ?_
  refine go_St (av := [pv_i x1]) (st := [pv_r (m + 1)]) ok_X11_taskAt ⟨by decide, by decide⟩ ml_X11_87 rfl (by decide) (fun v hv => by simp only [List.mem_cons, List.not_mem_nil, or_false] at hv; rcases hv with rfl <;> first | exact pv_1i | exact pv_1r) (Nat.le_of_ble_eq_true rfl) (fun _ h => h) dX11_is_5 H (fun r M' hq _ => ?_)
  obtain ⟨v2, rfl, I1, rfl, H⟩ := hq
  show go_W mt_X11_is fr_R 8 [some (pv_r m), some (pv_i x1), some (pv_i x2), some (pv_i x3)] [pv_i v2, pv_r (m + 1)] (mm_si B I1) (qv_ (fun M' => ∃ I', M' = mm_si B I' ∧ P I'))
  refine go_iload_n dX11_is_8 rfl ?_
  refine go_iadd dX11_is_9 ?_
  refine go_iload_n dX11_is_10 rfl ?_
  obtain ⟨j4, hjj4, H⟩ := H
  refine go_iastN (j := j4) ⟨by decide, by decide⟩ (rf_k1 RK) rfl hjj4.1 hjj4.2 dX11_is_11 ?_
  replace H := H _ rfl
  exact go_vret rfl dX11_is_12 ⟨rfl, _, rfl, H⟩
theorem wp_X11_isLane_0 {B : mm_T} {I : Nat → Nat → Int32} {m : Nat} (RK : rf_ok B m) {x1 : Int32} {P : Int32 → (Nat → Nat → Int32) → Prop} (H : rs_i mt_X11_isIn [pv_i x1, pv_i (0 : Int32), pv_i (4 : Int32)] B I (fun v2 I1 => (v2 = 0 ∨ v2 = 1) ∧ P v2 I1)) : rw_i mt_X11_isLane 0 [some (pv_r m), some (pv_i x1)] [] B I P := by
  refine go_iload_n dX11_isLane_0 rfl ?_
  refine go_iconst (v := (0 : Int32)) rfl dX11_isLane_1 ?_
  refine go_iconst (v := (4 : Int32)) rfl dX11_isLane_2 ?_
  refine go_St (av := [pv_i x1, pv_i (0 : Int32), pv_i (4 : Int32)]) (st := []) ok_X11_isIn ⟨by decide, by decide⟩ ml_X11_90 rfl (by decide) (fun v hv => by simp only [List.mem_cons, List.not_mem_nil, or_false] at hv; rcases hv with rfl | rfl | rfl <;> first | exact pv_1i | exact pv_1r) (Nat.le_of_ble_eq_true rfl) (fun _ h => h) dX11_isLane_3 H (fun r M' hq _ => ?_)
  obtain ⟨v2, rfl, I1, rfl, H⟩ := hq
  show go_W mt_X11_isLane fr_R 6 [some (pv_r m), some (pv_i x1)] [pv_i v2] (mm_si B I1) (qi_ (fun x M' => ∃ I', M' = mm_si B I' ∧ P x I'))
  exact go_iret rfl (by rcases H.1 with h | h <;> rw [h] <;> rfl) dX11_isLane_6 ⟨_, rfl, _, rfl, H.2⟩
theorem wp_X11_isWorker_0 {B : mm_T} {I : Nat → Nat → Int32} {m : Nat} (RK : rf_ok B m) {x1 : Int32} {P : Int32 → (Nat → Nat → Int32) → Prop} (H : rs_i mt_X11_isIn [pv_i x1, pv_i (0 : Int32), pv_i (5 : Int32)] B I (fun v2 I1 => (v2 = 0 ∨ v2 = 1) ∧ P v2 I1)) : rw_i mt_X11_isWorker 0 [some (pv_r m), some (pv_i x1)] [] B I P := by
  refine go_iload_n dX11_isWorker_0 rfl ?_
  refine go_iconst (v := (0 : Int32)) rfl dX11_isWorker_1 ?_
  refine go_iconst (v := (5 : Int32)) rfl dX11_isWorker_2 ?_
  refine go_St (av := [pv_i x1, pv_i (0 : Int32), pv_i (5 : Int32)]) (st := []) ok_X11_isIn ⟨by decide, by decide⟩ ml_X11_90 rfl (by decide) (fun v hv => by simp only [List.mem_cons, List.not_mem_nil, or_false] at hv; rcases hv with rfl | rfl | rfl <;> first | exact pv_1i | exact pv_1r) (Nat.le_of_ble_eq_true rfl) (fun _ h => h) dX11_isWorker_3 H (fun r M' hq _ => ?_)
  obtain ⟨v2, rfl, I1, rfl, H⟩ := hq
  show go_W mt_X11_isWorker fr_R 6 [some (pv_r m), some (pv_i x1)] [pv_i v2] (mm_si B I1) (qi_ (fun x M' => ∃ I', M' = mm_si B I' ∧ P x I'))
  exact go_iret rfl (by rcases H.1 with h | h <;> rw [h] <;> rfl) dX11_isWorker_6 ⟨_, rfl, _, rfl, H.2⟩
theorem wp_X11_isTask_0 {B : mm_T} {I : Nat → Nat → Int32} {m : Nat} (RK : rf_ok B m) {x1 : Int32} {P : Int32 → (Nat → Nat → Int32) → Prop} (H : rs_i mt_X11_isIn [pv_i x1, pv_i (0 : Int32), pv_i (I (m + 1) 1 - (1 : Int32))] B I (fun v2 I1 => (v2 = 0 ∨ v2 = 1) ∧ P v2 I1)) : rw_i mt_X11_isTask 0 [some (pv_r m), some (pv_i x1)] [] B I P := by
  refine go_iload_n dX11_isTask_0 rfl ?_
  refine go_iconst (v := (0 : Int32)) rfl dX11_isTask_1 ?_
  refine go_aload_n dX11_isTask_2 rfl ?_
  refine go_getRe (k := 0) ⟨by decide, rfl, by decide, Or.inr ⟨_, rfl⟩⟩ RK.1 (rf_r1 RK) fl_X11_7 dX11_isTask_3 ?_
  refine go_iconst (v := (1 : Int32)) rfl dX11_isTask_6 ?_
  refine go_ialdN (j := 1) ⟨by decide, by decide⟩ (rf_k1 RK) rfl (by decide) dX11_isTask_7 ?_
  refine go_iconst (v := (1 : Int32)) rfl dX11_isTask_8 ?_
  refine go_isub dX11_isTask_9 ?_
  refine go_St (av := [pv_i x1, pv_i (0 : Int32), pv_i (I (m + 1) 1 - (1 : Int32))]) (st := []) ok_X11_isIn ⟨by decide, by decide⟩ ml_X11_90 rfl (by decide) (fun v hv => by simp only [List.mem_cons, List.not_mem_nil, or_false] at hv; rcases hv with rfl | rfl | rfl <;> first | exact pv_1i | exact pv_1r) (Nat.le_of_ble_eq_true rfl) (fun _ h => h) dX11_isTask_10 H (fun r M' hq _ => ?_)
  obtain ⟨v2, rfl, I1, rfl, H⟩ := hq
  show go_W mt_X11_isTask fr_R 13 [some (pv_r m), some (pv_i x1)] [pv_i v2] (mm_si B I1) (qi_ (fun x M' => ∃ I', M' = mm_si B I' ∧ P x I'))
  exact go_iret rfl (by rcases H.1 with h | h <;> rw [h] <;> rfl) dX11_isTask_13 ⟨_, rfl, _, rfl, H.2⟩
theorem wp_X11_isKey_0 {B : mm_T} {I : Nat → Nat → Int32} {m : Nat} (RK : rf_ok B m) {x1 : Int32} {P : Int32 → (Nat → Nat → Int32) → Prop} (H : rs_i mt_X11_isIn [pv_i x1, pv_i (0 : Int32), pv_i (9999 : Int32)] B I (fun v2 I1 => (v2 = 0 ∨ v2 = 1) ∧ P v2 I1)) : rw_i mt_X11_isKey 0 [some (pv_i x1)] [] B I P := by
  refine go_iload_n dX11_isKey_0 rfl ?_
  refine go_iconst (v := (0 : Int32)) rfl dX11_isKey_1 ?_
  refine go_sipush (v := (9999 : Int32)) rfl dX11_isKey_2 ?_
  refine go_St (av := [pv_i x1, pv_i (0 : Int32), pv_i (9999 : Int32)]) (st := []) ok_X11_isIn ⟨by decide, by decide⟩ ml_X11_90 rfl (by decide) (fun v hv => by simp only [List.mem_cons, List.not_mem_nil, or_false] at hv; rcases hv with rfl | rfl | rfl <;> first | exact pv_1i | exact pv_1r) (Nat.le_of_ble_eq_true rfl) (fun _ h => h) dX11_isKey_5 H (fun r M' hq _ => ?_)
  obtain ⟨v2, rfl, I1, rfl, H⟩ := hq
  show go_W mt_X11_isKey fr_R 8 [some (pv_i x1)] [pv_i v2] (mm_si B I1) (qi_ (fun x M' => ∃ I', M' = mm_si B I' ∧ P x I'))
  exact go_iret rfl (by rcases H.1 with h | h <;> rw [h] <;> rfl) dX11_isKey_8 ⟨_, rfl, _, rfl, H.2⟩
theorem wp_X11_isPriority_0 {B : mm_T} {I : Nat → Nat → Int32} {m : Nat} (RK : rf_ok B m) {x1 : Int32} {P : Int32 → (Nat → Nat → Int32) → Prop} (H : rs_i mt_X11_isIn [pv_i x1, pv_i (0 : Int32), pv_i (9 : Int32)] B I (fun v2 I1 => (v2 = 0 ∨ v2 = 1) ∧ P v2 I1)) : rw_i mt_X11_isPriority 0 [some (pv_i x1)] [] B I P := by
  refine go_iload_n dX11_isPriority_0 rfl ?_
  refine go_iconst (v := (0 : Int32)) rfl dX11_isPriority_1 ?_
  refine go_bipush (v := (9 : Int32)) rfl dX11_isPriority_2 ?_
  refine go_St (av := [pv_i x1, pv_i (0 : Int32), pv_i (9 : Int32)]) (st := []) ok_X11_isIn ⟨by decide, by decide⟩ ml_X11_90 rfl (by decide) (fun v hv => by simp only [List.mem_cons, List.not_mem_nil, or_false] at hv; rcases hv with rfl | rfl | rfl <;> first | exact pv_1i | exact pv_1r) (Nat.le_of_ble_eq_true rfl) (fun _ h => h) dX11_isPriority_4 H (fun r M' hq _ => ?_)
  obtain ⟨v2, rfl, I1, rfl, H⟩ := hq
  show go_W mt_X11_isPriority fr_R 7 [some (pv_i x1)] [pv_i v2] (mm_si B I1) (qi_ (fun x M' => ∃ I', M' = mm_si B I' ∧ P x I'))
  exact go_iret rfl (by rcases H.1 with h | h <;> rw [h] <;> rfl) dX11_isPriority_7 ⟨_, rfl, _, rfl, H.2⟩
theorem wp_X11_isTimer_0 {B : mm_T} {I : Nat → Nat → Int32} {m : Nat} (RK : rf_ok B m) {x1 : Int32} {P : Int32 → (Nat → Nat → Int32) → Prop} (H : rs_i mt_X11_isIn [pv_i x1, pv_i (0 : Int32), pv_i (I (m + 1) 84 - (1 : Int32))] B I (fun v2 I1 => (v2 = 0 ∨ v2 = 1) ∧ P v2 I1)) : rw_i mt_X11_isTimer 0 [some (pv_r m), some (pv_i x1)] [] B I P := by
  refine go_iload_n dX11_isTimer_0 rfl ?_
  refine go_iconst (v := (0 : Int32)) rfl dX11_isTimer_1 ?_
  refine go_aload_n dX11_isTimer_2 rfl ?_
  refine go_getRe (k := 0) ⟨by decide, rfl, by decide, Or.inr ⟨_, rfl⟩⟩ RK.1 (rf_r1 RK) fl_X11_7 dX11_isTimer_3 ?_
  refine go_bipush (v := (84 : Int32)) rfl dX11_isTimer_6 ?_
  refine go_ialdN (j := 84) ⟨by decide, by decide⟩ (rf_k1 RK) rfl (by decide) dX11_isTimer_8 ?_
  refine go_iconst (v := (1 : Int32)) rfl dX11_isTimer_9 ?_
  refine go_isub dX11_isTimer_10 ?_
  refine go_St (av := [pv_i x1, pv_i (0 : Int32), pv_i (I (m + 1) 84 - (1 : Int32))]) (st := []) ok_X11_isIn ⟨by decide, by decide⟩ ml_X11_90 rfl (by decide) (fun v hv => by simp only [List.mem_cons, List.not_mem_nil, or_false] at hv; rcases hv with rfl | rfl | rfl <;> first | exact pv_1i | exact pv_1r) (Nat.le_of_ble_eq_true rfl) (fun _ h => h) dX11_isTimer_11 H (fun r M' hq _ => ?_)
  obtain ⟨v2, rfl, I1, rfl, H⟩ := hq
  show go_W mt_X11_isTimer fr_R 14 [some (pv_r m), some (pv_i x1)] [pv_i v2] (mm_si B I1) (qi_ (fun x M' => ∃ I', M' = mm_si B I' ∧ P x I'))
  exact go_iret rfl (by rcases H.1 with h | h <;> rw [h] <;> rfl) dX11_isTimer_14 ⟨_, rfl, _, rfl, H.2⟩
theorem wp_X11_stands_0 {B : mm_T} {I : Nat → Nat → Int32} {m : Nat} (RK : rf_ok B m) {x1 : Int32} {P : Int32 → (Nat → Nat → Int32) → Prop} (H : rs_i mt_X11_of [pv_r m, pv_i x1, pv_i (6 : Int32)] B I (fun v2 I1 => ((((3 : Int32) < v2) → P (0 : Int32) I1) ∧ ((¬ (3 : Int32) < v2) → P (1 : Int32) I1)))) : rw_i mt_X11_stands 0 [some (pv_r m), some (pv_i x1)] [] B I P := by
  refine go_aload_n dX11_stands_0 rfl ?_
  refine go_iload_n dX11_stands_1 rfl ?_
  refine go_bipush (v := (6 : Int32)) rfl dX11_stands_2 ?_
  refine go_V (av := [pv_i x1, pv_i (6 : Int32)]) (st := []) (ci := 11) ok_X11_of ⟨by decide, by decide⟩ ml_X11_94 rfl (by decide) (fun v hv => by simp only [List.mem_cons, List.not_mem_nil, or_false] at hv; rcases hv with rfl | rfl <;> first | exact pv_1i | exact pv_1r) (Nat.le_of_ble_eq_true rfl) (fun _ h => h) (by decide) rfl RK.1 dX11_stands_4 H (fun r M' hq _ => ?_)
  obtain ⟨v2, rfl, I1, rfl, H⟩ := hq
  show go_W mt_X11_stands fr_R 7 [some (pv_r m), some (pv_i x1)] [pv_i v2] (mm_si B I1) (qi_ (fun x M' => ∃ I', M' = mm_si B I' ∧ P x I'))
  refine go_iconst (v := (3 : Int32)) rfl dX11_stands_7 ?_
  refine go_icmp_gt (tgt := 15) dX11_stands_8 (by decide) (fun hc => ?_) (fun hc => ?_)
  · replace H := H.1 hc
    refine go_iconst (v := (0 : Int32)) rfl dX11_stands_15 ?_
    exact go_iret rfl rfl dX11_stands_16 ⟨_, rfl, _, rfl, H⟩
  · replace H := H.2 hc
    refine go_iconst (v := (1 : Int32)) rfl dX11_stands_11 ?_
    refine go_goto (tgt := 16) dX11_stands_12 (by decide) ?_
    exact go_iret rfl rfl dX11_stands_16 ⟨_, rfl, _, rfl, H⟩
theorem wp_X11_isAtRest_0 {B : mm_T} {I : Nat → Nat → Int32} {m : Nat} (RK : rf_ok B m) {x1 : Int32} {P : Int32 → (Nat → Nat → Int32) → Prop} (H : rs_i mt_X11_of [pv_r m, pv_i x1, pv_i (6 : Int32)] B I (fun v2 I1 => ((((2 : Int32) < v2) → P (0 : Int32) I1) ∧ ((¬ (2 : Int32) < v2) → P (1 : Int32) I1)))) : rw_i mt_X11_isAtRest 0 [some (pv_r m), some (pv_i x1)] [] B I P := by
  refine go_aload_n dX11_isAtRest_0 rfl ?_
  refine go_iload_n dX11_isAtRest_1 rfl ?_
  refine go_bipush (v := (6 : Int32)) rfl dX11_isAtRest_2 ?_
  refine go_V (av := [pv_i x1, pv_i (6 : Int32)]) (st := []) (ci := 11) ok_X11_of ⟨by decide, by decide⟩ ml_X11_94 rfl (by decide) (fun v hv => by simp only [List.mem_cons, List.not_mem_nil, or_false] at hv; rcases hv with rfl | rfl <;> first | exact pv_1i | exact pv_1r) (Nat.le_of_ble_eq_true rfl) (fun _ h => h) (by decide) rfl RK.1 dX11_isAtRest_4 H (fun r M' hq _ => ?_)
  obtain ⟨v2, rfl, I1, rfl, H⟩ := hq
  show go_W mt_X11_isAtRest fr_R 7 [some (pv_r m), some (pv_i x1)] [pv_i v2] (mm_si B I1) (qi_ (fun x M' => ∃ I', M' = mm_si B I' ∧ P x I'))
  refine go_iconst (v := (2 : Int32)) rfl dX11_isAtRest_7 ?_
  refine go_icmp_gt (tgt := 15) dX11_isAtRest_8 (by decide) (fun hc => ?_) (fun hc => ?_)
  · replace H := H.1 hc
    refine go_iconst (v := (0 : Int32)) rfl dX11_isAtRest_15 ?_
    exact go_iret rfl rfl dX11_isAtRest_16 ⟨_, rfl, _, rfl, H⟩
  · replace H := H.2 hc
    refine go_iconst (v := (1 : Int32)) rfl dX11_isAtRest_11 ?_
    refine go_goto (tgt := 16) dX11_isAtRest_12 (by decide) ?_
    exact go_iret rfl rfl dX11_isAtRest_16 ⟨_, rfl, _, rfl, H⟩
theorem wp_X11_rankOf_0 {B : mm_T} {I : Nat → Nat → Int32} {m : Nat} (RK : rf_ok B m) {x1 : Int32} {P : Int32 → (Nat → Nat → Int32) → Prop} (H : rs_i mt_X11_of [pv_r m, pv_i x1, pv_i (1 : Int32)] B I (fun v2 I1 => rs_i mt_X11_of [pv_r m, pv_i x1, pv_i (5 : Int32)] B I1 (fun v4 I3 => P ((v2 * I1 (m + 1) 4) - v4) I3))) : rw_i mt_X11_rankOf 0 [some (pv_r m), some (pv_i x1)] [] B I P := by
  refine go_aload_n dX11_rankOf_0 rfl ?_
  refine go_iload_n dX11_rankOf_1 rfl ?_
  refine go_iconst (v := (1 : Int32)) rfl dX11_rankOf_2 ?_
  refine go_V (av := [pv_i x1, pv_i (1 : Int32)]) (st := []) (ci := 11) ok_X11_of ⟨by decide, by decide⟩ ml_X11_94 rfl (by decide) (fun v hv => by simp only [List.mem_cons, List.not_mem_nil, or_false] at hv; rcases hv with rfl | rfl <;> first | exact pv_1i | exact pv_1r) (Nat.le_of_ble_eq_true rfl) (fun _ h => h) (by decide) rfl RK.1 dX11_rankOf_3 H (fun r M' hq _ => ?_)
  obtain ⟨v2, rfl, I1, rfl, H⟩ := hq
  show go_W mt_X11_rankOf fr_R 6 [some (pv_r m), some (pv_i x1)] [pv_i v2] (mm_si B I1) (qi_ (fun x M' => ∃ I', M' = mm_si B I' ∧ P x I'))
  refine go_aload_n dX11_rankOf_6 rfl ?_
  refine go_getRe (k := 0) ⟨by decide, rfl, by decide, Or.inr ⟨_, rfl⟩⟩ RK.1 (rf_r1 RK) fl_X11_7 dX11_rankOf_7 ?_
  refine go_iconst (v := (4 : Int32)) rfl dX11_rankOf_10 ?_
  refine go_ialdN (j := 4) ⟨by decide, by decide⟩ (rf_k1 RK) rfl (by decide) dX11_rankOf_11 ?_
  refine go_imul dX11_rankOf_12 ?_
  refine go_aload_n dX11_rankOf_13 rfl ?_
  refine go_iload_n dX11_rankOf_14 rfl ?_
  refine go_iconst (v := (5 : Int32)) rfl dX11_rankOf_15 ?_
  refine go_V (av := [pv_i x1, pv_i (5 : Int32)]) (st := [pv_i (v2 * I1 (m + 1) 4)]) (ci := 11) ok_X11_of ⟨by decide, by decide⟩ ml_X11_94 rfl (by decide) (fun v hv => by simp only [List.mem_cons, List.not_mem_nil, or_false] at hv; rcases hv with rfl | rfl <;> first | exact pv_1i | exact pv_1r) (Nat.le_of_ble_eq_true rfl) (fun _ h => h) (by decide) rfl RK.1 dX11_rankOf_16 H (fun r M' hq _ => ?_)
  obtain ⟨v4, rfl, I3, rfl, H⟩ := hq
  show go_W mt_X11_rankOf fr_R 19 [some (pv_r m), some (pv_i x1)] [pv_i v4, pv_i (v2 * I1 (m + 1) 4)] (mm_si B I3) (qi_ (fun x M' => ∃ I', M' = mm_si B I' ∧ P x I'))
  refine go_isub dX11_rankOf_19 ?_
  exact go_iret rfl rfl dX11_rankOf_20 ⟨_, rfl, _, rfl, H⟩
theorem wp_X11_refuses_0 {B : mm_T} {I : Nat → Nat → Int32} {m : Nat} (RK : rf_ok B m) {x1 : Int32} {P : Int32 → (Nat → Nat → Int32) → Prop} (H : (((I m 8 = 0) → ∀ I1, I1 = i2_u I m 7 (I m 7 + (1 : Int32)) → P x1 I1) ∧ ((¬ I m 8 = 0) → ∀ I2, I2 = i2_u I m 7 (I m 7 + (0 : Int32)) → P x1 I2))) : rw_i mt_X11_refuses 0 [some (pv_r m), some (pv_i x1)] [] B I P := by
  refine go_aload_n dX11_refuses_0 rfl ?_
  refine go_dup pv_1r dX11_refuses_1 ?_
  refine go_getI (k := 7) ⟨by decide, rfl, by decide, rfl⟩ RK.1 fl_X11_32 dX11_refuses_2 ?_
  refine go_aload_n dX11_refuses_5 rfl ?_
  refine go_getZ (k := 8) ⟨by decide, rfl, by decide, rfl⟩ RK.1 fl_X11_35 dX11_refuses_6 ?_
  refine go_if_eq (tgt := 16) dX11_refuses_9 (by decide) (fun hc => ?_) (fun hc => ?_)
  · replace H := H.1 hc
    refine go_iconst (v := (1 : Int32)) rfl dX11_refuses_16 ?_
    refine go_iadd dX11_refuses_17 ?_
    refine go_putI (k := 7) ⟨by decide, rfl, by decide, rfl⟩ RK.1 rfl (Or.inl rfl) fl_X11_32 dX11_refuses_18 ?_
    replace H := H _ rfl
    refine go_iload_n dX11_refuses_21 rfl ?_
    exact go_iret rfl rfl dX11_refuses_22 ⟨_, rfl, _, rfl, H⟩
  · replace H := H.2 hc
    refine go_iconst (v := (0 : Int32)) rfl dX11_refuses_12 ?_
    refine go_goto (tgt := 17) dX11_refuses_13 (by decide) ?_
    refine go_iadd dX11_refuses_17 ?_
    refine go_putI (k := 7) ⟨by decide, rfl, by decide, rfl⟩ RK.1 rfl (Or.inl rfl) fl_X11_32 dX11_refuses_18 ?_
    replace H := H _ rfl
    refine go_iload_n dX11_refuses_21 rfl ?_
    exact go_iret rfl rfl dX11_refuses_22 ⟨_, rfl, _, rfl, H⟩
def ra_rank (I : Nat → Nat → Int32) (m t : Nat) : Int32 := I (m + 1) (200 + 14 * t + 1) * I (m + 1) 4 - I (m + 1) (200 + 14 * t + 5)
section RxTiny
variable {B : mm_T} {I : Nat → Nat → Int32} {m : Nat}
theorem rx_isIn_t (RK : rf_ok B m) {x lo hi : Int32} (h : lo ≤ x ∧ x ≤ hi) : rs_i mt_X11_isIn [pv_i x, pv_i lo, pv_i hi] B I (fun v I' => v = 1 ∧ I = I') := by
  refine wp_X11_isIn_0 RK ⟨fun c => absurd h.1 (Int32.not_le.mpr c), fun _ => ⟨fun c => absurd h.2 (Int32.not_le.mpr c), fun _ => ⟨rfl, rfl⟩⟩⟩
theorem rx_isIn_f (RK : rf_ok B m) {x lo hi : Int32} (h : ¬ (lo ≤ x ∧ x ≤ hi)) : rs_i mt_X11_isIn [pv_i x, pv_i lo, pv_i hi] B I (fun v I' => v = 0 ∧ I = I') := by
  refine wp_X11_isIn_0 RK ⟨fun _ => ⟨rfl, rfl⟩, fun c => ⟨fun _ => ⟨rfl, rfl⟩, fun c2 => absurd ⟨Int32.not_lt.mp c, Int32.not_lt.mp c2⟩ h⟩⟩
theorem rs_i_mono {t : mt_T} {av : List pv_T} {P P' : Int32 → (Nat → Nat → Int32) → Prop} (h : rs_i t av B I P) (k : ∀ x I', P x I' → P' x I') : rs_i t av B I P' := by
  intro cx l p e s m args below meth c H locs cells slots n0 s0 L F I1 N hl
  refine go_mono (fun u => ?_) (h cx l p e s m args below meth c H locs cells slots n0 s0 L F I1 N hl)
  rintro ⟨o, h1, h2, ⟨r, M', h3, ⟨x, hx, I', hI', hP⟩, h5⟩, h6⟩
  exact ⟨o, h1, h2, ⟨r, M', h3, ⟨x, hx, I', hI', k x I' hP⟩, h5⟩, h6⟩
theorem rs_v_mono {t : mt_T} {av : List pv_T} {P P' : (Nat → Nat → Int32) → Prop} (h : rs_v t av B I P) (k : ∀ I', P I' → P' I') : rs_v t av B I P' := by
  intro cx l p e s m args below meth c H locs cells slots n0 s0 L F I1 N hl
  refine go_mono (fun u => ?_) (h cx l p e s m args below meth c H locs cells slots n0 s0 L F I1 N hl)
  rintro ⟨o, h1, h2, ⟨r, M', h3, ⟨hx, I', hI', hP⟩, h5⟩, h6⟩
  exact ⟨o, h1, h2, ⟨r, M', h3, ⟨hx, I', hI', k I' hP⟩, h5⟩, h6⟩
theorem rx_at (RK : rf_ok B m) {x : Int32} {n : Nat} (h : x = nI n) : rs_i mt_X11_at [pv_i x] B I (fun v I' => v = nI (10 + 10 * n) ∧ I = I') :=
  wp_X11_at_0 RK ⟨nI_ae rfl (nI_me rfl h), rfl⟩
theorem rx_workerAt (RK : rf_ok B m) {x : Int32} {n : Nat} (h : x = nI n) : rs_i mt_X11_workerAt [pv_i x] B I (fun v I' => v = nI (60 + 4 * n) ∧ I = I') :=
  wp_X11_workerAt_0 RK ⟨nI_ae rfl (nI_me rfl h), rfl⟩
theorem rx_timerAt (RK : rf_ok B m) {x : Int32} {n : Nat} (h : x = nI n) : rs_i mt_X11_timerAt [pv_i x] B I (fun v I' => v = nI (85 + 8 * n) ∧ I = I') :=
  wp_X11_timerAt_0 RK ⟨nI_ae rfl (nI_me rfl h), rfl⟩
theorem rx_taskAt (RK : rf_ok B m) {x : Int32} {n : Nat} (h : x = nI n) : rs_i mt_X11_taskAt [pv_i x] B I (fun v I' => v = nI (200 + 14 * n) ∧ I = I') :=
  wp_X11_taskAt_0 RK ⟨nI_ae rfl (nI_me rfl h), rfl⟩
theorem rx_of (RK : rf_ok B m) {x y : Int32} {n k : Nat} (hx : x = nI n) (hy : y = nI k) (hn : n < 400) (hk : k < 14) : rs_i mt_X11_of [pv_r m, pv_i x, pv_i y] B I (fun v I' => v = I (m + 1) (200 + 14 * n + k) ∧ I = I') := by
  refine wp_X11_of_0 RK (rs_i_mono (rx_taskAt RK hx) ?_)
  rintro v I' ⟨rfl, rfl⟩
  exact ⟨200 + 14 * n + k, ⟨nI_ae rfl hy, by omega⟩, rfl, rfl⟩
theorem rx_is (RK : rf_ok B m) {x y z : Int32} {n k : Nat} (hx : x = nI n) (hy : y = nI k) (hn : n < 400) (hk : k < 14) : rs_v mt_X11_is [pv_r m, pv_i x, pv_i y, pv_i z] B I (fun I' => I' = i2_u I (m + 1) (200 + 14 * n + k) z) := by
  refine wp_X11_is_0 RK (rs_i_mono (rx_taskAt RK hx) ?_)
  rintro v I' ⟨rfl, rfl⟩
  exact ⟨200 + 14 * n + k, ⟨nI_ae rfl hy, by omega⟩, fun I3 h => h⟩
theorem rx_lesser (RK : rf_ok B m) {x y : Int32} : rs_i mt_X11_lesser [pv_i x, pv_i y] B I (fun v I' => v = (if y ≤ x then y else x) ∧ I = I') :=
  wp_X11_lesser_0 RK ⟨fun c => ⟨(if_pos c).symm, rfl⟩, fun c => ⟨(if_neg c).symm, rfl⟩⟩
theorem rx_greater (RK : rf_ok B m) {x y : Int32} : rs_i mt_X11_greater [pv_i x, pv_i y] B I (fun v I' => v = (if x ≤ y then y else x) ∧ I = I') :=
  wp_X11_greater_0 RK ⟨fun c => ⟨(if_pos c).symm, rfl⟩, fun c => ⟨(if_neg c).symm, rfl⟩⟩
theorem rx_rankOf (RK : rf_ok B m) {x : Int32} {n : Nat} (hx : x = nI n) (hn : n < 400) : rs_i mt_X11_rankOf [pv_r m, pv_i x] B I (fun v I' => v = ra_rank I m n ∧ I = I') := by
  refine wp_X11_rankOf_0 RK (rs_i_mono (rx_of RK hx (k := 1) rfl hn (by decide)) ?_)
  rintro v I' ⟨rfl, rfl⟩
  refine rs_i_mono (rx_of RK hx (k := 5) rfl hn (by decide)) ?_
  rintro v I' ⟨rfl, rfl⟩
  exact ⟨rfl, rfl⟩
theorem rx_refuses (RK : rf_ok B m) {x : Int32} (h8 : I m 8 = 0) : rs_i mt_X11_refuses [pv_r m, pv_i x] B I (fun v I' => x = v ∧ I' = i2_u I m 7 (I m 7 + 1)) :=
  wp_X11_refuses_0 RK ⟨fun _ I1 h => ⟨rfl, h⟩, fun c => absurd h8 c⟩
theorem rx_isLane_t (RK : rf_ok B m) {x : Int32} (h : (0 ≤ x ∧ x ≤ 4)) : rs_i mt_X11_isLane [pv_r m, pv_i x] B I (fun v I' => v = 1 ∧ I = I') := by
  refine wp_X11_isLane_0 RK (rs_i_mono (rx_isIn_t RK h) ?_)
  rintro v I' ⟨rfl, rfl⟩
  exact ⟨Or.inr rfl, rfl, rfl⟩
theorem rx_isLane_f (RK : rf_ok B m) {x : Int32} (h : ¬ (0 ≤ x ∧ x ≤ 4)) : rs_i mt_X11_isLane [pv_r m, pv_i x] B I (fun v I' => v = 0 ∧ I = I') := by
  refine wp_X11_isLane_0 RK (rs_i_mono (rx_isIn_f RK h) ?_)
  rintro v I' ⟨rfl, rfl⟩
  exact ⟨Or.inl rfl, rfl, rfl⟩
theorem rx_isWorker_t (RK : rf_ok B m) {x : Int32} (h : (0 ≤ x ∧ x ≤ 5)) : rs_i mt_X11_isWorker [pv_r m, pv_i x] B I (fun v I' => v = 1 ∧ I = I') := by
  refine wp_X11_isWorker_0 RK (rs_i_mono (rx_isIn_t RK h) ?_)
  rintro v I' ⟨rfl, rfl⟩
  exact ⟨Or.inr rfl, rfl, rfl⟩
theorem rx_isWorker_f (RK : rf_ok B m) {x : Int32} (h : ¬ (0 ≤ x ∧ x ≤ 5)) : rs_i mt_X11_isWorker [pv_r m, pv_i x] B I (fun v I' => v = 0 ∧ I = I') := by
  refine wp_X11_isWorker_0 RK (rs_i_mono (rx_isIn_f RK h) ?_)
  rintro v I' ⟨rfl, rfl⟩
  exact ⟨Or.inl rfl, rfl, rfl⟩
theorem rx_isKey_t (RK : rf_ok B m) {x : Int32} (h : (0 ≤ x ∧ x ≤ 9999)) : rs_i mt_X11_isKey [pv_i x] B I (fun v I' => v = 1 ∧ I = I') := by
  refine wp_X11_isKey_0 RK (rs_i_mono (rx_isIn_t RK h) ?_)
  rintro v I' ⟨rfl, rfl⟩
  exact ⟨Or.inr rfl, rfl, rfl⟩
theorem rx_isKey_f (RK : rf_ok B m) {x : Int32} (h : ¬ (0 ≤ x ∧ x ≤ 9999)) : rs_i mt_X11_isKey [pv_i x] B I (fun v I' => v = 0 ∧ I = I') := by
  refine wp_X11_isKey_0 RK (rs_i_mono (rx_isIn_f RK h) ?_)
  rintro v I' ⟨rfl, rfl⟩
  exact ⟨Or.inl rfl, rfl, rfl⟩
theorem rx_isPriority_t (RK : rf_ok B m) {x : Int32} (h : (0 ≤ x ∧ x ≤ 9)) : rs_i mt_X11_isPriority [pv_i x] B I (fun v I' => v = 1 ∧ I = I') := by
  refine wp_X11_isPriority_0 RK (rs_i_mono (rx_isIn_t RK h) ?_)
  rintro v I' ⟨rfl, rfl⟩
  exact ⟨Or.inr rfl, rfl, rfl⟩
theorem rx_isPriority_f (RK : rf_ok B m) {x : Int32} (h : ¬ (0 ≤ x ∧ x ≤ 9)) : rs_i mt_X11_isPriority [pv_i x] B I (fun v I' => v = 0 ∧ I = I') := by
  refine wp_X11_isPriority_0 RK (rs_i_mono (rx_isIn_f RK h) ?_)
  rintro v I' ⟨rfl, rfl⟩
  exact ⟨Or.inl rfl, rfl, rfl⟩
theorem rx_isTask_t (RK : rf_ok B m) {x : Int32} (h : (0 ≤ x ∧ x ≤ I (m + 1) 1 - 1)) : rs_i mt_X11_isTask [pv_r m, pv_i x] B I (fun v I' => v = 1 ∧ I = I') := by
  refine wp_X11_isTask_0 RK (rs_i_mono (rx_isIn_t RK h) ?_)
  rintro v I' ⟨rfl, rfl⟩
  exact ⟨Or.inr rfl, rfl, rfl⟩
theorem rx_isTask_f (RK : rf_ok B m) {x : Int32} (h : ¬ (0 ≤ x ∧ x ≤ I (m + 1) 1 - 1)) : rs_i mt_X11_isTask [pv_r m, pv_i x] B I (fun v I' => v = 0 ∧ I = I') := by
  refine wp_X11_isTask_0 RK (rs_i_mono (rx_isIn_f RK h) ?_)
  rintro v I' ⟨rfl, rfl⟩
  exact ⟨Or.inl rfl, rfl, rfl⟩
theorem rx_isTimer_t (RK : rf_ok B m) {x : Int32} (h : (0 ≤ x ∧ x ≤ I (m + 1) 84 - 1)) : rs_i mt_X11_isTimer [pv_r m, pv_i x] B I (fun v I' => v = 1 ∧ I = I') := by
  refine wp_X11_isTimer_0 RK (rs_i_mono (rx_isIn_t RK h) ?_)
  rintro v I' ⟨rfl, rfl⟩
  exact ⟨Or.inr rfl, rfl, rfl⟩
theorem rx_isTimer_f (RK : rf_ok B m) {x : Int32} (h : ¬ (0 ≤ x ∧ x ≤ I (m + 1) 84 - 1)) : rs_i mt_X11_isTimer [pv_r m, pv_i x] B I (fun v I' => v = 0 ∧ I = I') := by
  refine wp_X11_isTimer_0 RK (rs_i_mono (rx_isIn_f RK h) ?_)
  rintro v I' ⟨rfl, rfl⟩
  exact ⟨Or.inl rfl, rfl, rfl⟩
theorem rx_stands_t (RK : rf_ok B m) {x : Int32} {n : Nat} (hx : x = nI n) (hn : n < 400) (h : I (m + 1) (200 + 14 * n + 6) ≤ 3) : rs_i mt_X11_stands [pv_r m, pv_i x] B I (fun v I' => v = 1 ∧ I = I') := by
  refine wp_X11_stands_0 RK (rs_i_mono (rx_of RK hx (k := 6) rfl hn (by decide)) ?_)
  rintro v I' ⟨rfl, rfl⟩
  exact ⟨fun c => absurd h (Int32.not_le.mpr c), fun _ => ⟨rfl, rfl⟩⟩
theorem rx_stands_f (RK : rf_ok B m) {x : Int32} {n : Nat} (hx : x = nI n) (hn : n < 400) (h : ¬ I (m + 1) (200 + 14 * n + 6) ≤ 3) : rs_i mt_X11_stands [pv_r m, pv_i x] B I (fun v I' => v = 0 ∧ I = I') := by
  refine wp_X11_stands_0 RK (rs_i_mono (rx_of RK hx (k := 6) rfl hn (by decide)) ?_)
  rintro v I' ⟨rfl, rfl⟩
  exact ⟨fun _ => ⟨rfl, rfl⟩, fun c => absurd (Int32.not_lt.mp c) h⟩
theorem rx_isAtRest_t (RK : rf_ok B m) {x : Int32} {n : Nat} (hx : x = nI n) (hn : n < 400) (h : I (m + 1) (200 + 14 * n + 6) ≤ 2) : rs_i mt_X11_isAtRest [pv_r m, pv_i x] B I (fun v I' => v = 1 ∧ I = I') := by
  refine wp_X11_isAtRest_0 RK (rs_i_mono (rx_of RK hx (k := 6) rfl hn (by decide)) ?_)
  rintro v I' ⟨rfl, rfl⟩
  exact ⟨fun c => absurd h (Int32.not_le.mpr c), fun _ => ⟨rfl, rfl⟩⟩
theorem rx_isAtRest_f (RK : rf_ok B m) {x : Int32} {n : Nat} (hx : x = nI n) (hn : n < 400) (h : ¬ I (m + 1) (200 + 14 * n + 6) ≤ 2) : rs_i mt_X11_isAtRest [pv_r m, pv_i x] B I (fun v I' => v = 0 ∧ I = I') := by
  refine wp_X11_isAtRest_0 RK (rs_i_mono (rx_of RK hx (k := 6) rfl hn (by decide)) ?_)
  rintro v I' ⟨rfl, rfl⟩
  exact ⟨fun _ => ⟨rfl, rfl⟩, fun c => absurd (Int32.not_lt.mp c) h⟩
end RxTiny
