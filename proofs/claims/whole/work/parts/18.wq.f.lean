/-! the walks of the reference, by program (wip/whole/walk2.py) -/
set_option maxRecDepth 20000 in
theorem wq_X11_bestLane_0 {B : mm_T} {I : Nat → Nat → Int32} {m : Nat} (RK : rf_ok B m) {x1 x2 : Int32} {P : Int32 → (Nat → Nat → Int32) → Prop} (H : rs_i mt_X11_doesWait [pv_r m, pv_i x1] B I (fun v2 I1 => (((v2 = 0) → P (-1 : Int32) I1) ∧ ((¬ v2 = 0) → (((((0 : Int32) ≤ x2 ∧ x2 ≤ (1 : Int32))) → rw_i mt_X11_bestLane 29 [some (pv_r m), some (pv_i x1), some (pv_i x2), some (pv_i (-1 : Int32)), some (pv_i (2000000000 : Int32)), some (pv_i (0 : Int32)), none, none] [] B I1 P) ∧ ((¬ ((0 : Int32) ≤ x2 ∧ x2 ≤ (1 : Int32))) → P (-1 : Int32) I1)))))) : rw_i mt_X11_bestLane 0 [some (pv_r m), some (pv_i x1), some (pv_i x2), none, none, none, none, none] [] B I P := by
  refine go_aload_n dX11_bestLane_0 rfl ?_
  refine go_iload_n dX11_bestLane_1 rfl ?_
  refine go_V (av := [pv_i x1]) (st := []) (ci := 11) ok_X11_doesWait ⟨by decide, by decide⟩ ml_X11_291 rfl (by decide) (fun v hv => by simp only [List.mem_cons, List.not_mem_nil, or_false] at hv; rcases hv with rfl <;> first | exact pv_1i | exact pv_1r) (Nat.le_of_ble_eq_true rfl) (fun _ h => h) (by decide) rfl RK.1 dX11_bestLane_2 H (fun r M' hq _ => ?_)
  obtain ⟨v2, rfl, I1, rfl, H⟩ := hq
  show go_W mt_X11_bestLane fr_R 5 [some (pv_r m), some (pv_i x1), some (pv_i x2), none, none, none, none, none] [pv_i v2] (mm_si B I1) (qi_ (fun x M' => ∃ I', M' = mm_si B I' ∧ P x I'))
  refine go_if_eq (tgt := 17) dX11_bestLane_5 (by decide) (fun hc => ?_) (fun hc => ?_)
  · replace H := H.1 hc
    refine go_iconst (v := (-1 : Int32)) rfl dX11_bestLane_17 ?_
    exact go_iret rfl rfl dX11_bestLane_18 ⟨_, rfl, _, rfl, H⟩
  · replace H := H.2 hc
    refine go_iload_n dX11_bestLane_8 rfl ?_
    refine go_iconst (v := (0 : Int32)) rfl dX11_bestLane_9 ?_
    refine go_iconst (v := (1 : Int32)) rfl dX11_bestLane_10 ?_
    by_cases hc : ((0 : Int32) ≤ x2 ∧ x2 ≤ (1 : Int32))
    · replace H := H.1 hc
      refine go_St (av := [pv_i x2, pv_i (0 : Int32), pv_i (1 : Int32)]) (st := []) ok_X11_isIn ⟨by decide, by decide⟩ ml_X11_90 rfl (by decide) (fun v hv => by simp only [List.mem_cons, List.not_mem_nil, or_false] at hv; rcases hv with rfl | rfl | rfl <;> first | exact pv_1i | exact pv_1r) (Nat.le_of_ble_eq_true rfl) (fun _ h => h) dX11_bestLane_11 (rx_isIn_t RK hc) (fun r M' hq _ => ?_)
      obtain ⟨_, rfl, _, rfl, rfl, rfl⟩ := hq
      show go_W mt_X11_bestLane fr_R 14 [some (pv_r m), some (pv_i x1), some (pv_i x2), none, none, none, none, none] [pv_i (1 : Int32)] (mm_si B I1) (qi_ (fun x M' => ∃ I', M' = mm_si B I' ∧ P x I'))
      refine go_if_ne (tgt := 19) dX11_bestLane_14 (by decide) (fun _ => ?_) (fun hc => absurd hc (by decide))
      refine go_iconst (v := (-1 : Int32)) rfl dX11_bestLane_19 ?_
      refine go_istore_n (by decide) dX11_bestLane_20 ?_
      show go_W mt_X11_bestLane fr_R 21 [some (pv_r m), some (pv_i x1), some (pv_i x2), some (pv_i (-1 : Int32)), none, none, none, none] [] (mm_si B I1) (qi_ (fun x M' => ∃ I', M' = mm_si B I' ∧ P x I'))
      refine go_ldcw (v := (2000000000 : Int32)) kc_X11_294 dX11_bestLane_21 ?_
      refine go_istore (by decide) dX11_bestLane_24 ?_
      show go_W mt_X11_bestLane fr_R 26 [some (pv_r m), some (pv_i x1), some (pv_i x2), some (pv_i (-1 : Int32)), some (pv_i (2000000000 : Int32)), none, none, none] [] (mm_si B I1) (qi_ (fun x M' => ∃ I', M' = mm_si B I' ∧ P x I'))
      refine go_iconst (v := (0 : Int32)) rfl dX11_bestLane_26 ?_
      refine go_istore (by decide) dX11_bestLane_27 ?_
      show go_W mt_X11_bestLane fr_R 29 [some (pv_r m), some (pv_i x1), some (pv_i x2), some (pv_i (-1 : Int32)), some (pv_i (2000000000 : Int32)), some (pv_i (0 : Int32)), none, none] [] (mm_si B I1) (qi_ (fun x M' => ∃ I', M' = mm_si B I' ∧ P x I'))
      exact H
    · replace H := H.2 hc
      refine go_St (av := [pv_i x2, pv_i (0 : Int32), pv_i (1 : Int32)]) (st := []) ok_X11_isIn ⟨by decide, by decide⟩ ml_X11_90 rfl (by decide) (fun v hv => by simp only [List.mem_cons, List.not_mem_nil, or_false] at hv; rcases hv with rfl | rfl | rfl <;> first | exact pv_1i | exact pv_1r) (Nat.le_of_ble_eq_true rfl) (fun _ h => h) dX11_bestLane_11 (rx_isIn_f RK hc) (fun r M' hq _ => ?_)
      obtain ⟨_, rfl, _, rfl, rfl, rfl⟩ := hq
      show go_W mt_X11_bestLane fr_R 14 [some (pv_r m), some (pv_i x1), some (pv_i x2), none, none, none, none, none] [pv_i (0 : Int32)] (mm_si B I1) (qi_ (fun x M' => ∃ I', M' = mm_si B I' ∧ P x I'))
      refine go_if_ne (tgt := 19) dX11_bestLane_14 (by decide) (fun hc => absurd hc (by decide)) (fun _ => ?_)
      refine go_iconst (v := (-1 : Int32)) rfl dX11_bestLane_17 ?_
      exact go_iret rfl rfl dX11_bestLane_18 ⟨_, rfl, _, rfl, H⟩
set_option maxRecDepth 20000 in
theorem wq_X11_bestLane_29 {B : mm_T} {I : Nat → Nat → Int32} {m : Nat} (RK : rf_ok B m) {x1 x2 x3 x4 x5 : Int32} {P : Int32 → (Nat → Nat → Int32) → Prop} (H : ((((5 : Int32) ≤ x5) → (((¬ x2 = 0) → P x4 I) ∧ ((x2 = 0) → P x3 I))) ∧ ((¬ (5 : Int32) ≤ x5) → ∃ n1, (x1 = nI n1 ∧ n1 < 400) ∧ ((((¬ I (m + 1) (200 + 14 * n1 + 0) = x5) → ∃ n2, (x5 = nI n2 ∧ n2 < 5) ∧ ((((¬ I (m + 1) ((10 + 10 * n2) + 3) = 0) → rw_i mt_X11_bestLane 29 [some (pv_r m), some (pv_i x1), some (pv_i x2), some (pv_i x3), some (pv_i x4), some (pv_i (nI (n2 + 1))), none, none] [] B I P) ∧ ((I (m + 1) ((10 + 10 * n2) + 3) = 0) → rs_i mt_X11_hasRoom [pv_r m, pv_i x5] B I (fun v4 I3 => (((¬ v4 = 0) → rs_v mt_X11_begins [pv_r m] B I3 (fun I5 => rs_v mt_X11_movesTo [pv_r m, pv_i x1, pv_i x5] B I5 (fun I6 => rs_i mt_X11_takenOn [pv_r m, pv_i (-1 : Int32), pv_i x1] B I6 (fun v8 I7 => rs_v mt_X11_ends [pv_r m] B I7 (fun I9 => (((x4 ≤ v8) → rw_i mt_X11_bestLane 29 [some (pv_r m), some (pv_i x1), some (pv_i x2), some (pv_i x3), some (pv_i (if v8 ≤ x4 then v8 else x4)), some (pv_i (nI (n2 + 1))), none, none] [] B I9 P) ∧ ((¬ x4 ≤ v8) → rw_i mt_X11_bestLane 29 [some (pv_r m), some (pv_i x1), some (pv_i x2), some (pv_i x5), some (pv_i (if v8 ≤ x4 then v8 else x4)), some (pv_i (nI (n2 + 1))), none, none] [] B I9 P))))))) ∧ ((v4 = 0) → rw_i mt_X11_bestLane 29 [some (pv_r m), some (pv_i x1), some (pv_i x2), some (pv_i x3), some (pv_i x4), some (pv_i (nI (n2 + 1))), none, none] [] B I3 P))))))) ∧ ((I (m + 1) (200 + 14 * n1 + 0) = x5) → rs_v mt_X11_begins [pv_r m] B I (fun I10 => rs_i mt_X11_takenOn [pv_r m, pv_i (-1 : Int32), pv_i x1] B I10 (fun v12 I11 => rs_v mt_X11_ends [pv_r m] B I11 (fun I13 => (((x4 ≤ v12) → rw_i mt_X11_bestLane 29 [some (pv_r m), some (pv_i x1), some (pv_i x2), some (pv_i x3), some (pv_i (if v12 ≤ x4 then v12 else x4)), some (pv_i (x5 + (1 : Int32))), none, none] [] B I13 P) ∧ ((¬ x4 ≤ v12) → rw_i mt_X11_bestLane 29 [some (pv_r m), some (pv_i x1), some (pv_i x2), some (pv_i x5), some (pv_i (if v12 ≤ x4 then v12 else x4)), some (pv_i (x5 + (1 : Int32))), none, none] [] B I13 P))))))))))) : rw_i mt_X11_bestLane 29 [some (pv_r m), some (pv_i x1), some (pv_i x2), some (pv_i x3), some (pv_i x4), some (pv_i x5), none, none] [] B I P := by
  refine go_iload dX11_bestLane_29 rfl ?_
  refine go_iconst (v := (5 : Int32)) rfl dX11_bestLane_31 ?_
  refine go_icmp_ge (tgt := 142) dX11_bestLane_32 (by decide) (fun hc => ?_) (fun hc => ?_)
  · replace H := H.1 hc
    refine go_iload_n dX11_bestLane_142 rfl ?_
    refine go_if_ne (tgt := 150) dX11_bestLane_143 (by decide) (fun hc => ?_) (fun hc => ?_)
    · replace H := H.1 hc
      refine go_iload dX11_bestLane_150 rfl ?_
      exact go_iret rfl rfl dX11_bestLane_152 ⟨_, rfl, _, rfl, H⟩
    · replace H := H.2 hc
      refine go_iload_n dX11_bestLane_146 rfl ?_
      refine go_goto (tgt := 152) dX11_bestLane_147 (by decide) ?_
      exact go_iret rfl rfl dX11_bestLane_152 ⟨_, rfl, _, rfl, H⟩
  · replace H := H.2 hc
    refine go_aload_n dX11_bestLane_35 rfl ?_
    refine go_iload_n dX11_bestLane_36 rfl ?_
    refine go_iconst (v := (0 : Int32)) rfl dX11_bestLane_37 ?_
    obtain ⟨n1, ⟨hn1, hn1b⟩, H⟩ := H
    refine go_V (av := [pv_i x1, pv_i (0 : Int32)]) (st := []) (ci := 11) ok_X11_of ⟨by decide, by decide⟩ ml_X11_94 rfl (by decide) (fun v hv => by simp only [List.mem_cons, List.not_mem_nil, or_false] at hv; rcases hv with rfl | rfl <;> first | exact pv_1i | exact pv_1r) (Nat.le_of_ble_eq_true rfl) (fun _ h => h) (by decide) rfl RK.1 dX11_bestLane_38 (rx_of RK hn1 rfl hn1b (by decide)) (fun r M' hq _ => ?_)
    obtain ⟨_, rfl, _, rfl, rfl, rfl⟩ := hq
    show go_W mt_X11_bestLane fr_R 41 [some (pv_r m), some (pv_i x1), some (pv_i x2), some (pv_i x3), some (pv_i x4), some (pv_i x5), none, none] [pv_i (I (m + 1) (200 + 14 * n1 + 0))] (mm_si B I) (qi_ (fun x M' => ∃ I', M' = mm_si B I' ∧ P x I'))
    refine go_iload dX11_bestLane_41 rfl ?_
    refine go_icmp_ne (tgt := 50) dX11_bestLane_43 (by decide) (fun hc => ?_) (fun hc => ?_)
    · replace H := H.1 hc
      refine go_iconst (v := (0 : Int32)) rfl dX11_bestLane_50 ?_
      refine go_istore (by decide) dX11_bestLane_51 ?_
      show go_W mt_X11_bestLane fr_R 53 [some (pv_r m), some (pv_i x1), some (pv_i x2), some (pv_i x3), some (pv_i x4), some (pv_i x5), some (pv_i (0 : Int32)), none] [] (mm_si B I) (qi_ (fun x M' => ∃ I', M' = mm_si B I' ∧ P x I'))
      refine go_iload dX11_bestLane_53 rfl ?_
      refine go_if_ne (tgt := 85) dX11_bestLane_55 (by decide) (fun hc => absurd hc (by decide)) (fun _ => ?_)
      refine go_aload_n dX11_bestLane_58 rfl ?_
      refine go_getRe (k := 0) ⟨by decide, rfl, by decide, Or.inr ⟨_, rfl⟩⟩ RK.1 (rf_r1 RK) fl_X11_7 dX11_bestLane_59 ?_
      refine go_iload dX11_bestLane_62 rfl ?_
      obtain ⟨n2, ⟨hn2, hn2b⟩, H⟩ := H
      refine go_St (av := [pv_i x5]) (st := [pv_r (m + 1)]) ok_X11_at ⟨by decide, by decide⟩ ml_X11_80 rfl (by decide) (fun v hv => by simp only [List.mem_cons, List.not_mem_nil, or_false] at hv; rcases hv with rfl <;> first | exact pv_1i | exact pv_1r) (Nat.le_of_ble_eq_true rfl) (fun _ h => h) dX11_bestLane_64 (rx_at RK hn2) (fun r M' hq _ => ?_)
      obtain ⟨_, rfl, _, rfl, rfl, rfl⟩ := hq
      show go_W mt_X11_bestLane fr_R 67 [some (pv_r m), some (pv_i x1), some (pv_i x2), some (pv_i x3), some (pv_i x4), some (pv_i x5), some (pv_i (0 : Int32)), none] [pv_i (nI (10 + 10 * n2)), pv_r (m + 1)] (mm_si B I) (qi_ (fun x M' => ∃ I', M' = mm_si B I' ∧ P x I'))
      refine go_iconst (v := (3 : Int32)) rfl dX11_bestLane_67 ?_
      refine go_iadd dX11_bestLane_68 ?_
      refine go_ialdN (j := ((10 + 10 * n2) + 3)) ⟨by decide, by decide, by decide⟩ (rf_k1 RK) (nI_ae rfl rfl) (by omega) dX11_bestLane_69 ?_
      refine go_if_ne (tgt := 136) dX11_bestLane_70 (by decide) (fun hc => ?_) (fun hc => ?_)
      · replace H := H.1 hc
        refine go_iincN (n := n2) (k := 1) hn2 (by decide) rfl rfl dX11_bestLane_136 ?_
        show go_W mt_X11_bestLane fr_R 139 [some (pv_r m), some (pv_i x1), some (pv_i x2), some (pv_i x3), some (pv_i x4), some (pv_i (nI (n2 + 1))), some (pv_i (0 : Int32)), none] [] (mm_si B I) (qi_ (fun x M' => ∃ I', M' = mm_si B I' ∧ P x I'))
        refine go_goto (tgt := 29) dX11_bestLane_139 (by decide) ?_
        exact go_fg (ls' := [some (pv_r m), some (pv_i x1), some (pv_i x2), some (pv_i x3), some (pv_i x4), some (pv_i (nI (n2 + 1))), none, none]) ⟨rfl, ⟨rfl, ⟨rfl, ⟨rfl, ⟨rfl, ⟨rfl, trivial⟩⟩⟩⟩⟩⟩ H
      · replace H := H.2 hc
        refine go_aload_n dX11_bestLane_73 rfl ?_
        refine go_iload dX11_bestLane_74 rfl ?_
        refine go_V (av := [pv_i x5]) (st := []) (ci := 11) ok_X11_hasRoom ⟨by decide, by decide⟩ ml_X11_164 rfl (by decide) (fun v hv => by simp only [List.mem_cons, List.not_mem_nil, or_false] at hv; rcases hv with rfl <;> first | exact pv_1i | exact pv_1r) (Nat.le_of_ble_eq_true rfl) (fun _ h => h) (by decide) rfl RK.1 dX11_bestLane_76 H (fun r M' hq _ => ?_)
        obtain ⟨v4, rfl, I3, rfl, H⟩ := hq
        show go_W mt_X11_bestLane fr_R 79 [some (pv_r m), some (pv_i x1), some (pv_i x2), some (pv_i x3), some (pv_i x4), some (pv_i x5), some (pv_i (0 : Int32)), none] [pv_i v4] (mm_si B I3) (qi_ (fun x M' => ∃ I', M' = mm_si B I' ∧ P x I'))
        refine go_if_ne (tgt := 85) dX11_bestLane_79 (by decide) (fun hc => ?_) (fun hc => ?_)
        · replace H := H.1 hc
          refine go_aload_n dX11_bestLane_85 rfl ?_
          refine go_V (av := []) (st := []) (ci := 11) ok_X11_begins ⟨by decide, by decide⟩ ml_X11_282 rfl (by decide) (fun v hv => absurd hv List.not_mem_nil) (Nat.le_of_ble_eq_true rfl) (fun _ h => h) (by decide) rfl RK.1 dX11_bestLane_86 H (fun r M' hq _ => ?_)
          obtain ⟨rfl, I5, rfl, H⟩ := hq
          show go_W mt_X11_bestLane fr_R 89 [some (pv_r m), some (pv_i x1), some (pv_i x2), some (pv_i x3), some (pv_i x4), some (pv_i x5), some (pv_i (0 : Int32)), none] [] (mm_si B I5) (qi_ (fun x M' => ∃ I', M' = mm_si B I' ∧ P x I'))
          refine go_iload dX11_bestLane_89 rfl ?_
          refine go_if_ne (tgt := 101) dX11_bestLane_91 (by decide) (fun hc => absurd hc (by decide)) (fun _ => ?_)
          refine go_aload_n dX11_bestLane_94 rfl ?_
          refine go_iload_n dX11_bestLane_95 rfl ?_
          refine go_iload dX11_bestLane_96 rfl ?_
          refine go_V (av := [pv_i x1, pv_i x5]) (st := []) (ci := 11) ok_X11_movesTo ⟨by decide, by decide⟩ ml_X11_233 rfl (by decide) (fun v hv => by simp only [List.mem_cons, List.not_mem_nil, or_false] at hv; rcases hv with rfl | rfl <;> first | exact pv_1i | exact pv_1r) (Nat.le_of_ble_eq_true rfl) (fun _ h => h) (by decide) rfl RK.1 dX11_bestLane_98 H (fun r M' hq _ => ?_)
          obtain ⟨rfl, I6, rfl, H⟩ := hq
          show go_W mt_X11_bestLane fr_R 101 [some (pv_r m), some (pv_i x1), some (pv_i x2), some (pv_i x3), some (pv_i x4), some (pv_i x5), some (pv_i (0 : Int32)), none] [] (mm_si B I6) (qi_ (fun x M' => ∃ I', M' = mm_si B I' ∧ P x I'))
          refine go_aload_n dX11_bestLane_101 rfl ?_
          refine go_iconst (v := (-1 : Int32)) rfl dX11_bestLane_102 ?_
          refine go_iload_n dX11_bestLane_103 rfl ?_
          refine go_V (av := [pv_i (-1 : Int32), pv_i x1]) (st := []) (ci := 11) ok_X11_takenOn ⟨by decide, by decide⟩ ml_X11_285 rfl (by decide) (fun v hv => by simp only [List.mem_cons, List.not_mem_nil, or_false] at hv; rcases hv with rfl | rfl <;> first | exact pv_1i | exact pv_1r) (Nat.le_of_ble_eq_true rfl) (fun _ h => h) (by decide) rfl RK.1 dX11_bestLane_104 H (fun r M' hq _ => ?_)
          obtain ⟨v8, rfl, I7, rfl, H⟩ := hq
          show go_W mt_X11_bestLane fr_R 107 [some (pv_r m), some (pv_i x1), some (pv_i x2), some (pv_i x3), some (pv_i x4), some (pv_i x5), some (pv_i (0 : Int32)), none] [pv_i v8] (mm_si B I7) (qi_ (fun x M' => ∃ I', M' = mm_si B I' ∧ P x I'))
          refine go_istore (by decide) dX11_bestLane_107 ?_
          show go_W mt_X11_bestLane fr_R 109 [some (pv_r m), some (pv_i x1), some (pv_i x2), some (pv_i x3), some (pv_i x4), some (pv_i x5), some (pv_i (0 : Int32)), some (pv_i v8)] [] (mm_si B I7) (qi_ (fun x M' => ∃ I', M' = mm_si B I' ∧ P x I'))
          refine go_aload_n dX11_bestLane_109 rfl ?_
          refine go_V (av := []) (st := []) (ci := 11) ok_X11_ends ⟨by decide, by decide⟩ ml_X11_288 rfl (by decide) (fun v hv => absurd hv List.not_mem_nil) (Nat.le_of_ble_eq_true rfl) (fun _ h => h) (by decide) rfl RK.1 dX11_bestLane_110 H (fun r M' hq _ => ?_)
          obtain ⟨rfl, I9, rfl, H⟩ := hq
          show go_W mt_X11_bestLane fr_R 113 [some (pv_r m), some (pv_i x1), some (pv_i x2), some (pv_i x3), some (pv_i x4), some (pv_i x5), some (pv_i (0 : Int32)), some (pv_i v8)] [] (mm_si B I9) (qi_ (fun x M' => ∃ I', M' = mm_si B I' ∧ P x I'))
          refine go_iload dX11_bestLane_113 rfl ?_
          refine go_iload dX11_bestLane_115 rfl ?_
          refine go_icmp_ge (tgt := 125) dX11_bestLane_117 (by decide) (fun hc => ?_) (fun hc => ?_)
          · replace H := H.1 hc
            refine go_iload_n dX11_bestLane_125 rfl ?_
            refine go_istore_n (by decide) dX11_bestLane_126 ?_
            show go_W mt_X11_bestLane fr_R 127 [some (pv_r m), some (pv_i x1), some (pv_i x2), some (pv_i x3), some (pv_i x4), some (pv_i x5), some (pv_i (0 : Int32)), some (pv_i v8)] [] (mm_si B I9) (qi_ (fun x M' => ∃ I', M' = mm_si B I' ∧ P x I'))
            refine go_iload dX11_bestLane_127 rfl ?_
            refine go_iload dX11_bestLane_129 rfl ?_
            refine go_St (av := [pv_i x4, pv_i v8]) (st := []) ok_X11_lesser ⟨by decide, by decide⟩ ml_X11_267 rfl (by decide) (fun v hv => by simp only [List.mem_cons, List.not_mem_nil, or_false] at hv; rcases hv with rfl | rfl <;> first | exact pv_1i | exact pv_1r) (Nat.le_of_ble_eq_true rfl) (fun _ h => h) dX11_bestLane_131 (rx_lesser RK) (fun r M' hq _ => ?_)
            obtain ⟨_, rfl, _, rfl, rfl, rfl⟩ := hq
            show go_W mt_X11_bestLane fr_R 134 [some (pv_r m), some (pv_i x1), some (pv_i x2), some (pv_i x3), some (pv_i x4), some (pv_i x5), some (pv_i (0 : Int32)), some (pv_i v8)] [pv_i (if v8 ≤ x4 then v8 else x4)] (mm_si B I9) (qi_ (fun x M' => ∃ I', M' = mm_si B I' ∧ P x I'))
            refine go_istore (by decide) dX11_bestLane_134 ?_
            show go_W mt_X11_bestLane fr_R 136 [some (pv_r m), some (pv_i x1), some (pv_i x2), some (pv_i x3), some (pv_i (if v8 ≤ x4 then v8 else x4)), some (pv_i x5), some (pv_i (0 : Int32)), some (pv_i v8)] [] (mm_si B I9) (qi_ (fun x M' => ∃ I', M' = mm_si B I' ∧ P x I'))
            refine go_iincN (n := n2) (k := 1) hn2 (by decide) rfl rfl dX11_bestLane_136 ?_
            show go_W mt_X11_bestLane fr_R 139 [some (pv_r m), some (pv_i x1), some (pv_i x2), some (pv_i x3), some (pv_i (if v8 ≤ x4 then v8 else x4)), some (pv_i (nI (n2 + 1))), some (pv_i (0 : Int32)), some (pv_i v8)] [] (mm_si B I9) (qi_ (fun x M' => ∃ I', M' = mm_si B I' ∧ P x I'))
            refine go_goto (tgt := 29) dX11_bestLane_139 (by decide) ?_
            exact go_fg (ls' := [some (pv_r m), some (pv_i x1), some (pv_i x2), some (pv_i x3), some (pv_i (if v8 ≤ x4 then v8 else x4)), some (pv_i (nI (n2 + 1))), none, none]) ⟨rfl, ⟨rfl, ⟨rfl, ⟨rfl, ⟨rfl, ⟨rfl, trivial⟩⟩⟩⟩⟩⟩ H
          · replace H := H.2 hc
            refine go_iload dX11_bestLane_120 rfl ?_
            refine go_goto (tgt := 126) dX11_bestLane_122 (by decide) ?_
            refine go_istore_n (by decide) dX11_bestLane_126 ?_
            show go_W mt_X11_bestLane fr_R 127 [some (pv_r m), some (pv_i x1), some (pv_i x2), some (pv_i x5), some (pv_i x4), some (pv_i x5), some (pv_i (0 : Int32)), some (pv_i v8)] [] (mm_si B I9) (qi_ (fun x M' => ∃ I', M' = mm_si B I' ∧ P x I'))
            refine go_iload dX11_bestLane_127 rfl ?_
            refine go_iload dX11_bestLane_129 rfl ?_
            refine go_St (av := [pv_i x4, pv_i v8]) (st := []) ok_X11_lesser ⟨by decide, by decide⟩ ml_X11_267 rfl (by decide) (fun v hv => by simp only [List.mem_cons, List.not_mem_nil, or_false] at hv; rcases hv with rfl | rfl <;> first | exact pv_1i | exact pv_1r) (Nat.le_of_ble_eq_true rfl) (fun _ h => h) dX11_bestLane_131 (rx_lesser RK) (fun r M' hq _ => ?_)
            obtain ⟨_, rfl, _, rfl, rfl, rfl⟩ := hq
            show go_W mt_X11_bestLane fr_R 134 [some (pv_r m), some (pv_i x1), some (pv_i x2), some (pv_i x5), some (pv_i x4), some (pv_i x5), some (pv_i (0 : Int32)), some (pv_i v8)] [pv_i (if v8 ≤ x4 then v8 else x4)] (mm_si B I9) (qi_ (fun x M' => ∃ I', M' = mm_si B I' ∧ P x I'))
            refine go_istore (by decide) dX11_bestLane_134 ?_
            show go_W mt_X11_bestLane fr_R 136 [some (pv_r m), some (pv_i x1), some (pv_i x2), some (pv_i x5), some (pv_i (if v8 ≤ x4 then v8 else x4)), some (pv_i x5), some (pv_i (0 : Int32)), some (pv_i v8)] [] (mm_si B I9) (qi_ (fun x M' => ∃ I', M' = mm_si B I' ∧ P x I'))
            refine go_iincN (n := n2) (k := 1) hn2 (by decide) rfl rfl dX11_bestLane_136 ?_
            show go_W mt_X11_bestLane fr_R 139 [some (pv_r m), some (pv_i x1), some (pv_i x2), some (pv_i x5), some (pv_i (if v8 ≤ x4 then v8 else x4)), some (pv_i (nI (n2 + 1))), some (pv_i (0 : Int32)), some (pv_i v8)] [] (mm_si B I9) (qi_ (fun x M' => ∃ I', M' = mm_si B I' ∧ P x I'))
            refine go_goto (tgt := 29) dX11_bestLane_139 (by decide) ?_
            exact go_fg (ls' := [some (pv_r m), some (pv_i x1), some (pv_i x2), some (pv_i x5), some (pv_i (if v8 ≤ x4 then v8 else x4)), some (pv_i (nI (n2 + 1))), none, none]) ⟨rfl, ⟨rfl, ⟨rfl, ⟨rfl, ⟨rfl, ⟨rfl, trivial⟩⟩⟩⟩⟩⟩ H
        · replace H := H.2 hc
          refine go_goto (tgt := 136) dX11_bestLane_82 (by decide) ?_
          refine go_iincN (n := n2) (k := 1) hn2 (by decide) rfl rfl dX11_bestLane_136 ?_
          show go_W mt_X11_bestLane fr_R 139 [some (pv_r m), some (pv_i x1), some (pv_i x2), some (pv_i x3), some (pv_i x4), some (pv_i (nI (n2 + 1))), some (pv_i (0 : Int32)), none] [] (mm_si B I3) (qi_ (fun x M' => ∃ I', M' = mm_si B I' ∧ P x I'))
          refine go_goto (tgt := 29) dX11_bestLane_139 (by decide) ?_
          exact go_fg (ls' := [some (pv_r m), some (pv_i x1), some (pv_i x2), some (pv_i x3), some (pv_i x4), some (pv_i (nI (n2 + 1))), none, none]) ⟨rfl, ⟨rfl, ⟨rfl, ⟨rfl, ⟨rfl, ⟨rfl, trivial⟩⟩⟩⟩⟩⟩ H
    · replace H := H.2 hc
      refine go_iconst (v := (1 : Int32)) rfl dX11_bestLane_46 ?_
      refine go_goto (tgt := 51) dX11_bestLane_47 (by decide) ?_
      refine go_istore (by decide) dX11_bestLane_51 ?_
      show go_W mt_X11_bestLane fr_R 53 [some (pv_r m), some (pv_i x1), some (pv_i x2), some (pv_i x3), some (pv_i x4), some (pv_i x5), some (pv_i (1 : Int32)), none] [] (mm_si B I) (qi_ (fun x M' => ∃ I', M' = mm_si B I' ∧ P x I'))
      refine go_iload dX11_bestLane_53 rfl ?_
      refine go_if_ne (tgt := 85) dX11_bestLane_55 (by decide) (fun _ => ?_) (fun hc => absurd hc (by decide))
      refine go_aload_n dX11_bestLane_85 rfl ?_
      refine go_V (av := []) (st := []) (ci := 11) ok_X11_begins ⟨by decide, by decide⟩ ml_X11_282 rfl (by decide) (fun v hv => absurd hv List.not_mem_nil) (Nat.le_of_ble_eq_true rfl) (fun _ h => h) (by decide) rfl RK.1 dX11_bestLane_86 H (fun r M' hq _ => ?_)
      obtain ⟨rfl, I10, rfl, H⟩ := hq
      show go_W mt_X11_bestLane fr_R 89 [some (pv_r m), some (pv_i x1), some (pv_i x2), some (pv_i x3), some (pv_i x4), some (pv_i x5), some (pv_i (1 : Int32)), none] [] (mm_si B I10) (qi_ (fun x M' => ∃ I', M' = mm_si B I' ∧ P x I'))
      refine go_iload dX11_bestLane_89 rfl ?_
      refine go_if_ne (tgt := 101) dX11_bestLane_91 (by decide) (fun _ => ?_) (fun hc => absurd hc (by decide))
      refine go_aload_n dX11_bestLane_101 rfl ?_
      refine go_iconst (v := (-1 : Int32)) rfl dX11_bestLane_102 ?_
      refine go_iload_n dX11_bestLane_103 rfl ?_
      refine go_V (av := [pv_i (-1 : Int32), pv_i x1]) (st := []) (ci := 11) ok_X11_takenOn ⟨by decide, by decide⟩ ml_X11_285 rfl (by decide) (fun v hv => by simp only [List.mem_cons, List.not_mem_nil, or_false] at hv; rcases hv with rfl | rfl <;> first | exact pv_1i | exact pv_1r) (Nat.le_of_ble_eq_true rfl) (fun _ h => h) (by decide) rfl RK.1 dX11_bestLane_104 H (fun r M' hq _ => ?_)
      obtain ⟨v12, rfl, I11, rfl, H⟩ := hq
      show go_W mt_X11_bestLane fr_R 107 [some (pv_r m), some (pv_i x1), some (pv_i x2), some (pv_i x3), some (pv_i x4), some (pv_i x5), some (pv_i (1 : Int32)), none] [pv_i v12] (mm_si B I11) (qi_ (fun x M' => ∃ I', M' = mm_si B I' ∧ P x I'))
      refine go_istore (by decide) dX11_bestLane_107 ?_
      show go_W mt_X11_bestLane fr_R 109 [some (pv_r m), some (pv_i x1), some (pv_i x2), some (pv_i x3), some (pv_i x4), some (pv_i x5), some (pv_i (1 : Int32)), some (pv_i v12)] [] (mm_si B I11) (qi_ (fun x M' => ∃ I', M' = mm_si B I' ∧ P x I'))
      refine go_aload_n dX11_bestLane_109 rfl ?_
      refine go_V (av := []) (st := []) (ci := 11) ok_X11_ends ⟨by decide, by decide⟩ ml_X11_288 rfl (by decide) (fun v hv => absurd hv List.not_mem_nil) (Nat.le_of_ble_eq_true rfl) (fun _ h => h) (by decide) rfl RK.1 dX11_bestLane_110 H (fun r M' hq _ => ?_)
      obtain ⟨rfl, I13, rfl, H⟩ := hq
      show go_W mt_X11_bestLane fr_R 113 [some (pv_r m), some (pv_i x1), some (pv_i x2), some (pv_i x3), some (pv_i x4), some (pv_i x5), some (pv_i (1 : Int32)), some (pv_i v12)] [] (mm_si B I13) (qi_ (fun x M' => ∃ I', M' = mm_si B I' ∧ P x I'))
      refine go_iload dX11_bestLane_113 rfl ?_
      refine go_iload dX11_bestLane_115 rfl ?_
      refine go_icmp_ge (tgt := 125) dX11_bestLane_117 (by decide) (fun hc => ?_) (fun hc => ?_)
      · replace H := H.1 hc
        refine go_iload_n dX11_bestLane_125 rfl ?_
        refine go_istore_n (by decide) dX11_bestLane_126 ?_
        show go_W mt_X11_bestLane fr_R 127 [some (pv_r m), some (pv_i x1), some (pv_i x2), some (pv_i x3), some (pv_i x4), some (pv_i x5), some (pv_i (1 : Int32)), some (pv_i v12)] [] (mm_si B I13) (qi_ (fun x M' => ∃ I', M' = mm_si B I' ∧ P x I'))
        refine go_iload dX11_bestLane_127 rfl ?_
        refine go_iload dX11_bestLane_129 rfl ?_
        refine go_St (av := [pv_i x4, pv_i v12]) (st := []) ok_X11_lesser ⟨by decide, by decide⟩ ml_X11_267 rfl (by decide) (fun v hv => by simp only [List.mem_cons, List.not_mem_nil, or_false] at hv; rcases hv with rfl | rfl <;> first | exact pv_1i | exact pv_1r) (Nat.le_of_ble_eq_true rfl) (fun _ h => h) dX11_bestLane_131 (rx_lesser RK) (fun r M' hq _ => ?_)
        obtain ⟨_, rfl, _, rfl, rfl, rfl⟩ := hq
        show go_W mt_X11_bestLane fr_R 134 [some (pv_r m), some (pv_i x1), some (pv_i x2), some (pv_i x3), some (pv_i x4), some (pv_i x5), some (pv_i (1 : Int32)), some (pv_i v12)] [pv_i (if v12 ≤ x4 then v12 else x4)] (mm_si B I13) (qi_ (fun x M' => ∃ I', M' = mm_si B I' ∧ P x I'))
        refine go_istore (by decide) dX11_bestLane_134 ?_
        show go_W mt_X11_bestLane fr_R 136 [some (pv_r m), some (pv_i x1), some (pv_i x2), some (pv_i x3), some (pv_i (if v12 ≤ x4 then v12 else x4)), some (pv_i x5), some (pv_i (1 : Int32)), some (pv_i v12)] [] (mm_si B I13) (qi_ (fun x M' => ∃ I', M' = mm_si B I' ∧ P x I'))
        refine go_iinc (v := (1 : Int32)) (by decide) rfl rfl dX11_bestLane_136 ?_
        show go_W mt_X11_bestLane fr_R 139 [some (pv_r m), some (pv_i x1), some (pv_i x2), some (pv_i x3), some (pv_i (if v12 ≤ x4 then v12 else x4)), some (pv_i (x5 + (1 : Int32))), some (pv_i (1 : Int32)), some (pv_i v12)] [] (mm_si B I13) (qi_ (fun x M' => ∃ I', M' = mm_si B I' ∧ P x I'))
        refine go_goto (tgt := 29) dX11_bestLane_139 (by decide) ?_
        exact go_fg (ls' := [some (pv_r m), some (pv_i x1), some (pv_i x2), some (pv_i x3), some (pv_i (if v12 ≤ x4 then v12 else x4)), some (pv_i (x5 + (1 : Int32))), none, none]) ⟨rfl, ⟨rfl, ⟨rfl, ⟨rfl, ⟨rfl, ⟨rfl, trivial⟩⟩⟩⟩⟩⟩ H
      · replace H := H.2 hc
        refine go_iload dX11_bestLane_120 rfl ?_
        refine go_goto (tgt := 126) dX11_bestLane_122 (by decide) ?_
        refine go_istore_n (by decide) dX11_bestLane_126 ?_
        show go_W mt_X11_bestLane fr_R 127 [some (pv_r m), some (pv_i x1), some (pv_i x2), some (pv_i x5), some (pv_i x4), some (pv_i x5), some (pv_i (1 : Int32)), some (pv_i v12)] [] (mm_si B I13) (qi_ (fun x M' => ∃ I', M' = mm_si B I' ∧ P x I'))
        refine go_iload dX11_bestLane_127 rfl ?_
        refine go_iload dX11_bestLane_129 rfl ?_
        refine go_St (av := [pv_i x4, pv_i v12]) (st := []) ok_X11_lesser ⟨by decide, by decide⟩ ml_X11_267 rfl (by decide) (fun v hv => by simp only [List.mem_cons, List.not_mem_nil, or_false] at hv; rcases hv with rfl | rfl <;> first | exact pv_1i | exact pv_1r) (Nat.le_of_ble_eq_true rfl) (fun _ h => h) dX11_bestLane_131 (rx_lesser RK) (fun r M' hq _ => ?_)
        obtain ⟨_, rfl, _, rfl, rfl, rfl⟩ := hq
        show go_W mt_X11_bestLane fr_R 134 [some (pv_r m), some (pv_i x1), some (pv_i x2), some (pv_i x5), some (pv_i x4), some (pv_i x5), some (pv_i (1 : Int32)), some (pv_i v12)] [pv_i (if v12 ≤ x4 then v12 else x4)] (mm_si B I13) (qi_ (fun x M' => ∃ I', M' = mm_si B I' ∧ P x I'))
        refine go_istore (by decide) dX11_bestLane_134 ?_
        show go_W mt_X11_bestLane fr_R 136 [some (pv_r m), some (pv_i x1), some (pv_i x2), some (pv_i x5), some (pv_i (if v12 ≤ x4 then v12 else x4)), some (pv_i x5), some (pv_i (1 : Int32)), some (pv_i v12)] [] (mm_si B I13) (qi_ (fun x M' => ∃ I', M' = mm_si B I' ∧ P x I'))
        refine go_iinc (v := (1 : Int32)) (by decide) rfl rfl dX11_bestLane_136 ?_
        show go_W mt_X11_bestLane fr_R 139 [some (pv_r m), some (pv_i x1), some (pv_i x2), some (pv_i x5), some (pv_i (if v12 ≤ x4 then v12 else x4)), some (pv_i (x5 + (1 : Int32))), some (pv_i (1 : Int32)), some (pv_i v12)] [] (mm_si B I13) (qi_ (fun x M' => ∃ I', M' = mm_si B I' ∧ P x I'))
        refine go_goto (tgt := 29) dX11_bestLane_139 (by decide) ?_
        exact go_fg (ls' := [some (pv_r m), some (pv_i x1), some (pv_i x2), some (pv_i x5), some (pv_i (if v12 ≤ x4 then v12 else x4)), some (pv_i (x5 + (1 : Int32))), none, none]) ⟨rfl, ⟨rfl, ⟨rfl, ⟨rfl, ⟨rfl, ⟨rfl, trivial⟩⟩⟩⟩⟩⟩ H
set_option maxRecDepth 20000 in
theorem wq_X11_chain_0 {B : mm_T} {I : Nat → Nat → Int32} {m : Nat} (RK : rf_ok B m) {x1 x2 : Int32} {P : Int32 → (Nat → Nat → Int32) → Prop} (H : ((((0 ≤ x1 ∧ x1 ≤ I (m + 1) 1 - 1)) → (((((0 : Int32) ≤ x2 ∧ x2 ≤ (1 : Int32))) → ∃ n1, (x1 = nI n1 ∧ n1 < 400) ∧ (rw_i mt_X11_chain 37 [some (pv_r m), some (pv_i x1), some (pv_i x2), some (pv_i (I (m + 1) (200 + 14 * n1 + 2))), some (pv_i (1 : Int32)), some (pv_i (I (m + 1) (200 + 14 * n1 + 4)))] [] B I P)) ∧ ((¬ ((0 : Int32) ≤ x2 ∧ x2 ≤ (1 : Int32))) → P (-1 : Int32) I))) ∧ ((¬ (0 ≤ x1 ∧ x1 ≤ I (m + 1) 1 - 1)) → P (-1 : Int32) I))) : rw_i mt_X11_chain 0 [some (pv_r m), some (pv_i x1), some (pv_i x2), none, none, none] [] B I P := by
  refine go_aload_n dX11_chain_0 rfl ?_
  refine go_iload_n dX11_chain_1 rfl ?_
  by_cases hc : (0 ≤ x1 ∧ x1 ≤ I (m + 1) 1 - 1)
  · replace H := H.1 hc
    refine go_V (av := [pv_i x1]) (st := []) (ci := 11) ok_X11_isTask ⟨by decide, by decide⟩ ml_X11_161 rfl (by decide) (fun v hv => by simp only [List.mem_cons, List.not_mem_nil, or_false] at hv; rcases hv with rfl <;> first | exact pv_1i | exact pv_1r) (Nat.le_of_ble_eq_true rfl) (fun _ h => h) (by decide) rfl RK.1 dX11_chain_2 (rx_isTask_t RK hc) (fun r M' hq _ => ?_)
    obtain ⟨_, rfl, _, rfl, rfl, rfl⟩ := hq
    show go_W mt_X11_chain fr_R 5 [some (pv_r m), some (pv_i x1), some (pv_i x2), none, none, none] [pv_i (1 : Int32)] (mm_si B I) (qi_ (fun x M' => ∃ I', M' = mm_si B I' ∧ P x I'))
    refine go_if_eq (tgt := 17) dX11_chain_5 (by decide) (fun hc => absurd hc (by decide)) (fun _ => ?_)
    refine go_iload_n dX11_chain_8 rfl ?_
    refine go_iconst (v := (0 : Int32)) rfl dX11_chain_9 ?_
    refine go_iconst (v := (1 : Int32)) rfl dX11_chain_10 ?_
    by_cases hc : ((0 : Int32) ≤ x2 ∧ x2 ≤ (1 : Int32))
    · replace H := H.1 hc
      refine go_St (av := [pv_i x2, pv_i (0 : Int32), pv_i (1 : Int32)]) (st := []) ok_X11_isIn ⟨by decide, by decide⟩ ml_X11_90 rfl (by decide) (fun v hv => by simp only [List.mem_cons, List.not_mem_nil, or_false] at hv; rcases hv with rfl | rfl | rfl <;> first | exact pv_1i | exact pv_1r) (Nat.le_of_ble_eq_true rfl) (fun _ h => h) dX11_chain_11 (rx_isIn_t RK hc) (fun r M' hq _ => ?_)
      obtain ⟨_, rfl, _, rfl, rfl, rfl⟩ := hq
      show go_W mt_X11_chain fr_R 14 [some (pv_r m), some (pv_i x1), some (pv_i x2), none, none, none] [pv_i (1 : Int32)] (mm_si B I) (qi_ (fun x M' => ∃ I', M' = mm_si B I' ∧ P x I'))
      refine go_if_ne (tgt := 19) dX11_chain_14 (by decide) (fun _ => ?_) (fun hc => absurd hc (by decide))
      refine go_aload_n dX11_chain_19 rfl ?_
      refine go_iload_n dX11_chain_20 rfl ?_
      refine go_iconst (v := (2 : Int32)) rfl dX11_chain_21 ?_
      obtain ⟨n1, ⟨hn1, hn1b⟩, H⟩ := H
      refine go_V (av := [pv_i x1, pv_i (2 : Int32)]) (st := []) (ci := 11) ok_X11_of ⟨by decide, by decide⟩ ml_X11_94 rfl (by decide) (fun v hv => by simp only [List.mem_cons, List.not_mem_nil, or_false] at hv; rcases hv with rfl | rfl <;> first | exact pv_1i | exact pv_1r) (Nat.le_of_ble_eq_true rfl) (fun _ h => h) (by decide) rfl RK.1 dX11_chain_22 (rx_of RK hn1 rfl hn1b (by decide)) (fun r M' hq _ => ?_)
      obtain ⟨_, rfl, _, rfl, rfl, rfl⟩ := hq
      show go_W mt_X11_chain fr_R 25 [some (pv_r m), some (pv_i x1), some (pv_i x2), none, none, none] [pv_i (I (m + 1) (200 + 14 * n1 + 2))] (mm_si B I) (qi_ (fun x M' => ∃ I', M' = mm_si B I' ∧ P x I'))
      refine go_istore_n (by decide) dX11_chain_25 ?_
      show go_W mt_X11_chain fr_R 26 [some (pv_r m), some (pv_i x1), some (pv_i x2), some (pv_i (I (m + 1) (200 + 14 * n1 + 2))), none, none] [] (mm_si B I) (qi_ (fun x M' => ∃ I', M' = mm_si B I' ∧ P x I'))
      refine go_iconst (v := (1 : Int32)) rfl dX11_chain_26 ?_
      refine go_istore (by decide) dX11_chain_27 ?_
      show go_W mt_X11_chain fr_R 29 [some (pv_r m), some (pv_i x1), some (pv_i x2), some (pv_i (I (m + 1) (200 + 14 * n1 + 2))), some (pv_i (1 : Int32)), none] [] (mm_si B I) (qi_ (fun x M' => ∃ I', M' = mm_si B I' ∧ P x I'))
      refine go_aload_n dX11_chain_29 rfl ?_
      refine go_iload_n dX11_chain_30 rfl ?_
      refine go_iconst (v := (4 : Int32)) rfl dX11_chain_31 ?_
      refine go_V (av := [pv_i x1, pv_i (4 : Int32)]) (st := []) (ci := 11) ok_X11_of ⟨by decide, by decide⟩ ml_X11_94 rfl (by decide) (fun v hv => by simp only [List.mem_cons, List.not_mem_nil, or_false] at hv; rcases hv with rfl | rfl <;> first | exact pv_1i | exact pv_1r) (Nat.le_of_ble_eq_true rfl) (fun _ h => h) (by decide) rfl RK.1 dX11_chain_32 (rx_of RK hn1 rfl (by omega) (by decide)) (fun r M' hq _ => ?_)
      obtain ⟨_, rfl, _, rfl, rfl, rfl⟩ := hq
      show go_W mt_X11_chain fr_R 35 [some (pv_r m), some (pv_i x1), some (pv_i x2), some (pv_i (I (m + 1) (200 + 14 * n1 + 2))), some (pv_i (1 : Int32)), none] [pv_i (I (m + 1) (200 + 14 * n1 + 4))] (mm_si B I) (qi_ (fun x M' => ∃ I', M' = mm_si B I' ∧ P x I'))
      refine go_istore (by decide) dX11_chain_35 ?_
      show go_W mt_X11_chain fr_R 37 [some (pv_r m), some (pv_i x1), some (pv_i x2), some (pv_i (I (m + 1) (200 + 14 * n1 + 2))), some (pv_i (1 : Int32)), some (pv_i (I (m + 1) (200 + 14 * n1 + 4)))] [] (mm_si B I) (qi_ (fun x M' => ∃ I', M' = mm_si B I' ∧ P x I'))
      exact H
    · replace H := H.2 hc
      refine go_St (av := [pv_i x2, pv_i (0 : Int32), pv_i (1 : Int32)]) (st := []) ok_X11_isIn ⟨by decide, by decide⟩ ml_X11_90 rfl (by decide) (fun v hv => by simp only [List.mem_cons, List.not_mem_nil, or_false] at hv; rcases hv with rfl | rfl | rfl <;> first | exact pv_1i | exact pv_1r) (Nat.le_of_ble_eq_true rfl) (fun _ h => h) dX11_chain_11 (rx_isIn_f RK hc) (fun r M' hq _ => ?_)
      obtain ⟨_, rfl, _, rfl, rfl, rfl⟩ := hq
      show go_W mt_X11_chain fr_R 14 [some (pv_r m), some (pv_i x1), some (pv_i x2), none, none, none] [pv_i (0 : Int32)] (mm_si B I) (qi_ (fun x M' => ∃ I', M' = mm_si B I' ∧ P x I'))
      refine go_if_ne (tgt := 19) dX11_chain_14 (by decide) (fun hc => absurd hc (by decide)) (fun _ => ?_)
      refine go_iconst (v := (-1 : Int32)) rfl dX11_chain_17 ?_
      exact go_iret rfl rfl dX11_chain_18 ⟨_, rfl, _, rfl, H⟩
  · replace H := H.2 hc
    refine go_V (av := [pv_i x1]) (st := []) (ci := 11) ok_X11_isTask ⟨by decide, by decide⟩ ml_X11_161 rfl (by decide) (fun v hv => by simp only [List.mem_cons, List.not_mem_nil, or_false] at hv; rcases hv with rfl <;> first | exact pv_1i | exact pv_1r) (Nat.le_of_ble_eq_true rfl) (fun _ h => h) (by decide) rfl RK.1 dX11_chain_2 (rx_isTask_f RK hc) (fun r M' hq _ => ?_)
    obtain ⟨_, rfl, _, rfl, rfl, rfl⟩ := hq
    show go_W mt_X11_chain fr_R 5 [some (pv_r m), some (pv_i x1), some (pv_i x2), none, none, none] [pv_i (0 : Int32)] (mm_si B I) (qi_ (fun x M' => ∃ I', M' = mm_si B I' ∧ P x I'))
    refine go_if_eq (tgt := 17) dX11_chain_5 (by decide) (fun _ => ?_) (fun hc => absurd hc (by decide))
    refine go_iconst (v := (-1 : Int32)) rfl dX11_chain_17 ?_
    exact go_iret rfl rfl dX11_chain_18 ⟨_, rfl, _, rfl, H⟩
set_option maxRecDepth 20000 in
theorem wq_X11_chain_37 {B : mm_T} {I : Nat → Nat → Int32} {m : Nat} (RK : rf_ok B m) {x1 x2 x3 x4 x5 : Int32} {P : Int32 → (Nat → Nat → Int32) → Prop} (H : (((x5 = (-1 : Int32)) → (((¬ x2 = 0) → P x4 I) ∧ ((x2 = 0) → P x3 I))) ∧ ((¬ x5 = (-1 : Int32)) → ∃ n1, (x5 = nI n1 ∧ n1 < 400) ∧ ((((I (m + 1) (200 + 14 * n1 + 6) = (4 : Int32)) → (((¬ x2 = 0) → P x4 I) ∧ ((x2 = 0) → P x3 I))) ∧ ((¬ I (m + 1) (200 + 14 * n1 + 6) = (4 : Int32)) → rw_i mt_X11_chain 37 [some (pv_r m), some (pv_i x1), some (pv_i x2), some (pv_i (x3 + I (m + 1) (200 + 14 * n1 + 2))), some (pv_i (x4 + (1 : Int32))), some (pv_i (I (m + 1) (200 + 14 * n1 + 4)))] [] B I P)))))) : rw_i mt_X11_chain 37 [some (pv_r m), some (pv_i x1), some (pv_i x2), some (pv_i x3), some (pv_i x4), some (pv_i x5)] [] B I P := by
  refine go_iload dX11_chain_37 rfl ?_
  refine go_iconst (v := (-1 : Int32)) rfl dX11_chain_39 ?_
  refine go_icmp_eq (tgt := 80) dX11_chain_40 (by decide) (fun hc => ?_) (fun hc => ?_)
  · replace H := H.1 hc
    refine go_iload_n dX11_chain_80 rfl ?_
    refine go_if_ne (tgt := 88) dX11_chain_81 (by decide) (fun hc => ?_) (fun hc => ?_)
    · replace H := H.1 hc
      refine go_iload dX11_chain_88 rfl ?_
      exact go_iret rfl rfl dX11_chain_90 ⟨_, rfl, _, rfl, H⟩
    · replace H := H.2 hc
      refine go_iload_n dX11_chain_84 rfl ?_
      refine go_goto (tgt := 90) dX11_chain_85 (by decide) ?_
      exact go_iret rfl rfl dX11_chain_90 ⟨_, rfl, _, rfl, H⟩
  · replace H := H.2 hc
    refine go_aload_n dX11_chain_43 rfl ?_
    refine go_iload dX11_chain_44 rfl ?_
    refine go_bipush (v := (6 : Int32)) rfl dX11_chain_46 ?_
    obtain ⟨n1, ⟨hn1, hn1b⟩, H⟩ := H
    refine go_V (av := [pv_i x5, pv_i (6 : Int32)]) (st := []) (ci := 11) ok_X11_of ⟨by decide, by decide⟩ ml_X11_94 rfl (by decide) (fun v hv => by simp only [List.mem_cons, List.not_mem_nil, or_false] at hv; rcases hv with rfl | rfl <;> first | exact pv_1i | exact pv_1r) (Nat.le_of_ble_eq_true rfl) (fun _ h => h) (by decide) rfl RK.1 dX11_chain_48 (rx_of RK hn1 rfl hn1b (by decide)) (fun r M' hq _ => ?_)
    obtain ⟨_, rfl, _, rfl, rfl, rfl⟩ := hq
    show go_W mt_X11_chain fr_R 51 [some (pv_r m), some (pv_i x1), some (pv_i x2), some (pv_i x3), some (pv_i x4), some (pv_i x5)] [pv_i (I (m + 1) (200 + 14 * n1 + 6))] (mm_si B I) (qi_ (fun x M' => ∃ I', M' = mm_si B I' ∧ P x I'))
    refine go_iconst (v := (4 : Int32)) rfl dX11_chain_51 ?_
    refine go_icmp_eq (tgt := 80) dX11_chain_52 (by decide) (fun hc => ?_) (fun hc => ?_)
    · replace H := H.1 hc
      refine go_iload_n dX11_chain_80 rfl ?_
      refine go_if_ne (tgt := 88) dX11_chain_81 (by decide) (fun hc => ?_) (fun hc => ?_)
      · replace H := H.1 hc
        refine go_iload dX11_chain_88 rfl ?_
        exact go_iret rfl rfl dX11_chain_90 ⟨_, rfl, _, rfl, H⟩
      · replace H := H.2 hc
        refine go_iload_n dX11_chain_84 rfl ?_
        refine go_goto (tgt := 90) dX11_chain_85 (by decide) ?_
        exact go_iret rfl rfl dX11_chain_90 ⟨_, rfl, _, rfl, H⟩
    · replace H := H.2 hc
      refine go_iload_n dX11_chain_55 rfl ?_
      refine go_aload_n dX11_chain_56 rfl ?_
      refine go_iload dX11_chain_57 rfl ?_
      refine go_iconst (v := (2 : Int32)) rfl dX11_chain_59 ?_
      refine go_V (av := [pv_i x5, pv_i (2 : Int32)]) (st := [pv_i x3]) (ci := 11) ok_X11_of ⟨by decide, by decide⟩ ml_X11_94 rfl (by decide) (fun v hv => by simp only [List.mem_cons, List.not_mem_nil, or_false] at hv; rcases hv with rfl | rfl <;> first | exact pv_1i | exact pv_1r) (Nat.le_of_ble_eq_true rfl) (fun _ h => h) (by decide) rfl RK.1 dX11_chain_60 (rx_of RK hn1 rfl (by omega) (by decide)) (fun r M' hq _ => ?_)
      obtain ⟨_, rfl, _, rfl, rfl, rfl⟩ := hq
      show go_W mt_X11_chain fr_R 63 [some (pv_r m), some (pv_i x1), some (pv_i x2), some (pv_i x3), some (pv_i x4), some (pv_i x5)] [pv_i (I (m + 1) (200 + 14 * n1 + 2)), pv_i x3] (mm_si B I) (qi_ (fun x M' => ∃ I', M' = mm_si B I' ∧ P x I'))
      refine go_iadd dX11_chain_63 ?_
      refine go_istore_n (by decide) dX11_chain_64 ?_
      show go_W mt_X11_chain fr_R 65 [some (pv_r m), some (pv_i x1), some (pv_i x2), some (pv_i (x3 + I (m + 1) (200 + 14 * n1 + 2))), some (pv_i x4), some (pv_i x5)] [] (mm_si B I) (qi_ (fun x M' => ∃ I', M' = mm_si B I' ∧ P x I'))
      refine go_iinc (v := (1 : Int32)) (by decide) rfl rfl dX11_chain_65 ?_
      show go_W mt_X11_chain fr_R 68 [some (pv_r m), some (pv_i x1), some (pv_i x2), some (pv_i (x3 + I (m + 1) (200 + 14 * n1 + 2))), some (pv_i (x4 + (1 : Int32))), some (pv_i x5)] [] (mm_si B I) (qi_ (fun x M' => ∃ I', M' = mm_si B I' ∧ P x I'))
      refine go_aload_n dX11_chain_68 rfl ?_
      refine go_iload dX11_chain_69 rfl ?_
      refine go_iconst (v := (4 : Int32)) rfl dX11_chain_71 ?_
      refine go_V (av := [pv_i x5, pv_i (4 : Int32)]) (st := []) (ci := 11) ok_X11_of ⟨by decide, by decide⟩ ml_X11_94 rfl (by decide) (fun v hv => by simp only [List.mem_cons, List.not_mem_nil, or_false] at hv; rcases hv with rfl | rfl <;> first | exact pv_1i | exact pv_1r) (Nat.le_of_ble_eq_true rfl) (fun _ h => h) (by decide) rfl RK.1 dX11_chain_72 (rx_of RK hn1 rfl (by omega) (by decide)) (fun r M' hq _ => ?_)
      obtain ⟨_, rfl, _, rfl, rfl, rfl⟩ := hq
      show go_W mt_X11_chain fr_R 75 [some (pv_r m), some (pv_i x1), some (pv_i x2), some (pv_i (x3 + I (m + 1) (200 + 14 * n1 + 2))), some (pv_i (x4 + (1 : Int32))), some (pv_i x5)] [pv_i (I (m + 1) (200 + 14 * n1 + 4))] (mm_si B I) (qi_ (fun x M' => ∃ I', M' = mm_si B I' ∧ P x I'))
      refine go_istore (by decide) dX11_chain_75 ?_
      show go_W mt_X11_chain fr_R 77 [some (pv_r m), some (pv_i x1), some (pv_i x2), some (pv_i (x3 + I (m + 1) (200 + 14 * n1 + 2))), some (pv_i (x4 + (1 : Int32))), some (pv_i (I (m + 1) (200 + 14 * n1 + 4)))] [] (mm_si B I) (qi_ (fun x M' => ∃ I', M' = mm_si B I' ∧ P x I'))
      refine go_goto (tgt := 37) dX11_chain_77 (by decide) ?_
      exact H
set_option maxRecDepth 20000 in
theorem wq_X11_lapse_0 {B : mm_T} {I : Nat → Nat → Int32} {m : Nat} (RK : rf_ok B m) {x1 x2 : Int32} {P : Int32 → (Nat → Nat → Int32) → Prop} (H : (((((1 : Int32) ≤ x1 ∧ x1 ≤ (99 : Int32))) → (((((0 : Int32) ≤ x2 ∧ x2 ≤ (2 : Int32))) → rs_v mt_X11_begins [pv_r m] B I (fun I1 => rw_i mt_X11_lapse 27 [some (pv_r m), some (pv_i x1), some (pv_i x2), some (pv_i (0 : Int32))] [] B I1 P)) ∧ ((¬ ((0 : Int32) ≤ x2 ∧ x2 ≤ (2 : Int32))) → P (-1 : Int32) I))) ∧ ((¬ ((1 : Int32) ≤ x1 ∧ x1 ≤ (99 : Int32))) → P (-1 : Int32) I))) : rw_i mt_X11_lapse 0 [some (pv_r m), some (pv_i x1), some (pv_i x2), none] [] B I P := by
  refine go_iload_n dX11_lapse_0 rfl ?_
  refine go_iconst (v := (1 : Int32)) rfl dX11_lapse_1 ?_
  refine go_bipush (v := (99 : Int32)) rfl dX11_lapse_2 ?_
  by_cases hc : ((1 : Int32) ≤ x1 ∧ x1 ≤ (99 : Int32))
  · replace H := H.1 hc
    refine go_St (av := [pv_i x1, pv_i (1 : Int32), pv_i (99 : Int32)]) (st := []) ok_X11_isIn ⟨by decide, by decide⟩ ml_X11_90 rfl (by decide) (fun v hv => by simp only [List.mem_cons, List.not_mem_nil, or_false] at hv; rcases hv with rfl | rfl | rfl <;> first | exact pv_1i | exact pv_1r) (Nat.le_of_ble_eq_true rfl) (fun _ h => h) dX11_lapse_4 (rx_isIn_t RK hc) (fun r M' hq _ => ?_)
    obtain ⟨_, rfl, _, rfl, rfl, rfl⟩ := hq
    show go_W mt_X11_lapse fr_R 7 [some (pv_r m), some (pv_i x1), some (pv_i x2), none] [pv_i (1 : Int32)] (mm_si B I) (qi_ (fun x M' => ∃ I', M' = mm_si B I' ∧ P x I'))
    refine go_if_eq (tgt := 19) dX11_lapse_7 (by decide) (fun hc => absurd hc (by decide)) (fun _ => ?_)
    refine go_iload_n dX11_lapse_10 rfl ?_
    refine go_iconst (v := (0 : Int32)) rfl dX11_lapse_11 ?_
    refine go_iconst (v := (2 : Int32)) rfl dX11_lapse_12 ?_
    by_cases hc : ((0 : Int32) ≤ x2 ∧ x2 ≤ (2 : Int32))
    · replace H := H.1 hc
      refine go_St (av := [pv_i x2, pv_i (0 : Int32), pv_i (2 : Int32)]) (st := []) ok_X11_isIn ⟨by decide, by decide⟩ ml_X11_90 rfl (by decide) (fun v hv => by simp only [List.mem_cons, List.not_mem_nil, or_false] at hv; rcases hv with rfl | rfl | rfl <;> first | exact pv_1i | exact pv_1r) (Nat.le_of_ble_eq_true rfl) (fun _ h => h) dX11_lapse_13 (rx_isIn_t RK hc) (fun r M' hq _ => ?_)
      obtain ⟨_, rfl, _, rfl, rfl, rfl⟩ := hq
      show go_W mt_X11_lapse fr_R 16 [some (pv_r m), some (pv_i x1), some (pv_i x2), none] [pv_i (1 : Int32)] (mm_si B I) (qi_ (fun x M' => ∃ I', M' = mm_si B I' ∧ P x I'))
      refine go_if_ne (tgt := 21) dX11_lapse_16 (by decide) (fun _ => ?_) (fun hc => absurd hc (by decide))
      refine go_aload_n dX11_lapse_21 rfl ?_
      refine go_V (av := []) (st := []) (ci := 11) ok_X11_begins ⟨by decide, by decide⟩ ml_X11_282 rfl (by decide) (fun v hv => absurd hv List.not_mem_nil) (Nat.le_of_ble_eq_true rfl) (fun _ h => h) (by decide) rfl RK.1 dX11_lapse_22 H (fun r M' hq _ => ?_)
      obtain ⟨rfl, I1, rfl, H⟩ := hq
      show go_W mt_X11_lapse fr_R 25 [some (pv_r m), some (pv_i x1), some (pv_i x2), none] [] (mm_si B I1) (qi_ (fun x M' => ∃ I', M' = mm_si B I' ∧ P x I'))
      refine go_iconst (v := (0 : Int32)) rfl dX11_lapse_25 ?_
      refine go_istore_n (by decide) dX11_lapse_26 ?_
      show go_W mt_X11_lapse fr_R 27 [some (pv_r m), some (pv_i x1), some (pv_i x2), some (pv_i (0 : Int32))] [] (mm_si B I1) (qi_ (fun x M' => ∃ I', M' = mm_si B I' ∧ P x I'))
      exact H
    · replace H := H.2 hc
      refine go_St (av := [pv_i x2, pv_i (0 : Int32), pv_i (2 : Int32)]) (st := []) ok_X11_isIn ⟨by decide, by decide⟩ ml_X11_90 rfl (by decide) (fun v hv => by simp only [List.mem_cons, List.not_mem_nil, or_false] at hv; rcases hv with rfl | rfl | rfl <;> first | exact pv_1i | exact pv_1r) (Nat.le_of_ble_eq_true rfl) (fun _ h => h) dX11_lapse_13 (rx_isIn_f RK hc) (fun r M' hq _ => ?_)
      obtain ⟨_, rfl, _, rfl, rfl, rfl⟩ := hq
      show go_W mt_X11_lapse fr_R 16 [some (pv_r m), some (pv_i x1), some (pv_i x2), none] [pv_i (0 : Int32)] (mm_si B I) (qi_ (fun x M' => ∃ I', M' = mm_si B I' ∧ P x I'))
      refine go_if_ne (tgt := 21) dX11_lapse_16 (by decide) (fun hc => absurd hc (by decide)) (fun _ => ?_)
      refine go_iconst (v := (-1 : Int32)) rfl dX11_lapse_19 ?_
      exact go_iret rfl rfl dX11_lapse_20 ⟨_, rfl, _, rfl, H⟩
  · replace H := H.2 hc
    refine go_St (av := [pv_i x1, pv_i (1 : Int32), pv_i (99 : Int32)]) (st := []) ok_X11_isIn ⟨by decide, by decide⟩ ml_X11_90 rfl (by decide) (fun v hv => by simp only [List.mem_cons, List.not_mem_nil, or_false] at hv; rcases hv with rfl | rfl | rfl <;> first | exact pv_1i | exact pv_1r) (Nat.le_of_ble_eq_true rfl) (fun _ h => h) dX11_lapse_4 (rx_isIn_f RK hc) (fun r M' hq _ => ?_)
    obtain ⟨_, rfl, _, rfl, rfl, rfl⟩ := hq
    show go_W mt_X11_lapse fr_R 7 [some (pv_r m), some (pv_i x1), some (pv_i x2), none] [pv_i (0 : Int32)] (mm_si B I) (qi_ (fun x M' => ∃ I', M' = mm_si B I' ∧ P x I'))
    refine go_if_eq (tgt := 19) dX11_lapse_7 (by decide) (fun _ => ?_) (fun hc => absurd hc (by decide))
    refine go_iconst (v := (-1 : Int32)) rfl dX11_lapse_19 ?_
    exact go_iret rfl rfl dX11_lapse_20 ⟨_, rfl, _, rfl, H⟩
set_option maxRecDepth 20000 in
theorem wq_X11_lapse_27 {B : mm_T} {I : Nat → Nat → Int32} {m : Nat} (RK : rf_ok B m) {x1 x2 x3 : Int32} {P : Int32 → (Nat → Nat → Int32) → Prop} (H : (((x1 ≤ x3) → (((¬ x2 = 0) → (((¬ x2 = (1 : Int32)) → rs_v mt_X11_ends [pv_r m] B I (fun I1 => P (I m 11) I1)) ∧ ((x2 = (1 : Int32)) → rs_v mt_X11_ends [pv_r m] B I (fun I2 => P (I m 10) I2)))) ∧ ((x2 = 0) → rs_v mt_X11_ends [pv_r m] B I (fun I3 => P (I m 9) I3)))) ∧ ((¬ x1 ≤ x3) → rs_v mt_X11_ticks [pv_r m] B I (fun I4 => rw_i mt_X11_lapse 27 [some (pv_r m), some (pv_i x1), some (pv_i x2), some (pv_i (x3 + (1 : Int32)))] [] B I4 P)))) : rw_i mt_X11_lapse 27 [some (pv_r m), some (pv_i x1), some (pv_i x2), some (pv_i x3)] [] B I P := by
  refine go_iload_n dX11_lapse_27 rfl ?_
  refine go_iload_n dX11_lapse_28 rfl ?_
  refine go_icmp_ge (tgt := 42) dX11_lapse_29 (by decide) (fun hc => ?_) (fun hc => ?_)
  · replace H := H.1 hc
    refine go_iload_n dX11_lapse_42 rfl ?_
    refine go_if_ne (tgt := 53) dX11_lapse_43 (by decide) (fun hc => ?_) (fun hc => ?_)
    · replace H := H.1 hc
      refine go_iload_n dX11_lapse_53 rfl ?_
      refine go_iconst (v := (1 : Int32)) rfl dX11_lapse_54 ?_
      refine go_icmp_ne (tgt := 65) dX11_lapse_55 (by decide) (fun hc => ?_) (fun hc => ?_)
      · replace H := H.1 hc
        refine go_aload_n dX11_lapse_65 rfl ?_
        refine go_getI (k := 11) ⟨by decide, rfl, by decide, rfl⟩ RK.1 fl_X11_45 dX11_lapse_66 ?_
        refine go_istore_n (by decide) dX11_lapse_69 ?_
        show go_W mt_X11_lapse fr_R 70 [some (pv_r m), some (pv_i x1), some (pv_i x2), some (pv_i (I m 11))] [] (mm_si B I) (qi_ (fun x M' => ∃ I', M' = mm_si B I' ∧ P x I'))
        refine go_aload_n dX11_lapse_70 rfl ?_
        refine go_V (av := []) (st := []) (ci := 11) ok_X11_ends ⟨by decide, by decide⟩ ml_X11_288 rfl (by decide) (fun v hv => absurd hv List.not_mem_nil) (Nat.le_of_ble_eq_true rfl) (fun _ h => h) (by decide) rfl RK.1 dX11_lapse_71 H (fun r M' hq _ => ?_)
        obtain ⟨rfl, I1, rfl, H⟩ := hq
        show go_W mt_X11_lapse fr_R 74 [some (pv_r m), some (pv_i x1), some (pv_i x2), some (pv_i (I m 11))] [] (mm_si B I1) (qi_ (fun x M' => ∃ I', M' = mm_si B I' ∧ P x I'))
        refine go_iload_n dX11_lapse_74 rfl ?_
        exact go_iret rfl rfl dX11_lapse_75 ⟨_, rfl, _, rfl, H⟩
      · replace H := H.2 hc
        refine go_aload_n dX11_lapse_58 rfl ?_
        refine go_getI (k := 10) ⟨by decide, rfl, by decide, rfl⟩ RK.1 fl_X11_42 dX11_lapse_59 ?_
        refine go_goto (tgt := 69) dX11_lapse_62 (by decide) ?_
        refine go_istore_n (by decide) dX11_lapse_69 ?_
        show go_W mt_X11_lapse fr_R 70 [some (pv_r m), some (pv_i x1), some (pv_i x2), some (pv_i (I m 10))] [] (mm_si B I) (qi_ (fun x M' => ∃ I', M' = mm_si B I' ∧ P x I'))
        refine go_aload_n dX11_lapse_70 rfl ?_
        refine go_V (av := []) (st := []) (ci := 11) ok_X11_ends ⟨by decide, by decide⟩ ml_X11_288 rfl (by decide) (fun v hv => absurd hv List.not_mem_nil) (Nat.le_of_ble_eq_true rfl) (fun _ h => h) (by decide) rfl RK.1 dX11_lapse_71 H (fun r M' hq _ => ?_)
        obtain ⟨rfl, I2, rfl, H⟩ := hq
        show go_W mt_X11_lapse fr_R 74 [some (pv_r m), some (pv_i x1), some (pv_i x2), some (pv_i (I m 10))] [] (mm_si B I2) (qi_ (fun x M' => ∃ I', M' = mm_si B I' ∧ P x I'))
        refine go_iload_n dX11_lapse_74 rfl ?_
        exact go_iret rfl rfl dX11_lapse_75 ⟨_, rfl, _, rfl, H⟩
    · replace H := H.2 hc
      refine go_aload_n dX11_lapse_46 rfl ?_
      refine go_getI (k := 9) ⟨by decide, rfl, by decide, rfl⟩ RK.1 fl_X11_39 dX11_lapse_47 ?_
      refine go_goto (tgt := 69) dX11_lapse_50 (by decide) ?_
      refine go_istore_n (by decide) dX11_lapse_69 ?_
      show go_W mt_X11_lapse fr_R 70 [some (pv_r m), some (pv_i x1), some (pv_i x2), some (pv_i (I m 9))] [] (mm_si B I) (qi_ (fun x M' => ∃ I', M' = mm_si B I' ∧ P x I'))
      refine go_aload_n dX11_lapse_70 rfl ?_
      refine go_V (av := []) (st := []) (ci := 11) ok_X11_ends ⟨by decide, by decide⟩ ml_X11_288 rfl (by decide) (fun v hv => absurd hv List.not_mem_nil) (Nat.le_of_ble_eq_true rfl) (fun _ h => h) (by decide) rfl RK.1 dX11_lapse_71 H (fun r M' hq _ => ?_)
      obtain ⟨rfl, I3, rfl, H⟩ := hq
      show go_W mt_X11_lapse fr_R 74 [some (pv_r m), some (pv_i x1), some (pv_i x2), some (pv_i (I m 9))] [] (mm_si B I3) (qi_ (fun x M' => ∃ I', M' = mm_si B I' ∧ P x I'))
      refine go_iload_n dX11_lapse_74 rfl ?_
      exact go_iret rfl rfl dX11_lapse_75 ⟨_, rfl, _, rfl, H⟩
  · replace H := H.2 hc
    refine go_aload_n dX11_lapse_32 rfl ?_
    refine go_V (av := []) (st := []) (ci := 11) ok_X11_ticks ⟨by decide, by decide⟩ ml_X11_227 rfl (by decide) (fun v hv => absurd hv List.not_mem_nil) (Nat.le_of_ble_eq_true rfl) (fun _ h => h) (by decide) rfl RK.1 dX11_lapse_33 H (fun r M' hq _ => ?_)
    obtain ⟨rfl, I4, rfl, H⟩ := hq
    show go_W mt_X11_lapse fr_R 36 [some (pv_r m), some (pv_i x1), some (pv_i x2), some (pv_i x3)] [] (mm_si B I4) (qi_ (fun x M' => ∃ I', M' = mm_si B I' ∧ P x I'))
    refine go_iinc (v := (1 : Int32)) (by decide) rfl rfl dX11_lapse_36 ?_
    show go_W mt_X11_lapse fr_R 39 [some (pv_r m), some (pv_i x1), some (pv_i x2), some (pv_i (x3 + (1 : Int32)))] [] (mm_si B I4) (qi_ (fun x M' => ∃ I', M' = mm_si B I' ∧ P x I'))
    refine go_goto (tgt := 27) dX11_lapse_39 (by decide) ?_
    exact H
set_option maxRecDepth 20000 in
theorem wq_X11_safe_0 {B : mm_T} {I : Nat → Nat → Int32} {m : Nat} (RK : rf_ok B m) {x1 : Int32} {P : Int32 → (Nat → Nat → Int32) → Prop} (H : rs_i mt_X11_doesWait [pv_r m, pv_i x1] B I (fun v2 I1 => (((v2 = 0) → P (-1 : Int32) I1) ∧ ((¬ v2 = 0) → ∃ n3, (x1 = nI n3 ∧ n3 < 400) ∧ (P (if I1 (m + 1) 0 ≤ (((9 : Int32) * I1 (m + 1) 4) - (ra_rank I1 m n3)) then (((9 : Int32) * I1 (m + 1) 4) - (ra_rank I1 m n3)) else I1 (m + 1) 0) I1))))) : rw_i mt_X11_safe 0 [some (pv_r m), some (pv_i x1)] [] B I P := by
  refine go_aload_n dX11_safe_0 rfl ?_
  refine go_iload_n dX11_safe_1 rfl ?_
  refine go_V (av := [pv_i x1]) (st := []) (ci := 11) ok_X11_doesWait ⟨by decide, by decide⟩ ml_X11_291 rfl (by decide) (fun v hv => by simp only [List.mem_cons, List.not_mem_nil, or_false] at hv; rcases hv with rfl <;> first | exact pv_1i | exact pv_1r) (Nat.le_of_ble_eq_true rfl) (fun _ h => h) (by decide) rfl RK.1 dX11_safe_2 H (fun r M' hq _ => ?_)
  obtain ⟨v2, rfl, I1, rfl, H⟩ := hq
  show go_W mt_X11_safe fr_R 5 [some (pv_r m), some (pv_i x1)] [pv_i v2] (mm_si B I1) (qi_ (fun x M' => ∃ I', M' = mm_si B I' ∧ P x I'))
  refine go_if_eq (tgt := 35) dX11_safe_5 (by decide) (fun hc => ?_) (fun hc => ?_)
  · replace H := H.1 hc
    refine go_iconst (v := (-1 : Int32)) rfl dX11_safe_35 ?_
    exact go_iret rfl rfl dX11_safe_36 ⟨_, rfl, _, rfl, H⟩
  · replace H := H.2 hc
    refine go_aload_n dX11_safe_8 rfl ?_
    refine go_getRe (k := 0) ⟨by decide, rfl, by decide, Or.inr ⟨_, rfl⟩⟩ RK.1 (rf_r1 RK) fl_X11_7 dX11_safe_9 ?_
    refine go_iconst (v := (0 : Int32)) rfl dX11_safe_12 ?_
    refine go_ialdN (j := 0) ⟨by decide, by decide, by decide⟩ (rf_k1 RK) rfl (by decide) dX11_safe_13 ?_
    refine go_bipush (v := (9 : Int32)) rfl dX11_safe_14 ?_
    refine go_aload_n dX11_safe_16 rfl ?_
    refine go_getRe (k := 0) ⟨by decide, rfl, by decide, Or.inr ⟨_, rfl⟩⟩ RK.1 (rf_r1 RK) fl_X11_7 dX11_safe_17 ?_
    refine go_iconst (v := (4 : Int32)) rfl dX11_safe_20 ?_
    refine go_ialdN (j := 4) ⟨by decide, by decide, by decide⟩ (rf_k1 RK) rfl (by decide) dX11_safe_21 ?_
    refine go_imul dX11_safe_22 ?_
    refine go_aload_n dX11_safe_23 rfl ?_
    refine go_iload_n dX11_safe_24 rfl ?_
    obtain ⟨n3, ⟨hn3, hn3b⟩, H⟩ := H
    refine go_V (av := [pv_i x1]) (st := [pv_i ((9 : Int32) * I1 (m + 1) 4), pv_i (I1 (m + 1) 0)]) (ci := 11) ok_X11_rankOf ⟨by decide, by decide⟩ ml_X11_102 rfl (by decide) (fun v hv => by simp only [List.mem_cons, List.not_mem_nil, or_false] at hv; rcases hv with rfl <;> first | exact pv_1i | exact pv_1r) (Nat.le_of_ble_eq_true rfl) (fun _ h => h) (by decide) rfl RK.1 dX11_safe_25 (rx_rankOf RK hn3 hn3b) (fun r M' hq _ => ?_)
    obtain ⟨_, rfl, _, rfl, rfl, rfl⟩ := hq
    show go_W mt_X11_safe fr_R 28 [some (pv_r m), some (pv_i x1)] [pv_i (ra_rank I1 m n3), pv_i ((9 : Int32) * I1 (m + 1) 4), pv_i (I1 (m + 1) 0)] (mm_si B I1) (qi_ (fun x M' => ∃ I', M' = mm_si B I' ∧ P x I'))
    refine go_isub dX11_safe_28 ?_
    refine go_St (av := [pv_i (I1 (m + 1) 0), pv_i (((9 : Int32) * I1 (m + 1) 4) - (ra_rank I1 m n3))]) (st := []) ok_X11_greater ⟨by decide, by decide⟩ ml_X11_118 rfl (by decide) (fun v hv => by simp only [List.mem_cons, List.not_mem_nil, or_false] at hv; rcases hv with rfl | rfl <;> first | exact pv_1i | exact pv_1r) (Nat.le_of_ble_eq_true rfl) (fun _ h => h) dX11_safe_29 (rx_greater RK) (fun r M' hq _ => ?_)
    obtain ⟨_, rfl, _, rfl, rfl, rfl⟩ := hq
    show go_W mt_X11_safe fr_R 32 [some (pv_r m), some (pv_i x1)] [pv_i (if I1 (m + 1) 0 ≤ (((9 : Int32) * I1 (m + 1) 4) - (ra_rank I1 m n3)) then (((9 : Int32) * I1 (m + 1) 4) - (ra_rank I1 m n3)) else I1 (m + 1) 0)] (mm_si B I1) (qi_ (fun x M' => ∃ I', M' = mm_si B I' ∧ P x I'))
    refine go_goto (tgt := 36) dX11_safe_32 (by decide) ?_
    exact go_iret rfl rfl dX11_safe_36 ⟨_, rfl, _, rfl, H⟩
set_option maxRecDepth 20000 in
theorem wq_X11_nextDone_0 {B : mm_T} {I : Nat → Nat → Int32} {m : Nat} (RK : rf_ok B m) {x1 : Int32} {P : Int32 → (Nat → Nat → Int32) → Prop} (H : rw_i mt_X11_nextDone 4 [some (pv_r m), some (pv_i x1), some (pv_i (-1 : Int32)), some (pv_i (0 : Int32))] [] B I P) : rw_i mt_X11_nextDone 0 [some (pv_r m), some (pv_i x1), none, none] [] B I P := by
  refine go_iconst (v := (-1 : Int32)) rfl dX11_nextDone_0 ?_
  refine go_istore_n (by decide) dX11_nextDone_1 ?_
  show go_W mt_X11_nextDone fr_R 2 [some (pv_r m), some (pv_i x1), some (pv_i (-1 : Int32)), none] [] (mm_si B I) (qi_ (fun x M' => ∃ I', M' = mm_si B I' ∧ P x I'))
  refine go_iconst (v := (0 : Int32)) rfl dX11_nextDone_2 ?_
  refine go_istore_n (by decide) dX11_nextDone_3 ?_
  show go_W mt_X11_nextDone fr_R 4 [some (pv_r m), some (pv_i x1), some (pv_i (-1 : Int32)), some (pv_i (0 : Int32))] [] (mm_si B I) (qi_ (fun x M' => ∃ I', M' = mm_si B I' ∧ P x I'))
  exact H
set_option maxRecDepth 20000 in
theorem wq_X11_nextDone_4 {B : mm_T} {I : Nat → Nat → Int32} {m : Nat} (RK : rf_ok B m) {x1 x2 x3 : Int32} {P : Int32 → (Nat → Nat → Int32) → Prop} (H : (((x1 ≤ x3) → P x2 I) ∧ ((¬ x1 ≤ x3) → ∃ n1, (x3 = nI n1 ∧ n1 < 6) ∧ ((((I (m + 9) n1 = (-1 : Int32)) → rw_i mt_X11_nextDone 4 [some (pv_r m), some (pv_i x1), some (pv_i x2), some (pv_i (nI (n1 + 1)))] [] B I P) ∧ ((¬ I (m + 9) n1 = (-1 : Int32)) → (((I (m + 1) 0 < I (m + 10) n1) → rw_i mt_X11_nextDone 4 [some (pv_r m), some (pv_i x1), some (pv_i x2), some (pv_i (nI (n1 + 1)))] [] B I P) ∧ ((¬ I (m + 1) 0 < I (m + 10) n1) → (((x2 = (-1 : Int32)) → rw_i mt_X11_nextDone 4 [some (pv_r m), some (pv_i x1), some (pv_i x3), some (pv_i (nI (n1 + 1)))] [] B I P) ∧ ((¬ x2 = (-1 : Int32)) → ∃ n2, (x2 = nI n2 ∧ n2 < 6) ∧ ((((I (m + 9) n2 ≤ I (m + 9) n1) → rw_i mt_X11_nextDone 4 [some (pv_r m), some (pv_i x1), some (pv_i x2), some (pv_i (nI (n1 + 1)))] [] B I P) ∧ ((¬ I (m + 9) n2 ≤ I (m + 9) n1) → rw_i mt_X11_nextDone 4 [some (pv_r m), some (pv_i x1), some (pv_i x3), some (pv_i (nI (n1 + 1)))] [] B I P))))))))))))) : rw_i mt_X11_nextDone 4 [some (pv_r m), some (pv_i x1), some (pv_i x2), some (pv_i x3)] [] B I P := by
  refine go_iload_n dX11_nextDone_4 rfl ?_
  refine go_iload_n dX11_nextDone_5 rfl ?_
  refine go_icmp_ge (tgt := 62) dX11_nextDone_6 (by decide) (fun hc => ?_) (fun hc => ?_)
  · replace H := H.1 hc
    refine go_iload_n dX11_nextDone_62 rfl ?_
    exact go_iret rfl rfl dX11_nextDone_63 ⟨_, rfl, _, rfl, H⟩
  · replace H := H.2 hc
    refine go_aload_n dX11_nextDone_9 rfl ?_
    refine go_getRe (k := 15) ⟨by decide, rfl, by decide, Or.inr ⟨_, rfl⟩⟩ RK.1 (rf_r9 RK) fl_X11_59 dX11_nextDone_10 ?_
    refine go_iload_n dX11_nextDone_13 rfl ?_
    obtain ⟨n1, ⟨hn1, hn1b⟩, H⟩ := H
    refine go_ialdN (j := n1) ⟨by decide, by decide, by decide⟩ (rf_k9 RK) hn1 hn1b dX11_nextDone_14 ?_
    refine go_iconst (v := (-1 : Int32)) rfl dX11_nextDone_15 ?_
    refine go_icmp_eq (tgt := 56) dX11_nextDone_16 (by decide) (fun hc => ?_) (fun hc => ?_)
    · replace H := H.1 hc
      refine go_iincN (n := n1) (k := 1) hn1 (by decide) rfl rfl dX11_nextDone_56 ?_
      show go_W mt_X11_nextDone fr_R 59 [some (pv_r m), some (pv_i x1), some (pv_i x2), some (pv_i (nI (n1 + 1)))] [] (mm_si B I) (qi_ (fun x M' => ∃ I', M' = mm_si B I' ∧ P x I'))
      refine go_goto (tgt := 4) dX11_nextDone_59 (by decide) ?_
      exact H
    · replace H := H.2 hc
      refine go_aload_n dX11_nextDone_19 rfl ?_
      refine go_getRe (k := 16) ⟨by decide, rfl, by decide, Or.inr ⟨_, rfl⟩⟩ RK.1 (rf_r10 RK) fl_X11_62 dX11_nextDone_20 ?_
      refine go_iload_n dX11_nextDone_23 rfl ?_
      refine go_ialdN (j := n1) ⟨by decide, by decide, by decide⟩ (rf_k10 RK) hn1 (by omega) dX11_nextDone_24 ?_
      refine go_aload_n dX11_nextDone_25 rfl ?_
      refine go_getRe (k := 0) ⟨by decide, rfl, by decide, Or.inr ⟨_, rfl⟩⟩ RK.1 (rf_r1 RK) fl_X11_7 dX11_nextDone_26 ?_
      refine go_iconst (v := (0 : Int32)) rfl dX11_nextDone_29 ?_
      refine go_ialdN (j := 0) ⟨by decide, by decide, by decide⟩ (rf_k1 RK) rfl (by decide) dX11_nextDone_30 ?_
      refine go_icmp_gt (tgt := 56) dX11_nextDone_31 (by decide) (fun hc => ?_) (fun hc => ?_)
      · replace H := H.1 hc
        refine go_iincN (n := n1) (k := 1) hn1 (by decide) rfl rfl dX11_nextDone_56 ?_
        show go_W mt_X11_nextDone fr_R 59 [some (pv_r m), some (pv_i x1), some (pv_i x2), some (pv_i (nI (n1 + 1)))] [] (mm_si B I) (qi_ (fun x M' => ∃ I', M' = mm_si B I' ∧ P x I'))
        refine go_goto (tgt := 4) dX11_nextDone_59 (by decide) ?_
        exact H
      · replace H := H.2 hc
        refine go_iload_n dX11_nextDone_34 rfl ?_
        refine go_iconst (v := (-1 : Int32)) rfl dX11_nextDone_35 ?_
        refine go_icmp_eq (tgt := 54) dX11_nextDone_36 (by decide) (fun hc => ?_) (fun hc => ?_)
        · replace H := H.1 hc
          refine go_iload_n dX11_nextDone_54 rfl ?_
          refine go_istore_n (by decide) dX11_nextDone_55 ?_
          show go_W mt_X11_nextDone fr_R 56 [some (pv_r m), some (pv_i x1), some (pv_i x3), some (pv_i x3)] [] (mm_si B I) (qi_ (fun x M' => ∃ I', M' = mm_si B I' ∧ P x I'))
          refine go_iincN (n := n1) (k := 1) hn1 (by decide) rfl rfl dX11_nextDone_56 ?_
          show go_W mt_X11_nextDone fr_R 59 [some (pv_r m), some (pv_i x1), some (pv_i x3), some (pv_i (nI (n1 + 1)))] [] (mm_si B I) (qi_ (fun x M' => ∃ I', M' = mm_si B I' ∧ P x I'))
          refine go_goto (tgt := 4) dX11_nextDone_59 (by decide) ?_
          exact H
        · replace H := H.2 hc
          refine go_aload_n dX11_nextDone_39 rfl ?_
          refine go_getRe (k := 15) ⟨by decide, rfl, by decide, Or.inr ⟨_, rfl⟩⟩ RK.1 (rf_r9 RK) fl_X11_59 dX11_nextDone_40 ?_
          refine go_iload_n dX11_nextDone_43 rfl ?_
          refine go_ialdN (j := n1) ⟨by decide, by decide, by decide⟩ (rf_k9 RK) hn1 (by omega) dX11_nextDone_44 ?_
          refine go_aload_n dX11_nextDone_45 rfl ?_
          refine go_getRe (k := 15) ⟨by decide, rfl, by decide, Or.inr ⟨_, rfl⟩⟩ RK.1 (rf_r9 RK) fl_X11_59 dX11_nextDone_46 ?_
          refine go_iload_n dX11_nextDone_49 rfl ?_
          obtain ⟨n2, ⟨hn2, hn2b⟩, H⟩ := H
          refine go_ialdN (j := n2) ⟨by decide, by decide, by decide⟩ (rf_k9 RK) hn2 hn2b dX11_nextDone_50 ?_
          refine go_icmp_ge (tgt := 56) dX11_nextDone_51 (by decide) (fun hc => ?_) (fun hc => ?_)
          · replace H := H.1 hc
            refine go_iincN (n := n1) (k := 1) hn1 (by decide) rfl rfl dX11_nextDone_56 ?_
            show go_W mt_X11_nextDone fr_R 59 [some (pv_r m), some (pv_i x1), some (pv_i x2), some (pv_i (nI (n1 + 1)))] [] (mm_si B I) (qi_ (fun x M' => ∃ I', M' = mm_si B I' ∧ P x I'))
            refine go_goto (tgt := 4) dX11_nextDone_59 (by decide) ?_
            exact H
          · replace H := H.2 hc
            refine go_iload_n dX11_nextDone_54 rfl ?_
            refine go_istore_n (by decide) dX11_nextDone_55 ?_
            show go_W mt_X11_nextDone fr_R 56 [some (pv_r m), some (pv_i x1), some (pv_i x3), some (pv_i x3)] [] (mm_si B I) (qi_ (fun x M' => ∃ I', M' = mm_si B I' ∧ P x I'))
            refine go_iincN (n := n1) (k := 1) hn1 (by decide) rfl rfl dX11_nextDone_56 ?_
            show go_W mt_X11_nextDone fr_R 59 [some (pv_r m), some (pv_i x1), some (pv_i x3), some (pv_i (nI (n1 + 1)))] [] (mm_si B I) (qi_ (fun x M' => ∃ I', M' = mm_si B I' ∧ P x I'))
            refine go_goto (tgt := 4) dX11_nextDone_59 (by decide) ?_
            exact H
set_option maxRecDepth 20000 in
theorem wq_X11_doneOnPaper_0 {B : mm_T} {I : Nat → Nat → Int32} {m : Nat} (RK : rf_ok B m) {x1 : Int32} {P : (Nat → Nat → Int32) → Prop} (H : rs_i mt_X11_nextDone [pv_r m, pv_i x1] B I (fun v2 I1 => rw_v mt_X11_doneOnPaper 8 [some (pv_r m), some (pv_i x1), some (pv_i (-1 : Int32)), some (pv_i v2)] [] B I1 P)) : rw_v mt_X11_doneOnPaper 0 [some (pv_r m), some (pv_i x1), none, none] [] B I P := by
  refine go_iconst (v := (-1 : Int32)) rfl dX11_doneOnPaper_0 ?_
  refine go_istore_n (by decide) dX11_doneOnPaper_1 ?_
  show go_W mt_X11_doneOnPaper fr_R 2 [some (pv_r m), some (pv_i x1), some (pv_i (-1 : Int32)), none] [] (mm_si B I) (qv_ (fun M' => ∃ I', M' = mm_si B I' ∧ P I'))
  refine go_aload_n dX11_doneOnPaper_2 rfl ?_
  refine go_iload_n dX11_doneOnPaper_3 rfl ?_
  refine go_V (av := [pv_i x1]) (st := []) (ci := 11) ok_X11_nextDone ⟨by decide, by decide⟩ ml_X11_295 rfl (by decide) (fun v hv => by simp only [List.mem_cons, List.not_mem_nil, or_false] at hv; rcases hv with rfl <;> first | exact pv_1i | exact pv_1r) (Nat.le_of_ble_eq_true rfl) (fun _ h => h) (by decide) rfl RK.1 dX11_doneOnPaper_4 H (fun r M' hq _ => ?_)
  obtain ⟨v2, rfl, I1, rfl, H⟩ := hq
  show go_W mt_X11_doneOnPaper fr_R 7 [some (pv_r m), some (pv_i x1), some (pv_i (-1 : Int32)), none] [pv_i v2] (mm_si B I1) (qv_ (fun M' => ∃ I', M' = mm_si B I' ∧ P I'))
  refine go_istore_n (by decide) dX11_doneOnPaper_7 ?_
  show go_W mt_X11_doneOnPaper fr_R 8 [some (pv_r m), some (pv_i x1), some (pv_i (-1 : Int32)), some (pv_i v2)] [] (mm_si B I1) (qv_ (fun M' => ∃ I', M' = mm_si B I' ∧ P I'))
  exact H
set_option maxRecDepth 20000 in
theorem wq_X11_doneOnPaper_8 {B : mm_T} {I : Nat → Nat → Int32} {m : Nat} (RK : rf_ok B m) {x1 x2 x3 : Int32} {P : (Nat → Nat → Int32) → Prop} (H : (((x3 = (-1 : Int32)) → (((¬ x2 = (-1 : Int32)) → ∀ I1, I1 = i2_u I m 17 x2 → P I1) ∧ ((x2 = (-1 : Int32)) → ∀ I2, I2 = i2_u I m 17 (I m 17) → P I2))) ∧ ((¬ x3 = (-1 : Int32)) → ∃ n3, (x3 = nI n3 ∧ n3 < 6) ∧ (rs_v mt_X11_frees [pv_r m, pv_i (I (m + 9) n3)] B I (fun I4 => ∀ I5, I5 = i2_u I4 (m + 9) n3 (-1 : Int32) → rs_i mt_X11_nextDone [pv_r m, pv_i x1] B I5 (fun v7 I6 => rw_v mt_X11_doneOnPaper 8 [some (pv_r m), some (pv_i x1), some (pv_i (if x2 ≤ I (m + 9) n3 then I (m + 9) n3 else x2)), some (pv_i v7)] [] B I6 P)))))) : rw_v mt_X11_doneOnPaper 8 [some (pv_r m), some (pv_i x1), some (pv_i x2), some (pv_i x3)] [] B I P := by
  refine go_iload_n dX11_doneOnPaper_8 rfl ?_
  refine go_iconst (v := (-1 : Int32)) rfl dX11_doneOnPaper_9 ?_
  refine go_icmp_eq (tgt := 50) dX11_doneOnPaper_10 (by decide) (fun hc => ?_) (fun hc => ?_)
  · replace H := H.1 hc
    refine go_aload_n dX11_doneOnPaper_50 rfl ?_
    refine go_iload_n dX11_doneOnPaper_51 rfl ?_
    refine go_iconst (v := (-1 : Int32)) rfl dX11_doneOnPaper_52 ?_
    refine go_icmp_ne (tgt := 63) dX11_doneOnPaper_53 (by decide) (fun hc => ?_) (fun hc => ?_)
    · replace H := H.1 hc
      refine go_iload_n dX11_doneOnPaper_63 rfl ?_
      refine go_putI (k := 17) ⟨by decide, rfl, by decide, rfl⟩ RK.1 rfl (Or.inl rfl) fl_X11_65 dX11_doneOnPaper_64 ?_
      show go_W mt_X11_doneOnPaper fr_R 67 [some (pv_r m), some (pv_i x1), some (pv_i x2), some (pv_i x3)] [] (mm_si B (i2_u I m 17 x2)) (qv_ (fun M' => ∃ I', M' = mm_si B I' ∧ P I'))
      obtain ⟨I1, hI1⟩ : ∃ I', I' = i2_u I m 17 x2 := ⟨_, rfl⟩
      rw [← hI1]
      replace H := H I1 hI1
      exact go_vret rfl dX11_doneOnPaper_67 ⟨rfl, _, rfl, H⟩
    · replace H := H.2 hc
      refine go_aload_n dX11_doneOnPaper_56 rfl ?_
      refine go_getI (k := 17) ⟨by decide, rfl, by decide, rfl⟩ RK.1 fl_X11_65 dX11_doneOnPaper_57 ?_
      refine go_goto (tgt := 64) dX11_doneOnPaper_60 (by decide) ?_
      refine go_putI (k := 17) ⟨by decide, rfl, by decide, rfl⟩ RK.1 rfl (Or.inl rfl) fl_X11_65 dX11_doneOnPaper_64 ?_
      show go_W mt_X11_doneOnPaper fr_R 67 [some (pv_r m), some (pv_i x1), some (pv_i x2), some (pv_i x3)] [] (mm_si B (i2_u I m 17 (I m 17))) (qv_ (fun M' => ∃ I', M' = mm_si B I' ∧ P I'))
      obtain ⟨I2, hI2⟩ : ∃ I', I' = i2_u I m 17 (I m 17) := ⟨_, rfl⟩
      rw [← hI2]
      replace H := H I2 hI2
      exact go_vret rfl dX11_doneOnPaper_67 ⟨rfl, _, rfl, H⟩
  · replace H := H.2 hc
    refine go_iload_n dX11_doneOnPaper_13 rfl ?_
    refine go_aload_n dX11_doneOnPaper_14 rfl ?_
    refine go_getRe (k := 15) ⟨by decide, rfl, by decide, Or.inr ⟨_, rfl⟩⟩ RK.1 (rf_r9 RK) fl_X11_59 dX11_doneOnPaper_15 ?_
    refine go_iload_n dX11_doneOnPaper_18 rfl ?_
    obtain ⟨n3, ⟨hn3, hn3b⟩, H⟩ := H
    refine go_ialdN (j := n3) ⟨by decide, by decide, by decide⟩ (rf_k9 RK) hn3 hn3b dX11_doneOnPaper_19 ?_
    refine go_St (av := [pv_i x2, pv_i (I (m + 9) n3)]) (st := []) ok_X11_greater ⟨by decide, by decide⟩ ml_X11_118 rfl (by decide) (fun v hv => by simp only [List.mem_cons, List.not_mem_nil, or_false] at hv; rcases hv with rfl | rfl <;> first | exact pv_1i | exact pv_1r) (Nat.le_of_ble_eq_true rfl) (fun _ h => h) dX11_doneOnPaper_20 (rx_greater RK) (fun r M' hq _ => ?_)
    obtain ⟨_, rfl, _, rfl, rfl, rfl⟩ := hq
    show go_W mt_X11_doneOnPaper fr_R 23 [some (pv_r m), some (pv_i x1), some (pv_i x2), some (pv_i x3)] [pv_i (if x2 ≤ I (m + 9) n3 then I (m + 9) n3 else x2)] (mm_si B I) (qv_ (fun M' => ∃ I', M' = mm_si B I' ∧ P I'))
    refine go_istore_n (by decide) dX11_doneOnPaper_23 ?_
    show go_W mt_X11_doneOnPaper fr_R 24 [some (pv_r m), some (pv_i x1), some (pv_i (if x2 ≤ I (m + 9) n3 then I (m + 9) n3 else x2)), some (pv_i x3)] [] (mm_si B I) (qv_ (fun M' => ∃ I', M' = mm_si B I' ∧ P I'))
    refine go_aload_n dX11_doneOnPaper_24 rfl ?_
    refine go_aload_n dX11_doneOnPaper_25 rfl ?_
    refine go_getRe (k := 15) ⟨by decide, rfl, by decide, Or.inr ⟨_, rfl⟩⟩ RK.1 (rf_r9 RK) fl_X11_59 dX11_doneOnPaper_26 ?_
    refine go_iload_n dX11_doneOnPaper_29 rfl ?_
    refine go_ialdN (j := n3) ⟨by decide, by decide, by decide⟩ (rf_k9 RK) hn3 (by omega) dX11_doneOnPaper_30 ?_
    refine go_V (av := [pv_i (I (m + 9) n3)]) (st := []) (ci := 11) ok_X11_frees ⟨by decide, by decide⟩ ml_X11_140 rfl (by decide) (fun v hv => by simp only [List.mem_cons, List.not_mem_nil, or_false] at hv; rcases hv with rfl <;> first | exact pv_1i | exact pv_1r) (Nat.le_of_ble_eq_true rfl) (fun _ h => h) (by decide) rfl RK.1 dX11_doneOnPaper_31 H (fun r M' hq _ => ?_)
    obtain ⟨rfl, I4, rfl, H⟩ := hq
    show go_W mt_X11_doneOnPaper fr_R 34 [some (pv_r m), some (pv_i x1), some (pv_i (if x2 ≤ I (m + 9) n3 then I (m + 9) n3 else x2)), some (pv_i x3)] [] (mm_si B I4) (qv_ (fun M' => ∃ I', M' = mm_si B I' ∧ P I'))
    refine go_aload_n dX11_doneOnPaper_34 rfl ?_
    refine go_getRe (k := 15) ⟨by decide, rfl, by decide, Or.inr ⟨_, rfl⟩⟩ RK.1 (rf_r9 RK) fl_X11_59 dX11_doneOnPaper_35 ?_
    refine go_iload_n dX11_doneOnPaper_38 rfl ?_
    refine go_iconst (v := (-1 : Int32)) rfl dX11_doneOnPaper_39 ?_
    refine go_iastN (j := n3) ⟨by decide, by decide, by decide⟩ (rf_k9 RK) rfl hn3 (by omega) dX11_doneOnPaper_40 ?_
    show go_W mt_X11_doneOnPaper fr_R 41 [some (pv_r m), some (pv_i x1), some (pv_i (if x2 ≤ I (m + 9) n3 then I (m + 9) n3 else x2)), some (pv_i x3)] [] (mm_si B (i2_u I4 (m + 9) n3 (-1 : Int32))) (qv_ (fun M' => ∃ I', M' = mm_si B I' ∧ P I'))
    obtain ⟨I5, hI5⟩ : ∃ I', I' = i2_u I4 (m + 9) n3 (-1 : Int32) := ⟨_, rfl⟩
    rw [← hI5]
    replace H := H I5 hI5
    refine go_aload_n dX11_doneOnPaper_41 rfl ?_
    refine go_iload_n dX11_doneOnPaper_42 rfl ?_
    refine go_V (av := [pv_i x1]) (st := []) (ci := 11) ok_X11_nextDone ⟨by decide, by decide⟩ ml_X11_295 rfl (by decide) (fun v hv => by simp only [List.mem_cons, List.not_mem_nil, or_false] at hv; rcases hv with rfl <;> first | exact pv_1i | exact pv_1r) (Nat.le_of_ble_eq_true rfl) (fun _ h => h) (by decide) rfl RK.1 dX11_doneOnPaper_43 H (fun r M' hq _ => ?_)
    obtain ⟨v7, rfl, I6, rfl, H⟩ := hq
    show go_W mt_X11_doneOnPaper fr_R 46 [some (pv_r m), some (pv_i x1), some (pv_i (if x2 ≤ I (m + 9) n3 then I (m + 9) n3 else x2)), some (pv_i x3)] [pv_i v7] (mm_si B I6) (qv_ (fun M' => ∃ I', M' = mm_si B I' ∧ P I'))
    refine go_istore_n (by decide) dX11_doneOnPaper_46 ?_
    show go_W mt_X11_doneOnPaper fr_R 47 [some (pv_r m), some (pv_i x1), some (pv_i (if x2 ≤ I (m + 9) n3 then I (m + 9) n3 else x2)), some (pv_i v7)] [] (mm_si B I6) (qv_ (fun M' => ∃ I', M' = mm_si B I' ∧ P I'))
    refine go_goto (tgt := 8) dX11_doneOnPaper_47 (by decide) ?_
    exact H
set_option maxRecDepth 20000 in
theorem wq_X11_takesOnPaper_0 {B : mm_T} {I : Nat → Nat → Int32} {m : Nat} (RK : rf_ok B m) {x1 : Int32} {P : (Nat → Nat → Int32) → Prop} (H : rw_v mt_X11_takesOnPaper 2 [some (pv_r m), some (pv_i x1), some (pv_i (0 : Int32)), none] [] B I P) : rw_v mt_X11_takesOnPaper 0 [some (pv_r m), some (pv_i x1), none, none] [] B I P := by
  refine go_iconst (v := (0 : Int32)) rfl dX11_takesOnPaper_0 ?_
  refine go_istore_n (by decide) dX11_takesOnPaper_1 ?_
  show go_W mt_X11_takesOnPaper fr_R 2 [some (pv_r m), some (pv_i x1), some (pv_i (0 : Int32)), none] [] (mm_si B I) (qv_ (fun M' => ∃ I', M' = mm_si B I' ∧ P I'))
  exact H
set_option maxRecDepth 20000 in
theorem wq_X11_takesOnPaper_2 {B : mm_T} {I : Nat → Nat → Int32} {m : Nat} (RK : rf_ok B m) {x1 x2 : Int32} {P : (Nat → Nat → Int32) → Prop} (H : (((x1 ≤ x2) → P I) ∧ ((¬ x1 ≤ x2) → ∃ n1, (x2 = nI n1 ∧ n1 < 6) ∧ ((((¬ I (m + 9) n1 = (-1 : Int32)) → rw_v mt_X11_takesOnPaper 2 [some (pv_r m), some (pv_i x1), some (pv_i (nI (n1 + 1))), none] [] B I P) ∧ ((I (m + 9) n1 = (-1 : Int32)) → rs_i mt_X11_theLane [pv_r m, pv_i (1 : Int32)] B I (fun v3 I2 => (((¬ v3 = (-1 : Int32)) → rs_i mt_X11_firstOf [pv_r m, pv_i v3] B I2 (fun v5 I4 => ∀ I6, I6 = i2_u I4 (m + 9) n1 v5 → ∃ n7, (I6 (m + 9) n1 = nI n7 ∧ n7 < 400) ∧ (∀ I8, I8 = i2_u I6 (m + 10) n1 (I6 (m + 1) 0 + I6 (m + 1) (200 + 14 * n7 + 2)) → rs_v mt_X11_passes [pv_r m, pv_i (I8 (m + 9) n1)] B I8 (fun I9 => ∃ n10, (I9 (m + 9) n1 = nI n10 ∧ n10 < 400) ∧ (∀ I11, I11 = i2_u I9 (m + 1) (200 + 14 * n10 + 6) (3 : Int32) → rw_v mt_X11_takesOnPaper 2 [some (pv_r m), some (pv_i x1), some (pv_i (nI (n1 + 1))), none] [] B I11 P))))) ∧ ((v3 = (-1 : Int32)) → rw_v mt_X11_takesOnPaper 2 [some (pv_r m), some (pv_i x1), some (pv_i (nI (n1 + 1))), none] [] B I2 P))))))))) : rw_v mt_X11_takesOnPaper 2 [some (pv_r m), some (pv_i x1), some (pv_i x2), none] [] B I P := by
  refine go_iload_n dX11_takesOnPaper_2 rfl ?_
  refine go_iload_n dX11_takesOnPaper_3 rfl ?_
  refine go_icmp_ge (tgt := 99) dX11_takesOnPaper_4 (by decide) (fun hc => ?_) (fun hc => ?_)
  · replace H := H.1 hc
    exact go_vret rfl dX11_takesOnPaper_99 ⟨rfl, _, rfl, H⟩
  · replace H := H.2 hc
    refine go_aload_n dX11_takesOnPaper_7 rfl ?_
    refine go_getRe (k := 15) ⟨by decide, rfl, by decide, Or.inr ⟨_, rfl⟩⟩ RK.1 (rf_r9 RK) fl_X11_59 dX11_takesOnPaper_8 ?_
    refine go_iload_n dX11_takesOnPaper_11 rfl ?_
    obtain ⟨n1, ⟨hn1, hn1b⟩, H⟩ := H
    refine go_ialdN (j := n1) ⟨by decide, by decide, by decide⟩ (rf_k9 RK) hn1 hn1b dX11_takesOnPaper_12 ?_
    refine go_iconst (v := (-1 : Int32)) rfl dX11_takesOnPaper_13 ?_
    refine go_icmp_ne (tgt := 25) dX11_takesOnPaper_14 (by decide) (fun hc => ?_) (fun hc => ?_)
    · replace H := H.1 hc
      refine go_iconst (v := (-1 : Int32)) rfl dX11_takesOnPaper_25 ?_
      refine go_istore_n (by decide) dX11_takesOnPaper_26 ?_
      show go_W mt_X11_takesOnPaper fr_R 27 [some (pv_r m), some (pv_i x1), some (pv_i x2), some (pv_i (-1 : Int32))] [] (mm_si B I) (qv_ (fun M' => ∃ I', M' = mm_si B I' ∧ P I'))
      refine go_iload_n dX11_takesOnPaper_27 rfl ?_
      refine go_iconst (v := (-1 : Int32)) rfl dX11_takesOnPaper_28 ?_
      refine go_icmp_ne (tgt := 35) dX11_takesOnPaper_29 (by decide) (fun hc => absurd hc (by decide)) (fun _ => ?_)
      refine go_goto (tgt := 93) dX11_takesOnPaper_32 (by decide) ?_
      refine go_iincN (n := n1) (k := 1) hn1 (by decide) rfl rfl dX11_takesOnPaper_93 ?_
      show go_W mt_X11_takesOnPaper fr_R 96 [some (pv_r m), some (pv_i x1), some (pv_i (nI (n1 + 1))), some (pv_i (-1 : Int32))] [] (mm_si B I) (qv_ (fun M' => ∃ I', M' = mm_si B I' ∧ P I'))
      refine go_goto (tgt := 2) dX11_takesOnPaper_96 (by decide) ?_
      exact go_fg (ls' := [some (pv_r m), some (pv_i x1), some (pv_i (nI (n1 + 1))), none]) ⟨rfl, ⟨rfl, ⟨rfl, trivial⟩⟩⟩ H
    · replace H := H.2 hc
      refine go_aload_n dX11_takesOnPaper_17 rfl ?_
      refine go_iconst (v := (1 : Int32)) rfl dX11_takesOnPaper_18 ?_
      refine go_V (av := [pv_i (1 : Int32)]) (st := []) (ci := 11) ok_X11_theLane ⟨by decide, by decide⟩ ml_X11_202 rfl (by decide) (fun v hv => by simp only [List.mem_cons, List.not_mem_nil, or_false] at hv; rcases hv with rfl <;> first | exact pv_1i | exact pv_1r) (Nat.le_of_ble_eq_true rfl) (fun _ h => h) (by decide) rfl RK.1 dX11_takesOnPaper_19 H (fun r M' hq _ => ?_)
      obtain ⟨v3, rfl, I2, rfl, H⟩ := hq
      show go_W mt_X11_takesOnPaper fr_R 22 [some (pv_r m), some (pv_i x1), some (pv_i x2), none] [pv_i v3] (mm_si B I2) (qv_ (fun M' => ∃ I', M' = mm_si B I' ∧ P I'))
      refine go_goto (tgt := 26) dX11_takesOnPaper_22 (by decide) ?_
      refine go_istore_n (by decide) dX11_takesOnPaper_26 ?_
      show go_W mt_X11_takesOnPaper fr_R 27 [some (pv_r m), some (pv_i x1), some (pv_i x2), some (pv_i v3)] [] (mm_si B I2) (qv_ (fun M' => ∃ I', M' = mm_si B I' ∧ P I'))
      refine go_iload_n dX11_takesOnPaper_27 rfl ?_
      refine go_iconst (v := (-1 : Int32)) rfl dX11_takesOnPaper_28 ?_
      refine go_icmp_ne (tgt := 35) dX11_takesOnPaper_29 (by decide) (fun hc => ?_) (fun hc => ?_)
      · replace H := H.1 hc
        refine go_aload_n dX11_takesOnPaper_35 rfl ?_
        refine go_getRe (k := 15) ⟨by decide, rfl, by decide, Or.inr ⟨_, rfl⟩⟩ RK.1 (rf_r9 RK) fl_X11_59 dX11_takesOnPaper_36 ?_
        refine go_iload_n dX11_takesOnPaper_39 rfl ?_
        refine go_aload_n dX11_takesOnPaper_40 rfl ?_
        refine go_iload_n dX11_takesOnPaper_41 rfl ?_
        refine go_V (av := [pv_i v3]) (st := [pv_i x2, pv_r (m + 9)]) (ci := 11) ok_X11_firstOf ⟨by decide, by decide⟩ ml_X11_206 rfl (by decide) (fun v hv => by simp only [List.mem_cons, List.not_mem_nil, or_false] at hv; rcases hv with rfl <;> first | exact pv_1i | exact pv_1r) (Nat.le_of_ble_eq_true rfl) (fun _ h => h) (by decide) rfl RK.1 dX11_takesOnPaper_42 H (fun r M' hq _ => ?_)
        obtain ⟨v5, rfl, I4, rfl, H⟩ := hq
        show go_W mt_X11_takesOnPaper fr_R 45 [some (pv_r m), some (pv_i x1), some (pv_i x2), some (pv_i v3)] [pv_i v5, pv_i x2, pv_r (m + 9)] (mm_si B I4) (qv_ (fun M' => ∃ I', M' = mm_si B I' ∧ P I'))
        refine go_iastN (j := n1) ⟨by decide, by decide, by decide⟩ (rf_k9 RK) rfl hn1 (by omega) dX11_takesOnPaper_45 ?_
        show go_W mt_X11_takesOnPaper fr_R 46 [some (pv_r m), some (pv_i x1), some (pv_i x2), some (pv_i v3)] [] (mm_si B (i2_u I4 (m + 9) n1 v5)) (qv_ (fun M' => ∃ I', M' = mm_si B I' ∧ P I'))
        obtain ⟨I6, hI6⟩ : ∃ I', I' = i2_u I4 (m + 9) n1 v5 := ⟨_, rfl⟩
        rw [← hI6]
        replace H := H I6 hI6
        refine go_aload_n dX11_takesOnPaper_46 rfl ?_
        refine go_getRe (k := 16) ⟨by decide, rfl, by decide, Or.inr ⟨_, rfl⟩⟩ RK.1 (rf_r10 RK) fl_X11_62 dX11_takesOnPaper_47 ?_
        refine go_iload_n dX11_takesOnPaper_50 rfl ?_
        refine go_aload_n dX11_takesOnPaper_51 rfl ?_
        refine go_getRe (k := 0) ⟨by decide, rfl, by decide, Or.inr ⟨_, rfl⟩⟩ RK.1 (rf_r1 RK) fl_X11_7 dX11_takesOnPaper_52 ?_
        refine go_iconst (v := (0 : Int32)) rfl dX11_takesOnPaper_55 ?_
        refine go_ialdN (j := 0) ⟨by decide, by decide, by decide⟩ (rf_k1 RK) rfl (by decide) dX11_takesOnPaper_56 ?_
        refine go_aload_n dX11_takesOnPaper_57 rfl ?_
        refine go_aload_n dX11_takesOnPaper_58 rfl ?_
        refine go_getRe (k := 15) ⟨by decide, rfl, by decide, Or.inr ⟨_, rfl⟩⟩ RK.1 (rf_r9 RK) fl_X11_59 dX11_takesOnPaper_59 ?_
        refine go_iload_n dX11_takesOnPaper_62 rfl ?_
        refine go_ialdN (j := n1) ⟨by decide, by decide, by decide⟩ (rf_k9 RK) hn1 (by omega) dX11_takesOnPaper_63 ?_
        refine go_iconst (v := (2 : Int32)) rfl dX11_takesOnPaper_64 ?_
        obtain ⟨n7, ⟨hn7, hn7b⟩, H⟩ := H
        refine go_V (av := [pv_i (I6 (m + 9) n1), pv_i (2 : Int32)]) (st := [pv_i (I6 (m + 1) 0), pv_i x2, pv_r (m + 10)]) (ci := 11) ok_X11_of ⟨by decide, by decide⟩ ml_X11_94 rfl (by decide) (fun v hv => by simp only [List.mem_cons, List.not_mem_nil, or_false] at hv; rcases hv with rfl | rfl <;> first | exact pv_1i | exact pv_1r) (Nat.le_of_ble_eq_true rfl) (fun _ h => h) (by decide) rfl RK.1 dX11_takesOnPaper_65 (rx_of RK hn7 rfl hn7b (by decide)) (fun r M' hq _ => ?_)
        obtain ⟨_, rfl, _, rfl, rfl, rfl⟩ := hq
        show go_W mt_X11_takesOnPaper fr_R 68 [some (pv_r m), some (pv_i x1), some (pv_i x2), some (pv_i v3)] [pv_i (I6 (m + 1) (200 + 14 * n7 + 2)), pv_i (I6 (m + 1) 0), pv_i x2, pv_r (m + 10)] (mm_si B I6) (qv_ (fun M' => ∃ I', M' = mm_si B I' ∧ P I'))
        refine go_iadd dX11_takesOnPaper_68 ?_
        refine go_iastN (j := n1) ⟨by decide, by decide, by decide⟩ (rf_k10 RK) rfl hn1 (by omega) dX11_takesOnPaper_69 ?_
        show go_W mt_X11_takesOnPaper fr_R 70 [some (pv_r m), some (pv_i x1), some (pv_i x2), some (pv_i v3)] [] (mm_si B (i2_u I6 (m + 10) n1 (I6 (m + 1) 0 + I6 (m + 1) (200 + 14 * n7 + 2)))) (qv_ (fun M' => ∃ I', M' = mm_si B I' ∧ P I'))
        obtain ⟨I8, hI8⟩ : ∃ I', I' = i2_u I6 (m + 10) n1 (I6 (m + 1) 0 + I6 (m + 1) (200 + 14 * n7 + 2)) := ⟨_, rfl⟩
        rw [← hI8]
        replace H := H I8 hI8
        refine go_aload_n dX11_takesOnPaper_70 rfl ?_
        refine go_aload_n dX11_takesOnPaper_71 rfl ?_
        refine go_getRe (k := 15) ⟨by decide, rfl, by decide, Or.inr ⟨_, rfl⟩⟩ RK.1 (rf_r9 RK) fl_X11_59 dX11_takesOnPaper_72 ?_
        refine go_iload_n dX11_takesOnPaper_75 rfl ?_
        refine go_ialdN (j := n1) ⟨by decide, by decide, by decide⟩ (rf_k9 RK) hn1 (by omega) dX11_takesOnPaper_76 ?_
        refine go_V (av := [pv_i (I8 (m + 9) n1)]) (st := []) (ci := 11) ok_X11_passes ⟨by decide, by decide⟩ ml_X11_180 rfl (by decide) (fun v hv => by simp only [List.mem_cons, List.not_mem_nil, or_false] at hv; rcases hv with rfl <;> first | exact pv_1i | exact pv_1r) (Nat.le_of_ble_eq_true rfl) (fun _ h => h) (by decide) rfl RK.1 dX11_takesOnPaper_77 H (fun r M' hq _ => ?_)
        obtain ⟨rfl, I9, rfl, H⟩ := hq
        show go_W mt_X11_takesOnPaper fr_R 80 [some (pv_r m), some (pv_i x1), some (pv_i x2), some (pv_i v3)] [] (mm_si B I9) (qv_ (fun M' => ∃ I', M' = mm_si B I' ∧ P I'))
        refine go_aload_n dX11_takesOnPaper_80 rfl ?_
        refine go_aload_n dX11_takesOnPaper_81 rfl ?_
        refine go_getRe (k := 15) ⟨by decide, rfl, by decide, Or.inr ⟨_, rfl⟩⟩ RK.1 (rf_r9 RK) fl_X11_59 dX11_takesOnPaper_82 ?_
        refine go_iload_n dX11_takesOnPaper_85 rfl ?_
        refine go_ialdN (j := n1) ⟨by decide, by decide, by decide⟩ (rf_k9 RK) hn1 (by omega) dX11_takesOnPaper_86 ?_
        refine go_bipush (v := (6 : Int32)) rfl dX11_takesOnPaper_87 ?_
        refine go_iconst (v := (3 : Int32)) rfl dX11_takesOnPaper_89 ?_
        obtain ⟨n10, ⟨hn10, hn10b⟩, H⟩ := H
        refine go_V (av := [pv_i (I9 (m + 9) n1), pv_i (6 : Int32), pv_i (3 : Int32)]) (st := []) (ci := 11) ok_X11_is ⟨by decide, by decide⟩ ml_X11_121 rfl (by decide) (fun v hv => by simp only [List.mem_cons, List.not_mem_nil, or_false] at hv; rcases hv with rfl | rfl | rfl <;> first | exact pv_1i | exact pv_1r) (Nat.le_of_ble_eq_true rfl) (fun _ h => h) (by decide) rfl RK.1 dX11_takesOnPaper_90 (rx_is RK hn10 rfl hn10b (by decide)) (fun r M' hq _ => ?_)
        obtain ⟨rfl, _, rfl, rfl⟩ := hq
        show go_W mt_X11_takesOnPaper fr_R 93 [some (pv_r m), some (pv_i x1), some (pv_i x2), some (pv_i v3)] [] (mm_si B (i2_u I9 (m + 1) (200 + 14 * n10 + 6) (3 : Int32))) (qv_ (fun M' => ∃ I', M' = mm_si B I' ∧ P I'))
        obtain ⟨I11, hI11⟩ : ∃ I', I' = i2_u I9 (m + 1) (200 + 14 * n10 + 6) (3 : Int32) := ⟨_, rfl⟩
        rw [← hI11]
        replace H := H I11 hI11
        refine go_iincN (n := n1) (k := 1) hn1 (by decide) rfl rfl dX11_takesOnPaper_93 ?_
        show go_W mt_X11_takesOnPaper fr_R 96 [some (pv_r m), some (pv_i x1), some (pv_i (nI (n1 + 1))), some (pv_i v3)] [] (mm_si B I11) (qv_ (fun M' => ∃ I', M' = mm_si B I' ∧ P I'))
        refine go_goto (tgt := 2) dX11_takesOnPaper_96 (by decide) ?_
        exact go_fg (ls' := [some (pv_r m), some (pv_i x1), some (pv_i (nI (n1 + 1))), none]) ⟨rfl, ⟨rfl, ⟨rfl, trivial⟩⟩⟩ H
      · replace H := H.2 hc
        refine go_goto (tgt := 93) dX11_takesOnPaper_32 (by decide) ?_
        refine go_iincN (n := n1) (k := 1) hn1 (by decide) rfl rfl dX11_takesOnPaper_93 ?_
        show go_W mt_X11_takesOnPaper fr_R 96 [some (pv_r m), some (pv_i x1), some (pv_i (nI (n1 + 1))), some (pv_i v3)] [] (mm_si B I2) (qv_ (fun M' => ∃ I', M' = mm_si B I' ∧ P I'))
        refine go_goto (tgt := 2) dX11_takesOnPaper_96 (by decide) ?_
        exact go_fg (ls' := [some (pv_r m), some (pv_i x1), some (pv_i (nI (n1 + 1))), none]) ⟨rfl, ⟨rfl, ⟨rfl, trivial⟩⟩⟩ H
set_option maxRecDepth 20000 in
theorem wq_X11_nextEvent_0 {B : mm_T} {I : Nat → Nat → Int32} {m : Nat} (RK : rf_ok B m) {x1 : Int32} {P : Int32 → (Nat → Nat → Int32) → Prop} (H : rs_i mt_X11_nextResting [pv_r m] B I (fun v2 I1 => (((¬ v2 = (-1 : Int32)) → ∃ n3, (v2 = nI n3 ∧ n3 < 400) ∧ (rw_i mt_X11_nextEvent 27 [some (pv_r m), some (pv_i x1), some (pv_i v2), some (pv_i (I1 (m + 1) (200 + 14 * n3 + 8))), some (pv_i (0 : Int32))] [] B I1 P)) ∧ ((v2 = (-1 : Int32)) → rw_i mt_X11_nextEvent 27 [some (pv_r m), some (pv_i x1), some (pv_i v2), some (pv_i (2000000000 : Int32)), some (pv_i (0 : Int32))] [] B I1 P)))) : rw_i mt_X11_nextEvent 0 [some (pv_r m), some (pv_i x1), none, none, none] [] B I P := by
  refine go_aload_n dX11_nextEvent_0 rfl ?_
  refine go_V (av := []) (st := []) (ci := 11) ok_X11_nextResting ⟨by decide, by decide⟩ ml_X11_183 rfl (by decide) (fun v hv => absurd hv List.not_mem_nil) (Nat.le_of_ble_eq_true rfl) (fun _ h => h) (by decide) rfl RK.1 dX11_nextEvent_1 H (fun r M' hq _ => ?_)
  obtain ⟨v2, rfl, I1, rfl, H⟩ := hq
  show go_W mt_X11_nextEvent fr_R 4 [some (pv_r m), some (pv_i x1), none, none, none] [pv_i v2] (mm_si B I1) (qi_ (fun x M' => ∃ I', M' = mm_si B I' ∧ P x I'))
  refine go_istore_n (by decide) dX11_nextEvent_4 ?_
  show go_W mt_X11_nextEvent fr_R 5 [some (pv_r m), some (pv_i x1), some (pv_i v2), none, none] [] (mm_si B I1) (qi_ (fun x M' => ∃ I', M' = mm_si B I' ∧ P x I'))
  refine go_iload_n dX11_nextEvent_5 rfl ?_
  refine go_iconst (v := (-1 : Int32)) rfl dX11_nextEvent_6 ?_
  refine go_icmp_ne (tgt := 16) dX11_nextEvent_7 (by decide) (fun hc => ?_) (fun hc => ?_)
  · replace H := H.1 hc
    refine go_aload_n dX11_nextEvent_16 rfl ?_
    refine go_iload_n dX11_nextEvent_17 rfl ?_
    refine go_bipush (v := (8 : Int32)) rfl dX11_nextEvent_18 ?_
    obtain ⟨n3, ⟨hn3, hn3b⟩, H⟩ := H
    refine go_V (av := [pv_i v2, pv_i (8 : Int32)]) (st := []) (ci := 11) ok_X11_of ⟨by decide, by decide⟩ ml_X11_94 rfl (by decide) (fun v hv => by simp only [List.mem_cons, List.not_mem_nil, or_false] at hv; rcases hv with rfl | rfl <;> first | exact pv_1i | exact pv_1r) (Nat.le_of_ble_eq_true rfl) (fun _ h => h) (by decide) rfl RK.1 dX11_nextEvent_20 (rx_of RK hn3 rfl hn3b (by decide)) (fun r M' hq _ => ?_)
    obtain ⟨_, rfl, _, rfl, rfl, rfl⟩ := hq
    show go_W mt_X11_nextEvent fr_R 23 [some (pv_r m), some (pv_i x1), some (pv_i v2), none, none] [pv_i (I1 (m + 1) (200 + 14 * n3 + 8))] (mm_si B I1) (qi_ (fun x M' => ∃ I', M' = mm_si B I' ∧ P x I'))
    refine go_istore_n (by decide) dX11_nextEvent_23 ?_
    show go_W mt_X11_nextEvent fr_R 24 [some (pv_r m), some (pv_i x1), some (pv_i v2), some (pv_i (I1 (m + 1) (200 + 14 * n3 + 8))), none] [] (mm_si B I1) (qi_ (fun x M' => ∃ I', M' = mm_si B I' ∧ P x I'))
    refine go_iconst (v := (0 : Int32)) rfl dX11_nextEvent_24 ?_
    refine go_istore (by decide) dX11_nextEvent_25 ?_
    show go_W mt_X11_nextEvent fr_R 27 [some (pv_r m), some (pv_i x1), some (pv_i v2), some (pv_i (I1 (m + 1) (200 + 14 * n3 + 8))), some (pv_i (0 : Int32))] [] (mm_si B I1) (qi_ (fun x M' => ∃ I', M' = mm_si B I' ∧ P x I'))
    exact H
  · replace H := H.2 hc
    refine go_ldcw (v := (2000000000 : Int32)) kc_X11_294 dX11_nextEvent_10 ?_
    refine go_goto (tgt := 23) dX11_nextEvent_13 (by decide) ?_
    refine go_istore_n (by decide) dX11_nextEvent_23 ?_
    show go_W mt_X11_nextEvent fr_R 24 [some (pv_r m), some (pv_i x1), some (pv_i v2), some (pv_i (2000000000 : Int32)), none] [] (mm_si B I1) (qi_ (fun x M' => ∃ I', M' = mm_si B I' ∧ P x I'))
    refine go_iconst (v := (0 : Int32)) rfl dX11_nextEvent_24 ?_
    refine go_istore (by decide) dX11_nextEvent_25 ?_
    show go_W mt_X11_nextEvent fr_R 27 [some (pv_r m), some (pv_i x1), some (pv_i v2), some (pv_i (2000000000 : Int32)), some (pv_i (0 : Int32))] [] (mm_si B I1) (qi_ (fun x M' => ∃ I', M' = mm_si B I' ∧ P x I'))
    exact H
set_option maxRecDepth 20000 in
theorem wq_X11_nextEvent_27 {B : mm_T} {I : Nat → Nat → Int32} {m : Nat} (RK : rf_ok B m) {x1 x2 x3 x4 : Int32} {P : Int32 → (Nat → Nat → Int32) → Prop} (H : (((x1 ≤ x4) → P x3 I) ∧ ((¬ x1 ≤ x4) → ∃ n1, (x4 = nI n1 ∧ n1 < 6) ∧ ((((¬ I (m + 9) n1 = (-1 : Int32)) → rw_i mt_X11_nextEvent 27 [some (pv_r m), some (pv_i x1), some (pv_i x2), some (pv_i (if I (m + 10) n1 ≤ x3 then I (m + 10) n1 else x3)), some (pv_i (nI (n1 + 1)))] [] B I P) ∧ ((I (m + 9) n1 = (-1 : Int32)) → rw_i mt_X11_nextEvent 27 [some (pv_r m), some (pv_i x1), some (pv_i x2), some (pv_i x3), some (pv_i (nI (n1 + 1)))] [] B I P)))))) : rw_i mt_X11_nextEvent 27 [some (pv_r m), some (pv_i x1), some (pv_i x2), some (pv_i x3), some (pv_i x4)] [] B I P := by
  refine go_iload dX11_nextEvent_27 rfl ?_
  refine go_iload_n dX11_nextEvent_29 rfl ?_
  refine go_icmp_ge (tgt := 66) dX11_nextEvent_30 (by decide) (fun hc => ?_) (fun hc => ?_)
  · replace H := H.1 hc
    refine go_iload_n dX11_nextEvent_66 rfl ?_
    exact go_iret rfl rfl dX11_nextEvent_67 ⟨_, rfl, _, rfl, H⟩
  · replace H := H.2 hc
    refine go_aload_n dX11_nextEvent_33 rfl ?_
    refine go_getRe (k := 15) ⟨by decide, rfl, by decide, Or.inr ⟨_, rfl⟩⟩ RK.1 (rf_r9 RK) fl_X11_59 dX11_nextEvent_34 ?_
    refine go_iload dX11_nextEvent_37 rfl ?_
    obtain ⟨n1, ⟨hn1, hn1b⟩, H⟩ := H
    refine go_ialdN (j := n1) ⟨by decide, by decide, by decide⟩ (rf_k9 RK) hn1 hn1b dX11_nextEvent_39 ?_
    refine go_iconst (v := (-1 : Int32)) rfl dX11_nextEvent_40 ?_
    refine go_icmp_ne (tgt := 48) dX11_nextEvent_41 (by decide) (fun hc => ?_) (fun hc => ?_)
    · replace H := H.1 hc
      refine go_iload_n dX11_nextEvent_48 rfl ?_
      refine go_aload_n dX11_nextEvent_49 rfl ?_
      refine go_getRe (k := 16) ⟨by decide, rfl, by decide, Or.inr ⟨_, rfl⟩⟩ RK.1 (rf_r10 RK) fl_X11_62 dX11_nextEvent_50 ?_
      refine go_iload dX11_nextEvent_53 rfl ?_
      refine go_ialdN (j := n1) ⟨by decide, by decide, by decide⟩ (rf_k10 RK) hn1 (by omega) dX11_nextEvent_55 ?_
      refine go_St (av := [pv_i x3, pv_i (I (m + 10) n1)]) (st := []) ok_X11_lesser ⟨by decide, by decide⟩ ml_X11_267 rfl (by decide) (fun v hv => by simp only [List.mem_cons, List.not_mem_nil, or_false] at hv; rcases hv with rfl | rfl <;> first | exact pv_1i | exact pv_1r) (Nat.le_of_ble_eq_true rfl) (fun _ h => h) dX11_nextEvent_56 (rx_lesser RK) (fun r M' hq _ => ?_)
      obtain ⟨_, rfl, _, rfl, rfl, rfl⟩ := hq
      show go_W mt_X11_nextEvent fr_R 59 [some (pv_r m), some (pv_i x1), some (pv_i x2), some (pv_i x3), some (pv_i x4)] [pv_i (if I (m + 10) n1 ≤ x3 then I (m + 10) n1 else x3)] (mm_si B I) (qi_ (fun x M' => ∃ I', M' = mm_si B I' ∧ P x I'))
      refine go_istore_n (by decide) dX11_nextEvent_59 ?_
      show go_W mt_X11_nextEvent fr_R 60 [some (pv_r m), some (pv_i x1), some (pv_i x2), some (pv_i (if I (m + 10) n1 ≤ x3 then I (m + 10) n1 else x3)), some (pv_i x4)] [] (mm_si B I) (qi_ (fun x M' => ∃ I', M' = mm_si B I' ∧ P x I'))
      refine go_iincN (n := n1) (k := 1) hn1 (by decide) rfl rfl dX11_nextEvent_60 ?_
      show go_W mt_X11_nextEvent fr_R 63 [some (pv_r m), some (pv_i x1), some (pv_i x2), some (pv_i (if I (m + 10) n1 ≤ x3 then I (m + 10) n1 else x3)), some (pv_i (nI (n1 + 1)))] [] (mm_si B I) (qi_ (fun x M' => ∃ I', M' = mm_si B I' ∧ P x I'))
      refine go_goto (tgt := 27) dX11_nextEvent_63 (by decide) ?_
      exact H
    · replace H := H.2 hc
      refine go_iload_n dX11_nextEvent_44 rfl ?_
      refine go_goto (tgt := 59) dX11_nextEvent_45 (by decide) ?_
      refine go_istore_n (by decide) dX11_nextEvent_59 ?_
      show go_W mt_X11_nextEvent fr_R 60 [some (pv_r m), some (pv_i x1), some (pv_i x2), some (pv_i x3), some (pv_i x4)] [] (mm_si B I) (qi_ (fun x M' => ∃ I', M' = mm_si B I' ∧ P x I'))
      refine go_iincN (n := n1) (k := 1) hn1 (by decide) rfl rfl dX11_nextEvent_60 ?_
      show go_W mt_X11_nextEvent fr_R 63 [some (pv_r m), some (pv_i x1), some (pv_i x2), some (pv_i x3), some (pv_i (nI (n1 + 1)))] [] (mm_si B I) (qi_ (fun x M' => ∃ I', M' = mm_si B I' ∧ P x I'))
      refine go_goto (tgt := 27) dX11_nextEvent_63 (by decide) ?_
      exact H
set_option maxRecDepth 20000 in
theorem wq_X11_finishes_0 {B : mm_T} {I : Nat → Nat → Int32} {m : Nat} (RK : rf_ok B m) {x1 x2 : Int32} {P : Int32 → (Nat → Nat → Int32) → Prop} (H : rs_v mt_X11_begins [pv_r m] B I (fun I1 => ∀ I2, I2 = i2_u I1 m 17 (-1 : Int32) → ∀ I3, I3 = i2_u I2 m 18 (0 : Int32) → ∀ I4, I4 = i2_u I3 m 19 (-1 : Int32) → rw_i mt_X11_finishes 29 [some (pv_r m), some (pv_i x1), some (pv_i x2), some (pv_i (I1 (m + 1) 0)), some (pv_i (0 : Int32)), none, none, none] [] B I4 P)) : rw_i mt_X11_finishes 0 [some (pv_r m), some (pv_i x1), some (pv_i x2), none, none, none, none, none] [] B I P := by
  refine go_aload_n dX11_finishes_0 rfl ?_
  refine go_V (av := []) (st := []) (ci := 11) ok_X11_begins ⟨by decide, by decide⟩ ml_X11_282 rfl (by decide) (fun v hv => absurd hv List.not_mem_nil) (Nat.le_of_ble_eq_true rfl) (fun _ h => h) (by decide) rfl RK.1 dX11_finishes_1 H (fun r M' hq _ => ?_)
  obtain ⟨rfl, I1, rfl, H⟩ := hq
  show go_W mt_X11_finishes fr_R 4 [some (pv_r m), some (pv_i x1), some (pv_i x2), none, none, none, none, none] [] (mm_si B I1) (qi_ (fun x M' => ∃ I', M' = mm_si B I' ∧ P x I'))
  refine go_aload_n dX11_finishes_4 rfl ?_
  refine go_getRe (k := 0) ⟨by decide, rfl, by decide, Or.inr ⟨_, rfl⟩⟩ RK.1 (rf_r1 RK) fl_X11_7 dX11_finishes_5 ?_
  refine go_iconst (v := (0 : Int32)) rfl dX11_finishes_8 ?_
  refine go_ialdN (j := 0) ⟨by decide, by decide, by decide⟩ (rf_k1 RK) rfl (by decide) dX11_finishes_9 ?_
  refine go_istore_n (by decide) dX11_finishes_10 ?_
  show go_W mt_X11_finishes fr_R 11 [some (pv_r m), some (pv_i x1), some (pv_i x2), some (pv_i (I1 (m + 1) 0)), none, none, none, none] [] (mm_si B I1) (qi_ (fun x M' => ∃ I', M' = mm_si B I' ∧ P x I'))
  refine go_aload_n dX11_finishes_11 rfl ?_
  refine go_iconst (v := (-1 : Int32)) rfl dX11_finishes_12 ?_
  refine go_putI (k := 17) ⟨by decide, rfl, by decide, rfl⟩ RK.1 rfl (Or.inl rfl) fl_X11_65 dX11_finishes_13 ?_
  show go_W mt_X11_finishes fr_R 16 [some (pv_r m), some (pv_i x1), some (pv_i x2), some (pv_i (I1 (m + 1) 0)), none, none, none, none] [] (mm_si B (i2_u I1 m 17 (-1 : Int32))) (qi_ (fun x M' => ∃ I', M' = mm_si B I' ∧ P x I'))
  obtain ⟨I2, hI2⟩ : ∃ I', I' = i2_u I1 m 17 (-1 : Int32) := ⟨_, rfl⟩
  rw [← hI2]
  replace H := H I2 hI2
  refine go_aload_n dX11_finishes_16 rfl ?_
  refine go_iconst (v := (0 : Int32)) rfl dX11_finishes_17 ?_
  refine go_putI (k := 18) ⟨by decide, rfl, by decide, rfl⟩ RK.1 rfl (Or.inl rfl) fl_X11_68 dX11_finishes_18 ?_
  show go_W mt_X11_finishes fr_R 21 [some (pv_r m), some (pv_i x1), some (pv_i x2), some (pv_i (I1 (m + 1) 0)), none, none, none, none] [] (mm_si B (i2_u I2 m 18 (0 : Int32))) (qi_ (fun x M' => ∃ I', M' = mm_si B I' ∧ P x I'))
  obtain ⟨I3, hI3⟩ : ∃ I', I' = i2_u I2 m 18 (0 : Int32) := ⟨_, rfl⟩
  rw [← hI3]
  replace H := H I3 hI3
  refine go_aload_n dX11_finishes_21 rfl ?_
  refine go_iconst (v := (-1 : Int32)) rfl dX11_finishes_22 ?_
  refine go_putI (k := 19) ⟨by decide, rfl, by decide, rfl⟩ RK.1 rfl (Or.inl rfl) fl_X11_71 dX11_finishes_23 ?_
  show go_W mt_X11_finishes fr_R 26 [some (pv_r m), some (pv_i x1), some (pv_i x2), some (pv_i (I1 (m + 1) 0)), none, none, none, none] [] (mm_si B (i2_u I3 m 19 (-1 : Int32))) (qi_ (fun x M' => ∃ I', M' = mm_si B I' ∧ P x I'))
  obtain ⟨I4, hI4⟩ : ∃ I', I' = i2_u I3 m 19 (-1 : Int32) := ⟨_, rfl⟩
  rw [← hI4]
  replace H := H I4 hI4
  refine go_iconst (v := (0 : Int32)) rfl dX11_finishes_26 ?_
  refine go_istore (by decide) dX11_finishes_27 ?_
  show go_W mt_X11_finishes fr_R 29 [some (pv_r m), some (pv_i x1), some (pv_i x2), some (pv_i (I1 (m + 1) 0)), some (pv_i (0 : Int32)), none, none, none] [] (mm_si B I4) (qi_ (fun x M' => ∃ I', M' = mm_si B I' ∧ P x I'))
  exact H
set_option maxRecDepth 20000 in
theorem wq_X11_finishes_29 {B : mm_T} {I : Nat → Nat → Int32} {m : Nat} (RK : rf_ok B m) {x1 x2 x3 x4 : Int32} {P : Int32 → (Nat → Nat → Int32) → Prop} (H : ((((6 : Int32) ≤ x4) → rw_i mt_X11_finishes 61 [some (pv_r m), some (pv_i x1), some (pv_i x2), some (pv_i x3), some (pv_i (I (m + 1) 1)), some (pv_i (0 : Int32)), none, none] [] B I P) ∧ ((¬ (6 : Int32) ≤ x4) → ∃ n1, (x4 = nI n1 ∧ n1 < 6) ∧ (∀ I2, I2 = i2_u I (m + 9) n1 (-1 : Int32) → rw_i mt_X11_finishes 29 [some (pv_r m), some (pv_i x1), some (pv_i x2), some (pv_i x3), some (pv_i (nI (n1 + 1))), none, none, none] [] B I2 P)))) : rw_i mt_X11_finishes 29 [some (pv_r m), some (pv_i x1), some (pv_i x2), some (pv_i x3), some (pv_i x4), none, none, none] [] B I P := by
  refine go_iload dX11_finishes_29 rfl ?_
  refine go_bipush (v := (6 : Int32)) rfl dX11_finishes_31 ?_
  refine go_icmp_ge (tgt := 50) dX11_finishes_33 (by decide) (fun hc => ?_) (fun hc => ?_)
  · replace H := H.1 hc
    refine go_aload_n dX11_finishes_50 rfl ?_
    refine go_getRe (k := 0) ⟨by decide, rfl, by decide, Or.inr ⟨_, rfl⟩⟩ RK.1 (rf_r1 RK) fl_X11_7 dX11_finishes_51 ?_
    refine go_iconst (v := (1 : Int32)) rfl dX11_finishes_54 ?_
    refine go_ialdN (j := 1) ⟨by decide, by decide, by decide⟩ (rf_k1 RK) rfl (by decide) dX11_finishes_55 ?_
    refine go_istore (by decide) dX11_finishes_56 ?_
    show go_W mt_X11_finishes fr_R 58 [some (pv_r m), some (pv_i x1), some (pv_i x2), some (pv_i x3), some (pv_i (I (m + 1) 1)), none, none, none] [] (mm_si B I) (qi_ (fun x M' => ∃ I', M' = mm_si B I' ∧ P x I'))
    refine go_iconst (v := (0 : Int32)) rfl dX11_finishes_58 ?_
    refine go_istore (by decide) dX11_finishes_59 ?_
    show go_W mt_X11_finishes fr_R 61 [some (pv_r m), some (pv_i x1), some (pv_i x2), some (pv_i x3), some (pv_i (I (m + 1) 1)), some (pv_i (0 : Int32)), none, none] [] (mm_si B I) (qi_ (fun x M' => ∃ I', M' = mm_si B I' ∧ P x I'))
    exact H
  · replace H := H.2 hc
    refine go_aload_n dX11_finishes_36 rfl ?_
    refine go_getRe (k := 15) ⟨by decide, rfl, by decide, Or.inr ⟨_, rfl⟩⟩ RK.1 (rf_r9 RK) fl_X11_59 dX11_finishes_37 ?_
    refine go_iload dX11_finishes_40 rfl ?_
    refine go_iconst (v := (-1 : Int32)) rfl dX11_finishes_42 ?_
    obtain ⟨n1, ⟨hn1, hn1b⟩, H⟩ := H
    refine go_iastN (j := n1) ⟨by decide, by decide, by decide⟩ (rf_k9 RK) rfl hn1 hn1b dX11_finishes_43 ?_
    show go_W mt_X11_finishes fr_R 44 [some (pv_r m), some (pv_i x1), some (pv_i x2), some (pv_i x3), some (pv_i x4), none, none, none] [] (mm_si B (i2_u I (m + 9) n1 (-1 : Int32))) (qi_ (fun x M' => ∃ I', M' = mm_si B I' ∧ P x I'))
    obtain ⟨I2, hI2⟩ : ∃ I', I' = i2_u I (m + 9) n1 (-1 : Int32) := ⟨_, rfl⟩
    rw [← hI2]
    replace H := H I2 hI2
    refine go_iincN (n := n1) (k := 1) hn1 (by decide) rfl rfl dX11_finishes_44 ?_
    show go_W mt_X11_finishes fr_R 47 [some (pv_r m), some (pv_i x1), some (pv_i x2), some (pv_i x3), some (pv_i (nI (n1 + 1))), none, none, none] [] (mm_si B I2) (qi_ (fun x M' => ∃ I', M' = mm_si B I' ∧ P x I'))
    refine go_goto (tgt := 29) dX11_finishes_47 (by decide) ?_
    exact H
set_option maxRecDepth 20000 in
theorem wq_X11_finishes_61 {B : mm_T} {I : Nat → Nat → Int32} {m : Nat} (RK : rf_ok B m) {x1 x2 x3 x4 x5 : Int32} {P : Int32 → (Nat → Nat → Int32) → Prop} (H : (((x4 ≤ x5) → rw_i mt_X11_finishes 101 [some (pv_r m), some (pv_i x1), some (pv_i x2), some (pv_i x3), some (pv_i x4), some (pv_i (0 : Int32)), none, none] [] B I P) ∧ ((¬ x4 ≤ x5) → ∃ n1, (x5 = nI n1 ∧ n1 < 400) ∧ ((((¬ I (m + 1) (200 + 14 * n1 + 6) = (3 : Int32)) → ∀ I2, I2 = i2_u I (m + 11) n1 (0 : Int32) → rw_i mt_X11_finishes 61 [some (pv_r m), some (pv_i x1), some (pv_i x2), some (pv_i x3), some (pv_i x4), some (pv_i (nI (n1 + 1))), none, none] [] B I2 P) ∧ ((I (m + 1) (200 + 14 * n1 + 6) = (3 : Int32)) → ∀ I3, I3 = i2_u I (m + 11) n1 (1 : Int32) → rw_i mt_X11_finishes 61 [some (pv_r m), some (pv_i x1), some (pv_i x2), some (pv_i x3), some (pv_i x4), some (pv_i (nI (n1 + 1))), none, none] [] B I3 P)))))) : rw_i mt_X11_finishes 61 [some (pv_r m), some (pv_i x1), some (pv_i x2), some (pv_i x3), some (pv_i x4), some (pv_i x5), none, none] [] B I P := by
  refine go_iload dX11_finishes_61 rfl ?_
  refine go_iload dX11_finishes_63 rfl ?_
  refine go_icmp_ge (tgt := 98) dX11_finishes_65 (by decide) (fun hc => ?_) (fun hc => ?_)
  · replace H := H.1 hc
    refine go_iconst (v := (0 : Int32)) rfl dX11_finishes_98 ?_
    refine go_istore (by decide) dX11_finishes_99 ?_
    show go_W mt_X11_finishes fr_R 101 [some (pv_r m), some (pv_i x1), some (pv_i x2), some (pv_i x3), some (pv_i x4), some (pv_i (0 : Int32)), none, none] [] (mm_si B I) (qi_ (fun x M' => ∃ I', M' = mm_si B I' ∧ P x I'))
    exact H
  · replace H := H.2 hc
    refine go_aload_n dX11_finishes_68 rfl ?_
    refine go_getRe (k := 20) ⟨by decide, rfl, by decide, Or.inr ⟨_, rfl⟩⟩ RK.1 (rf_r11 RK) fl_X11_74 dX11_finishes_69 ?_
    refine go_iload dX11_finishes_72 rfl ?_
    refine go_aload_n dX11_finishes_74 rfl ?_
    refine go_iload dX11_finishes_75 rfl ?_
    refine go_bipush (v := (6 : Int32)) rfl dX11_finishes_77 ?_
    obtain ⟨n1, ⟨hn1, hn1b⟩, H⟩ := H
    refine go_V (av := [pv_i x5, pv_i (6 : Int32)]) (st := [pv_i x5, pv_r (m + 11)]) (ci := 11) ok_X11_of ⟨by decide, by decide⟩ ml_X11_94 rfl (by decide) (fun v hv => by simp only [List.mem_cons, List.not_mem_nil, or_false] at hv; rcases hv with rfl | rfl <;> first | exact pv_1i | exact pv_1r) (Nat.le_of_ble_eq_true rfl) (fun _ h => h) (by decide) rfl RK.1 dX11_finishes_79 (rx_of RK hn1 rfl hn1b (by decide)) (fun r M' hq _ => ?_)
    obtain ⟨_, rfl, _, rfl, rfl, rfl⟩ := hq
    show go_W mt_X11_finishes fr_R 82 [some (pv_r m), some (pv_i x1), some (pv_i x2), some (pv_i x3), some (pv_i x4), some (pv_i x5), none, none] [pv_i (I (m + 1) (200 + 14 * n1 + 6)), pv_i x5, pv_r (m + 11)] (mm_si B I) (qi_ (fun x M' => ∃ I', M' = mm_si B I' ∧ P x I'))
    refine go_iconst (v := (3 : Int32)) rfl dX11_finishes_82 ?_
    refine go_icmp_ne (tgt := 90) dX11_finishes_83 (by decide) (fun hc => ?_) (fun hc => ?_)
    · replace H := H.1 hc
      refine go_iconst (v := (0 : Int32)) rfl dX11_finishes_90 ?_
      refine go_zastN (Or.inl rfl) (j := n1) ⟨by decide, by decide, by decide⟩ (rf_k11 RK) rfl hn1 (by omega) dX11_finishes_91 ?_
      show go_W mt_X11_finishes fr_R 92 [some (pv_r m), some (pv_i x1), some (pv_i x2), some (pv_i x3), some (pv_i x4), some (pv_i x5), none, none] [] (mm_si B (i2_u I (m + 11) n1 (0 : Int32))) (qi_ (fun x M' => ∃ I', M' = mm_si B I' ∧ P x I'))
      obtain ⟨I2, hI2⟩ : ∃ I', I' = i2_u I (m + 11) n1 (0 : Int32) := ⟨_, rfl⟩
      rw [← hI2]
      replace H := H I2 hI2
      refine go_iincN (n := n1) (k := 1) hn1 (by decide) rfl rfl dX11_finishes_92 ?_
      show go_W mt_X11_finishes fr_R 95 [some (pv_r m), some (pv_i x1), some (pv_i x2), some (pv_i x3), some (pv_i x4), some (pv_i (nI (n1 + 1))), none, none] [] (mm_si B I2) (qi_ (fun x M' => ∃ I', M' = mm_si B I' ∧ P x I'))
      refine go_goto (tgt := 61) dX11_finishes_95 (by decide) ?_
      exact H
    · replace H := H.2 hc
      refine go_iconst (v := (1 : Int32)) rfl dX11_finishes_86 ?_
      refine go_goto (tgt := 91) dX11_finishes_87 (by decide) ?_
      refine go_zastN (Or.inr rfl) (j := n1) ⟨by decide, by decide, by decide⟩ (rf_k11 RK) rfl hn1 (by omega) dX11_finishes_91 ?_
      show go_W mt_X11_finishes fr_R 92 [some (pv_r m), some (pv_i x1), some (pv_i x2), some (pv_i x3), some (pv_i x4), some (pv_i x5), none, none] [] (mm_si B (i2_u I (m + 11) n1 (1 : Int32))) (qi_ (fun x M' => ∃ I', M' = mm_si B I' ∧ P x I'))
      obtain ⟨I3, hI3⟩ : ∃ I', I' = i2_u I (m + 11) n1 (1 : Int32) := ⟨_, rfl⟩
      rw [← hI3]
      replace H := H I3 hI3
      refine go_iincN (n := n1) (k := 1) hn1 (by decide) rfl rfl dX11_finishes_92 ?_
      show go_W mt_X11_finishes fr_R 95 [some (pv_r m), some (pv_i x1), some (pv_i x2), some (pv_i x3), some (pv_i x4), some (pv_i (nI (n1 + 1))), none, none] [] (mm_si B I3) (qi_ (fun x M' => ∃ I', M' = mm_si B I' ∧ P x I'))
      refine go_goto (tgt := 61) dX11_finishes_95 (by decide) ?_
      exact H
set_option maxRecDepth 20000 in
theorem wq_X11_finishes_101 {B : mm_T} {I : Nat → Nat → Int32} {m : Nat} (RK : rf_ok B m) {x1 x2 x3 x4 x5 : Int32} {P : Int32 → (Nat → Nat → Int32) → Prop} (H : (((x4 ≤ x5) → rw_i mt_X11_finishes 142 [some (pv_r m), some (pv_i x1), some (pv_i x2), some (pv_i x3), some (pv_i x4), some (pv_i (1 : Int32)), none, none] [] B I P) ∧ ((¬ x4 ≤ x5) → ∃ n1, (x5 = nI n1 ∧ n1 < 400) ∧ ((((¬ I (m + 11) n1 = 0) → rs_v mt_X11_frees [pv_r m, pv_i x5] B I (fun I2 => ∀ I3, I3 = i2_u I2 m 17 x5 → rw_i mt_X11_finishes 101 [some (pv_r m), some (pv_i x1), some (pv_i x2), some (pv_i x3), some (pv_i x4), some (pv_i (nI (n1 + 1))), none, none] [] B I3 P)) ∧ ((I (m + 11) n1 = 0) → rw_i mt_X11_finishes 101 [some (pv_r m), some (pv_i x1), some (pv_i x2), some (pv_i x3), some (pv_i x4), some (pv_i (nI (n1 + 1))), none, none] [] B I P)))))) : rw_i mt_X11_finishes 101 [some (pv_r m), some (pv_i x1), some (pv_i x2), some (pv_i x3), some (pv_i x4), some (pv_i x5), none, none] [] B I P := by
  refine go_iload dX11_finishes_101 rfl ?_
  refine go_iload dX11_finishes_103 rfl ?_
  refine go_icmp_ge (tgt := 139) dX11_finishes_105 (by decide) (fun hc => ?_) (fun hc => ?_)
  · replace H := H.1 hc
    refine go_iconst (v := (1 : Int32)) rfl dX11_finishes_139 ?_
    refine go_istore (by decide) dX11_finishes_140 ?_
    show go_W mt_X11_finishes fr_R 142 [some (pv_r m), some (pv_i x1), some (pv_i x2), some (pv_i x3), some (pv_i x4), some (pv_i (1 : Int32)), none, none] [] (mm_si B I) (qi_ (fun x M' => ∃ I', M' = mm_si B I' ∧ P x I'))
    exact H
  · replace H := H.2 hc
    refine go_aload_n dX11_finishes_108 rfl ?_
    refine go_getRe (k := 20) ⟨by decide, rfl, by decide, Or.inr ⟨_, rfl⟩⟩ RK.1 (rf_r11 RK) fl_X11_74 dX11_finishes_109 ?_
    refine go_iload dX11_finishes_112 rfl ?_
    obtain ⟨n1, ⟨hn1, hn1b⟩, H⟩ := H
    refine go_zaldN (j := n1) ⟨by decide, by decide, by decide⟩ (rf_k11 RK) hn1 hn1b dX11_finishes_114 ?_
    refine go_if_ne (tgt := 121) dX11_finishes_115 (by decide) (fun hc => ?_) (fun hc => ?_)
    · replace H := H.1 hc
      refine go_aload_n dX11_finishes_121 rfl ?_
      refine go_iload dX11_finishes_122 rfl ?_
      refine go_V (av := [pv_i x5]) (st := []) (ci := 11) ok_X11_frees ⟨by decide, by decide⟩ ml_X11_140 rfl (by decide) (fun v hv => by simp only [List.mem_cons, List.not_mem_nil, or_false] at hv; rcases hv with rfl <;> first | exact pv_1i | exact pv_1r) (Nat.le_of_ble_eq_true rfl) (fun _ h => h) (by decide) rfl RK.1 dX11_finishes_124 H (fun r M' hq _ => ?_)
      obtain ⟨rfl, I2, rfl, H⟩ := hq
      show go_W mt_X11_finishes fr_R 127 [some (pv_r m), some (pv_i x1), some (pv_i x2), some (pv_i x3), some (pv_i x4), some (pv_i x5), none, none] [] (mm_si B I2) (qi_ (fun x M' => ∃ I', M' = mm_si B I' ∧ P x I'))
      refine go_aload_n dX11_finishes_127 rfl ?_
      refine go_iload dX11_finishes_128 rfl ?_
      refine go_putI (k := 17) ⟨by decide, rfl, by decide, rfl⟩ RK.1 rfl (Or.inl rfl) fl_X11_65 dX11_finishes_130 ?_
      show go_W mt_X11_finishes fr_R 133 [some (pv_r m), some (pv_i x1), some (pv_i x2), some (pv_i x3), some (pv_i x4), some (pv_i x5), none, none] [] (mm_si B (i2_u I2 m 17 x5)) (qi_ (fun x M' => ∃ I', M' = mm_si B I' ∧ P x I'))
      obtain ⟨I3, hI3⟩ : ∃ I', I' = i2_u I2 m 17 x5 := ⟨_, rfl⟩
      rw [← hI3]
      replace H := H I3 hI3
      refine go_iincN (n := n1) (k := 1) hn1 (by decide) rfl rfl dX11_finishes_133 ?_
      show go_W mt_X11_finishes fr_R 136 [some (pv_r m), some (pv_i x1), some (pv_i x2), some (pv_i x3), some (pv_i x4), some (pv_i (nI (n1 + 1))), none, none] [] (mm_si B I3) (qi_ (fun x M' => ∃ I', M' = mm_si B I' ∧ P x I'))
      refine go_goto (tgt := 101) dX11_finishes_136 (by decide) ?_
      exact H
    · replace H := H.2 hc
      refine go_goto (tgt := 133) dX11_finishes_118 (by decide) ?_
      refine go_iincN (n := n1) (k := 1) hn1 (by decide) rfl rfl dX11_finishes_133 ?_
      show go_W mt_X11_finishes fr_R 136 [some (pv_r m), some (pv_i x1), some (pv_i x2), some (pv_i x3), some (pv_i x4), some (pv_i (nI (n1 + 1))), none, none] [] (mm_si B I) (qi_ (fun x M' => ∃ I', M' = mm_si B I' ∧ P x I'))
      refine go_goto (tgt := 101) dX11_finishes_136 (by decide) ?_
      exact H
set_option maxRecDepth 20000 in
theorem wq_X11_finishes_142 {B : mm_T} {I : Nat → Nat → Int32} {m : Nat} (RK : rf_ok B m) {x1 x2 x3 x4 x5 : Int32} {P : Int32 → (Nat → Nat → Int32) → Prop} (H : (((x5 = 0) → rs_v mt_X11_ends [pv_r m] B I (fun I1 => P (I (m + 1) 0 - x3) I1)) ∧ ((¬ x5 = 0) → rs_v mt_X11_doneOnPaper [pv_r m, pv_i x1] B I (fun I2 => rs_v mt_X11_wakes [pv_r m] B I2 (fun I3 => rs_v mt_X11_takesOnPaper [pv_r m, pv_i x1] B I3 (fun I4 => (((x2 = (-1 : Int32)) → rs_i mt_X11_standing [pv_r m, pv_i (-1 : Int32)] B I4 (fun v6 I5 => (((v6 ≤ 0) → rw_i mt_X11_finishes 235 [some (pv_r m), some (pv_i x1), some (pv_i x2), some (pv_i x3), some (pv_i x4), some (pv_i (0 : Int32)), some (pv_i (0 : Int32)), some (pv_i (0 : Int32))] [] B I5 P) ∧ ((¬ v6 ≤ 0) → rs_i mt_X11_nextEvent [pv_r m, pv_i x1] B I5 (fun v8 I7 => rw_i mt_X11_finishes 235 [some (pv_r m), some (pv_i x1), some (pv_i x2), some (pv_i x3), some (pv_i x4), some (pv_i (1 : Int32)), some (pv_i (v8 - I7 (m + 1) 0)), some (pv_i (0 : Int32))] [] B I7 P))))) ∧ ((¬ x2 = (-1 : Int32)) → (((¬ I4 m 19 = (-1 : Int32)) → rs_i mt_X11_standing [pv_r m, pv_i (-1 : Int32)] B I4 (fun v10 I9 => (((v10 ≤ 0) → rw_i mt_X11_finishes 235 [some (pv_r m), some (pv_i x1), some (pv_i x2), some (pv_i x3), some (pv_i x4), some (pv_i (0 : Int32)), some (pv_i (0 : Int32)), some (pv_i (0 : Int32))] [] B I9 P) ∧ ((¬ v10 ≤ 0) → rs_i mt_X11_nextEvent [pv_r m, pv_i x1] B I9 (fun v12 I11 => rw_i mt_X11_finishes 235 [some (pv_r m), some (pv_i x1), some (pv_i x2), some (pv_i x3), some (pv_i x4), some (pv_i (1 : Int32)), some (pv_i (v12 - I11 (m + 1) 0)), some (pv_i (0 : Int32))] [] B I11 P))))) ∧ ((I4 m 19 = (-1 : Int32)) → rs_i mt_X11_standing [pv_r m, pv_i x2] B I4 (fun v14 I13 => (((¬ v14 = 0) → rs_i mt_X11_standing [pv_r m, pv_i (-1 : Int32)] B I13 (fun v16 I15 => (((v16 ≤ 0) → rw_i mt_X11_finishes 235 [some (pv_r m), some (pv_i x1), some (pv_i x2), some (pv_i x3), some (pv_i x4), some (pv_i (0 : Int32)), some (pv_i (0 : Int32)), some (pv_i (0 : Int32))] [] B I15 P) ∧ ((¬ v16 ≤ 0) → rs_i mt_X11_nextEvent [pv_r m, pv_i x1] B I15 (fun v18 I17 => rw_i mt_X11_finishes 235 [some (pv_r m), some (pv_i x1), some (pv_i x2), some (pv_i x3), some (pv_i x4), some (pv_i (1 : Int32)), some (pv_i (v18 - I17 (m + 1) 0)), some (pv_i (0 : Int32))] [] B I17 P))))) ∧ ((v14 = 0) → ∀ I19, I19 = i2_u I13 m 19 (I13 (m + 1) 0 - x3) → rs_i mt_X11_standing [pv_r m, pv_i (-1 : Int32)] B I19 (fun v21 I20 => (((v21 ≤ 0) → rw_i mt_X11_finishes 235 [some (pv_r m), some (pv_i x1), some (pv_i x2), some (pv_i x3), some (pv_i x4), some (pv_i (0 : Int32)), some (pv_i (0 : Int32)), some (pv_i (0 : Int32))] [] B I20 P) ∧ ((¬ v21 ≤ 0) → rs_i mt_X11_nextEvent [pv_r m, pv_i x1] B I20 (fun v23 I22 => rw_i mt_X11_finishes 235 [some (pv_r m), some (pv_i x1), some (pv_i x2), some (pv_i x3), some (pv_i x4), some (pv_i (1 : Int32)), some (pv_i (v23 - I22 (m + 1) 0)), some (pv_i (0 : Int32))] [] B I22 P))))))))))))))))) : rw_i mt_X11_finishes 142 [some (pv_r m), some (pv_i x1), some (pv_i x2), some (pv_i x3), some (pv_i x4), some (pv_i x5), none, none] [] B I P := by
  refine go_iload dX11_finishes_142 rfl ?_
  refine go_if_eq (tgt := 287) dX11_finishes_144 (by decide) (fun hc => ?_) (fun hc => ?_)
  · replace H := H.1 hc
    refine go_aload_n dX11_finishes_287 rfl ?_
    refine go_getRe (k := 0) ⟨by decide, rfl, by decide, Or.inr ⟨_, rfl⟩⟩ RK.1 (rf_r1 RK) fl_X11_7 dX11_finishes_288 ?_
    refine go_iconst (v := (0 : Int32)) rfl dX11_finishes_291 ?_
    refine go_ialdN (j := 0) ⟨by decide, by decide, by decide⟩ (rf_k1 RK) rfl (by decide) dX11_finishes_292 ?_
    refine go_iload_n dX11_finishes_293 rfl ?_
    refine go_isub dX11_finishes_294 ?_
    refine go_istore (by decide) dX11_finishes_295 ?_
    show go_W mt_X11_finishes fr_R 297 [some (pv_r m), some (pv_i x1), some (pv_i x2), some (pv_i x3), some (pv_i x4), some (pv_i x5), some (pv_i (I (m + 1) 0 - x3)), none] [] (mm_si B I) (qi_ (fun x M' => ∃ I', M' = mm_si B I' ∧ P x I'))
    refine go_aload_n dX11_finishes_297 rfl ?_
    refine go_V (av := []) (st := []) (ci := 11) ok_X11_ends ⟨by decide, by decide⟩ ml_X11_288 rfl (by decide) (fun v hv => absurd hv List.not_mem_nil) (Nat.le_of_ble_eq_true rfl) (fun _ h => h) (by decide) rfl RK.1 dX11_finishes_298 H (fun r M' hq _ => ?_)
    obtain ⟨rfl, I1, rfl, H⟩ := hq
    show go_W mt_X11_finishes fr_R 301 [some (pv_r m), some (pv_i x1), some (pv_i x2), some (pv_i x3), some (pv_i x4), some (pv_i x5), some (pv_i (I (m + 1) 0 - x3)), none] [] (mm_si B I1) (qi_ (fun x M' => ∃ I', M' = mm_si B I' ∧ P x I'))
    refine go_iload dX11_finishes_301 rfl ?_
    exact go_iret rfl rfl dX11_finishes_303 ⟨_, rfl, _, rfl, H⟩
  · replace H := H.2 hc
    refine go_aload_n dX11_finishes_147 rfl ?_
    refine go_iload_n dX11_finishes_148 rfl ?_
    refine go_V (av := [pv_i x1]) (st := []) (ci := 11) ok_X11_doneOnPaper ⟨by decide, by decide⟩ ml_X11_298 rfl (by decide) (fun v hv => by simp only [List.mem_cons, List.not_mem_nil, or_false] at hv; rcases hv with rfl <;> first | exact pv_1i | exact pv_1r) (Nat.le_of_ble_eq_true rfl) (fun _ h => h) (by decide) rfl RK.1 dX11_finishes_149 H (fun r M' hq _ => ?_)
    obtain ⟨rfl, I2, rfl, H⟩ := hq
    show go_W mt_X11_finishes fr_R 152 [some (pv_r m), some (pv_i x1), some (pv_i x2), some (pv_i x3), some (pv_i x4), some (pv_i x5), none, none] [] (mm_si B I2) (qi_ (fun x M' => ∃ I', M' = mm_si B I' ∧ P x I'))
    refine go_aload_n dX11_finishes_152 rfl ?_
    refine go_V (av := []) (st := []) (ci := 11) ok_X11_wakes ⟨by decide, by decide⟩ ml_X11_190 rfl (by decide) (fun v hv => absurd hv List.not_mem_nil) (Nat.le_of_ble_eq_true rfl) (fun _ h => h) (by decide) rfl RK.1 dX11_finishes_153 H (fun r M' hq _ => ?_)
    obtain ⟨rfl, I3, rfl, H⟩ := hq
    show go_W mt_X11_finishes fr_R 156 [some (pv_r m), some (pv_i x1), some (pv_i x2), some (pv_i x3), some (pv_i x4), some (pv_i x5), none, none] [] (mm_si B I3) (qi_ (fun x M' => ∃ I', M' = mm_si B I' ∧ P x I'))
    refine go_aload_n dX11_finishes_156 rfl ?_
    refine go_iload_n dX11_finishes_157 rfl ?_
    refine go_V (av := [pv_i x1]) (st := []) (ci := 11) ok_X11_takesOnPaper ⟨by decide, by decide⟩ ml_X11_301 rfl (by decide) (fun v hv => by simp only [List.mem_cons, List.not_mem_nil, or_false] at hv; rcases hv with rfl <;> first | exact pv_1i | exact pv_1r) (Nat.le_of_ble_eq_true rfl) (fun _ h => h) (by decide) rfl RK.1 dX11_finishes_158 H (fun r M' hq _ => ?_)
    obtain ⟨rfl, I4, rfl, H⟩ := hq
    show go_W mt_X11_finishes fr_R 161 [some (pv_r m), some (pv_i x1), some (pv_i x2), some (pv_i x3), some (pv_i x4), some (pv_i x5), none, none] [] (mm_si B I4) (qi_ (fun x M' => ∃ I', M' = mm_si B I' ∧ P x I'))
    refine go_iload_n dX11_finishes_161 rfl ?_
    refine go_iconst (v := (-1 : Int32)) rfl dX11_finishes_162 ?_
    refine go_icmp_eq (tgt := 194) dX11_finishes_163 (by decide) (fun hc => ?_) (fun hc => ?_)
    · replace H := H.1 hc
      refine go_aload_n dX11_finishes_194 rfl ?_
      refine go_iconst (v := (-1 : Int32)) rfl dX11_finishes_195 ?_
      refine go_V (av := [pv_i (-1 : Int32)]) (st := []) (ci := 11) ok_X11_standing ⟨by decide, by decide⟩ ml_X11_115 rfl (by decide) (fun v hv => by simp only [List.mem_cons, List.not_mem_nil, or_false] at hv; rcases hv with rfl <;> first | exact pv_1i | exact pv_1r) (Nat.le_of_ble_eq_true rfl) (fun _ h => h) (by decide) rfl RK.1 dX11_finishes_196 H (fun r M' hq _ => ?_)
      obtain ⟨v6, rfl, I5, rfl, H⟩ := hq
      show go_W mt_X11_finishes fr_R 199 [some (pv_r m), some (pv_i x1), some (pv_i x2), some (pv_i x3), some (pv_i x4), some (pv_i x5), none, none] [pv_i v6] (mm_si B I5) (qi_ (fun x M' => ∃ I', M' = mm_si B I' ∧ P x I'))
      refine go_if_le (tgt := 206) dX11_finishes_199 (by decide) (fun hc => ?_) (fun hc => ?_)
      · replace H := H.1 hc
        refine go_iconst (v := (0 : Int32)) rfl dX11_finishes_206 ?_
        refine go_istore (by decide) dX11_finishes_207 ?_
        show go_W mt_X11_finishes fr_R 209 [some (pv_r m), some (pv_i x1), some (pv_i x2), some (pv_i x3), some (pv_i x4), some (pv_i (0 : Int32)), none, none] [] (mm_si B I5) (qi_ (fun x M' => ∃ I', M' = mm_si B I' ∧ P x I'))
        refine go_iload dX11_finishes_209 rfl ?_
        refine go_if_eq (tgt := 229) dX11_finishes_211 (by decide) (fun _ => ?_) (fun hc => absurd hc (by decide))
        refine go_iconst (v := (0 : Int32)) rfl dX11_finishes_229 ?_
        refine go_istore (by decide) dX11_finishes_230 ?_
        show go_W mt_X11_finishes fr_R 232 [some (pv_r m), some (pv_i x1), some (pv_i x2), some (pv_i x3), some (pv_i x4), some (pv_i (0 : Int32)), some (pv_i (0 : Int32)), none] [] (mm_si B I5) (qi_ (fun x M' => ∃ I', M' = mm_si B I' ∧ P x I'))
        refine go_iconst (v := (0 : Int32)) rfl dX11_finishes_232 ?_
        refine go_istore (by decide) dX11_finishes_233 ?_
        show go_W mt_X11_finishes fr_R 235 [some (pv_r m), some (pv_i x1), some (pv_i x2), some (pv_i x3), some (pv_i x4), some (pv_i (0 : Int32)), some (pv_i (0 : Int32)), some (pv_i (0 : Int32))] [] (mm_si B I5) (qi_ (fun x M' => ∃ I', M' = mm_si B I' ∧ P x I'))
        exact H
      · replace H := H.2 hc
        refine go_iconst (v := (1 : Int32)) rfl dX11_finishes_202 ?_
        refine go_goto (tgt := 207) dX11_finishes_203 (by decide) ?_
        refine go_istore (by decide) dX11_finishes_207 ?_
        show go_W mt_X11_finishes fr_R 209 [some (pv_r m), some (pv_i x1), some (pv_i x2), some (pv_i x3), some (pv_i x4), some (pv_i (1 : Int32)), none, none] [] (mm_si B I5) (qi_ (fun x M' => ∃ I', M' = mm_si B I' ∧ P x I'))
        refine go_iload dX11_finishes_209 rfl ?_
        refine go_if_eq (tgt := 229) dX11_finishes_211 (by decide) (fun hc => absurd hc (by decide)) (fun _ => ?_)
        refine go_aload_n dX11_finishes_214 rfl ?_
        refine go_iload_n dX11_finishes_215 rfl ?_
        refine go_V (av := [pv_i x1]) (st := []) (ci := 11) ok_X11_nextEvent ⟨by decide, by decide⟩ ml_X11_304 rfl (by decide) (fun v hv => by simp only [List.mem_cons, List.not_mem_nil, or_false] at hv; rcases hv with rfl <;> first | exact pv_1i | exact pv_1r) (Nat.le_of_ble_eq_true rfl) (fun _ h => h) (by decide) rfl RK.1 dX11_finishes_216 H (fun r M' hq _ => ?_)
        obtain ⟨v8, rfl, I7, rfl, H⟩ := hq
        show go_W mt_X11_finishes fr_R 219 [some (pv_r m), some (pv_i x1), some (pv_i x2), some (pv_i x3), some (pv_i x4), some (pv_i (1 : Int32)), none, none] [pv_i v8] (mm_si B I7) (qi_ (fun x M' => ∃ I', M' = mm_si B I' ∧ P x I'))
        refine go_aload_n dX11_finishes_219 rfl ?_
        refine go_getRe (k := 0) ⟨by decide, rfl, by decide, Or.inr ⟨_, rfl⟩⟩ RK.1 (rf_r1 RK) fl_X11_7 dX11_finishes_220 ?_
        refine go_iconst (v := (0 : Int32)) rfl dX11_finishes_223 ?_
        refine go_ialdN (j := 0) ⟨by decide, by decide, by decide⟩ (rf_k1 RK) rfl (by decide) dX11_finishes_224 ?_
        refine go_isub dX11_finishes_225 ?_
        refine go_goto (tgt := 230) dX11_finishes_226 (by decide) ?_
        refine go_istore (by decide) dX11_finishes_230 ?_
        show go_W mt_X11_finishes fr_R 232 [some (pv_r m), some (pv_i x1), some (pv_i x2), some (pv_i x3), some (pv_i x4), some (pv_i (1 : Int32)), some (pv_i (v8 - I7 (m + 1) 0)), none] [] (mm_si B I7) (qi_ (fun x M' => ∃ I', M' = mm_si B I' ∧ P x I'))
        refine go_iconst (v := (0 : Int32)) rfl dX11_finishes_232 ?_
        refine go_istore (by decide) dX11_finishes_233 ?_
        show go_W mt_X11_finishes fr_R 235 [some (pv_r m), some (pv_i x1), some (pv_i x2), some (pv_i x3), some (pv_i x4), some (pv_i (1 : Int32)), some (pv_i (v8 - I7 (m + 1) 0)), some (pv_i (0 : Int32))] [] (mm_si B I7) (qi_ (fun x M' => ∃ I', M' = mm_si B I' ∧ P x I'))
        exact H
    · replace H := H.2 hc
      refine go_aload_n dX11_finishes_166 rfl ?_
      refine go_getI (k := 19) ⟨by decide, rfl, by decide, rfl⟩ RK.1 fl_X11_71 dX11_finishes_167 ?_
      refine go_iconst (v := (-1 : Int32)) rfl dX11_finishes_170 ?_
      refine go_icmp_ne (tgt := 194) dX11_finishes_171 (by decide) (fun hc => ?_) (fun hc => ?_)
      · replace H := H.1 hc
        refine go_aload_n dX11_finishes_194 rfl ?_
        refine go_iconst (v := (-1 : Int32)) rfl dX11_finishes_195 ?_
        refine go_V (av := [pv_i (-1 : Int32)]) (st := []) (ci := 11) ok_X11_standing ⟨by decide, by decide⟩ ml_X11_115 rfl (by decide) (fun v hv => by simp only [List.mem_cons, List.not_mem_nil, or_false] at hv; rcases hv with rfl <;> first | exact pv_1i | exact pv_1r) (Nat.le_of_ble_eq_true rfl) (fun _ h => h) (by decide) rfl RK.1 dX11_finishes_196 H (fun r M' hq _ => ?_)
        obtain ⟨v10, rfl, I9, rfl, H⟩ := hq
        show go_W mt_X11_finishes fr_R 199 [some (pv_r m), some (pv_i x1), some (pv_i x2), some (pv_i x3), some (pv_i x4), some (pv_i x5), none, none] [pv_i v10] (mm_si B I9) (qi_ (fun x M' => ∃ I', M' = mm_si B I' ∧ P x I'))
        refine go_if_le (tgt := 206) dX11_finishes_199 (by decide) (fun hc => ?_) (fun hc => ?_)
        · replace H := H.1 hc
          refine go_iconst (v := (0 : Int32)) rfl dX11_finishes_206 ?_
          refine go_istore (by decide) dX11_finishes_207 ?_
          show go_W mt_X11_finishes fr_R 209 [some (pv_r m), some (pv_i x1), some (pv_i x2), some (pv_i x3), some (pv_i x4), some (pv_i (0 : Int32)), none, none] [] (mm_si B I9) (qi_ (fun x M' => ∃ I', M' = mm_si B I' ∧ P x I'))
          refine go_iload dX11_finishes_209 rfl ?_
          refine go_if_eq (tgt := 229) dX11_finishes_211 (by decide) (fun _ => ?_) (fun hc => absurd hc (by decide))
          refine go_iconst (v := (0 : Int32)) rfl dX11_finishes_229 ?_
          refine go_istore (by decide) dX11_finishes_230 ?_
          show go_W mt_X11_finishes fr_R 232 [some (pv_r m), some (pv_i x1), some (pv_i x2), some (pv_i x3), some (pv_i x4), some (pv_i (0 : Int32)), some (pv_i (0 : Int32)), none] [] (mm_si B I9) (qi_ (fun x M' => ∃ I', M' = mm_si B I' ∧ P x I'))
          refine go_iconst (v := (0 : Int32)) rfl dX11_finishes_232 ?_
          refine go_istore (by decide) dX11_finishes_233 ?_
          show go_W mt_X11_finishes fr_R 235 [some (pv_r m), some (pv_i x1), some (pv_i x2), some (pv_i x3), some (pv_i x4), some (pv_i (0 : Int32)), some (pv_i (0 : Int32)), some (pv_i (0 : Int32))] [] (mm_si B I9) (qi_ (fun x M' => ∃ I', M' = mm_si B I' ∧ P x I'))
          exact H
        · replace H := H.2 hc
          refine go_iconst (v := (1 : Int32)) rfl dX11_finishes_202 ?_
          refine go_goto (tgt := 207) dX11_finishes_203 (by decide) ?_
          refine go_istore (by decide) dX11_finishes_207 ?_
          show go_W mt_X11_finishes fr_R 209 [some (pv_r m), some (pv_i x1), some (pv_i x2), some (pv_i x3), some (pv_i x4), some (pv_i (1 : Int32)), none, none] [] (mm_si B I9) (qi_ (fun x M' => ∃ I', M' = mm_si B I' ∧ P x I'))
          refine go_iload dX11_finishes_209 rfl ?_
          refine go_if_eq (tgt := 229) dX11_finishes_211 (by decide) (fun hc => absurd hc (by decide)) (fun _ => ?_)
          refine go_aload_n dX11_finishes_214 rfl ?_
          refine go_iload_n dX11_finishes_215 rfl ?_
          refine go_V (av := [pv_i x1]) (st := []) (ci := 11) ok_X11_nextEvent ⟨by decide, by decide⟩ ml_X11_304 rfl (by decide) (fun v hv => by simp only [List.mem_cons, List.not_mem_nil, or_false] at hv; rcases hv with rfl <;> first | exact pv_1i | exact pv_1r) (Nat.le_of_ble_eq_true rfl) (fun _ h => h) (by decide) rfl RK.1 dX11_finishes_216 H (fun r M' hq _ => ?_)
          obtain ⟨v12, rfl, I11, rfl, H⟩ := hq
          show go_W mt_X11_finishes fr_R 219 [some (pv_r m), some (pv_i x1), some (pv_i x2), some (pv_i x3), some (pv_i x4), some (pv_i (1 : Int32)), none, none] [pv_i v12] (mm_si B I11) (qi_ (fun x M' => ∃ I', M' = mm_si B I' ∧ P x I'))
          refine go_aload_n dX11_finishes_219 rfl ?_
          refine go_getRe (k := 0) ⟨by decide, rfl, by decide, Or.inr ⟨_, rfl⟩⟩ RK.1 (rf_r1 RK) fl_X11_7 dX11_finishes_220 ?_
          refine go_iconst (v := (0 : Int32)) rfl dX11_finishes_223 ?_
          refine go_ialdN (j := 0) ⟨by decide, by decide, by decide⟩ (rf_k1 RK) rfl (by decide) dX11_finishes_224 ?_
          refine go_isub dX11_finishes_225 ?_
          refine go_goto (tgt := 230) dX11_finishes_226 (by decide) ?_
          refine go_istore (by decide) dX11_finishes_230 ?_
          show go_W mt_X11_finishes fr_R 232 [some (pv_r m), some (pv_i x1), some (pv_i x2), some (pv_i x3), some (pv_i x4), some (pv_i (1 : Int32)), some (pv_i (v12 - I11 (m + 1) 0)), none] [] (mm_si B I11) (qi_ (fun x M' => ∃ I', M' = mm_si B I' ∧ P x I'))
          refine go_iconst (v := (0 : Int32)) rfl dX11_finishes_232 ?_
          refine go_istore (by decide) dX11_finishes_233 ?_
          show go_W mt_X11_finishes fr_R 235 [some (pv_r m), some (pv_i x1), some (pv_i x2), some (pv_i x3), some (pv_i x4), some (pv_i (1 : Int32)), some (pv_i (v12 - I11 (m + 1) 0)), some (pv_i (0 : Int32))] [] (mm_si B I11) (qi_ (fun x M' => ∃ I', M' = mm_si B I' ∧ P x I'))
          exact H
      · replace H := H.2 hc
        refine go_aload_n dX11_finishes_174 rfl ?_
        refine go_iload_n dX11_finishes_175 rfl ?_
        refine go_V (av := [pv_i x2]) (st := []) (ci := 11) ok_X11_standing ⟨by decide, by decide⟩ ml_X11_115 rfl (by decide) (fun v hv => by simp only [List.mem_cons, List.not_mem_nil, or_false] at hv; rcases hv with rfl <;> first | exact pv_1i | exact pv_1r) (Nat.le_of_ble_eq_true rfl) (fun _ h => h) (by decide) rfl RK.1 dX11_finishes_176 H (fun r M' hq _ => ?_)
        obtain ⟨v14, rfl, I13, rfl, H⟩ := hq
        show go_W mt_X11_finishes fr_R 179 [some (pv_r m), some (pv_i x1), some (pv_i x2), some (pv_i x3), some (pv_i x4), some (pv_i x5), none, none] [pv_i v14] (mm_si B I13) (qi_ (fun x M' => ∃ I', M' = mm_si B I' ∧ P x I'))
        refine go_if_ne (tgt := 194) dX11_finishes_179 (by decide) (fun hc => ?_) (fun hc => ?_)
        · replace H := H.1 hc
          refine go_aload_n dX11_finishes_194 rfl ?_
          refine go_iconst (v := (-1 : Int32)) rfl dX11_finishes_195 ?_
          refine go_V (av := [pv_i (-1 : Int32)]) (st := []) (ci := 11) ok_X11_standing ⟨by decide, by decide⟩ ml_X11_115 rfl (by decide) (fun v hv => by simp only [List.mem_cons, List.not_mem_nil, or_false] at hv; rcases hv with rfl <;> first | exact pv_1i | exact pv_1r) (Nat.le_of_ble_eq_true rfl) (fun _ h => h) (by decide) rfl RK.1 dX11_finishes_196 H (fun r M' hq _ => ?_)
          obtain ⟨v16, rfl, I15, rfl, H⟩ := hq
          show go_W mt_X11_finishes fr_R 199 [some (pv_r m), some (pv_i x1), some (pv_i x2), some (pv_i x3), some (pv_i x4), some (pv_i x5), none, none] [pv_i v16] (mm_si B I15) (qi_ (fun x M' => ∃ I', M' = mm_si B I' ∧ P x I'))
          refine go_if_le (tgt := 206) dX11_finishes_199 (by decide) (fun hc => ?_) (fun hc => ?_)
          · replace H := H.1 hc
            refine go_iconst (v := (0 : Int32)) rfl dX11_finishes_206 ?_
            refine go_istore (by decide) dX11_finishes_207 ?_
            show go_W mt_X11_finishes fr_R 209 [some (pv_r m), some (pv_i x1), some (pv_i x2), some (pv_i x3), some (pv_i x4), some (pv_i (0 : Int32)), none, none] [] (mm_si B I15) (qi_ (fun x M' => ∃ I', M' = mm_si B I' ∧ P x I'))
            refine go_iload dX11_finishes_209 rfl ?_
            refine go_if_eq (tgt := 229) dX11_finishes_211 (by decide) (fun _ => ?_) (fun hc => absurd hc (by decide))
            refine go_iconst (v := (0 : Int32)) rfl dX11_finishes_229 ?_
            refine go_istore (by decide) dX11_finishes_230 ?_
            show go_W mt_X11_finishes fr_R 232 [some (pv_r m), some (pv_i x1), some (pv_i x2), some (pv_i x3), some (pv_i x4), some (pv_i (0 : Int32)), some (pv_i (0 : Int32)), none] [] (mm_si B I15) (qi_ (fun x M' => ∃ I', M' = mm_si B I' ∧ P x I'))
            refine go_iconst (v := (0 : Int32)) rfl dX11_finishes_232 ?_
            refine go_istore (by decide) dX11_finishes_233 ?_
            show go_W mt_X11_finishes fr_R 235 [some (pv_r m), some (pv_i x1), some (pv_i x2), some (pv_i x3), some (pv_i x4), some (pv_i (0 : Int32)), some (pv_i (0 : Int32)), some (pv_i (0 : Int32))] [] (mm_si B I15) (qi_ (fun x M' => ∃ I', M' = mm_si B I' ∧ P x I'))
            exact H
          · replace H := H.2 hc
            refine go_iconst (v := (1 : Int32)) rfl dX11_finishes_202 ?_
            refine go_goto (tgt := 207) dX11_finishes_203 (by decide) ?_
            refine go_istore (by decide) dX11_finishes_207 ?_
            show go_W mt_X11_finishes fr_R 209 [some (pv_r m), some (pv_i x1), some (pv_i x2), some (pv_i x3), some (pv_i x4), some (pv_i (1 : Int32)), none, none] [] (mm_si B I15) (qi_ (fun x M' => ∃ I', M' = mm_si B I' ∧ P x I'))
            refine go_iload dX11_finishes_209 rfl ?_
            refine go_if_eq (tgt := 229) dX11_finishes_211 (by decide) (fun hc => absurd hc (by decide)) (fun _ => ?_)
            refine go_aload_n dX11_finishes_214 rfl ?_
            refine go_iload_n dX11_finishes_215 rfl ?_
            refine go_V (av := [pv_i x1]) (st := []) (ci := 11) ok_X11_nextEvent ⟨by decide, by decide⟩ ml_X11_304 rfl (by decide) (fun v hv => by simp only [List.mem_cons, List.not_mem_nil, or_false] at hv; rcases hv with rfl <;> first | exact pv_1i | exact pv_1r) (Nat.le_of_ble_eq_true rfl) (fun _ h => h) (by decide) rfl RK.1 dX11_finishes_216 H (fun r M' hq _ => ?_)
            obtain ⟨v18, rfl, I17, rfl, H⟩ := hq
            show go_W mt_X11_finishes fr_R 219 [some (pv_r m), some (pv_i x1), some (pv_i x2), some (pv_i x3), some (pv_i x4), some (pv_i (1 : Int32)), none, none] [pv_i v18] (mm_si B I17) (qi_ (fun x M' => ∃ I', M' = mm_si B I' ∧ P x I'))
            refine go_aload_n dX11_finishes_219 rfl ?_
            refine go_getRe (k := 0) ⟨by decide, rfl, by decide, Or.inr ⟨_, rfl⟩⟩ RK.1 (rf_r1 RK) fl_X11_7 dX11_finishes_220 ?_
            refine go_iconst (v := (0 : Int32)) rfl dX11_finishes_223 ?_
            refine go_ialdN (j := 0) ⟨by decide, by decide, by decide⟩ (rf_k1 RK) rfl (by decide) dX11_finishes_224 ?_
            refine go_isub dX11_finishes_225 ?_
            refine go_goto (tgt := 230) dX11_finishes_226 (by decide) ?_
            refine go_istore (by decide) dX11_finishes_230 ?_
            show go_W mt_X11_finishes fr_R 232 [some (pv_r m), some (pv_i x1), some (pv_i x2), some (pv_i x3), some (pv_i x4), some (pv_i (1 : Int32)), some (pv_i (v18 - I17 (m + 1) 0)), none] [] (mm_si B I17) (qi_ (fun x M' => ∃ I', M' = mm_si B I' ∧ P x I'))
            refine go_iconst (v := (0 : Int32)) rfl dX11_finishes_232 ?_
            refine go_istore (by decide) dX11_finishes_233 ?_
            show go_W mt_X11_finishes fr_R 235 [some (pv_r m), some (pv_i x1), some (pv_i x2), some (pv_i x3), some (pv_i x4), some (pv_i (1 : Int32)), some (pv_i (v18 - I17 (m + 1) 0)), some (pv_i (0 : Int32))] [] (mm_si B I17) (qi_ (fun x M' => ∃ I', M' = mm_si B I' ∧ P x I'))
            exact H
        · replace H := H.2 hc
          refine go_aload_n dX11_finishes_182 rfl ?_
          refine go_aload_n dX11_finishes_183 rfl ?_
          refine go_getRe (k := 0) ⟨by decide, rfl, by decide, Or.inr ⟨_, rfl⟩⟩ RK.1 (rf_r1 RK) fl_X11_7 dX11_finishes_184 ?_
          refine go_iconst (v := (0 : Int32)) rfl dX11_finishes_187 ?_
          refine go_ialdN (j := 0) ⟨by decide, by decide, by decide⟩ (rf_k1 RK) rfl (by decide) dX11_finishes_188 ?_
          refine go_iload_n dX11_finishes_189 rfl ?_
          refine go_isub dX11_finishes_190 ?_
          refine go_putI (k := 19) ⟨by decide, rfl, by decide, rfl⟩ RK.1 rfl (Or.inl rfl) fl_X11_71 dX11_finishes_191 ?_
          show go_W mt_X11_finishes fr_R 194 [some (pv_r m), some (pv_i x1), some (pv_i x2), some (pv_i x3), some (pv_i x4), some (pv_i x5), none, none] [] (mm_si B (i2_u I13 m 19 (I13 (m + 1) 0 - x3))) (qi_ (fun x M' => ∃ I', M' = mm_si B I' ∧ P x I'))
          obtain ⟨I19, hI19⟩ : ∃ I', I' = i2_u I13 m 19 (I13 (m + 1) 0 - x3) := ⟨_, rfl⟩
          rw [← hI19]
          replace H := H I19 hI19
          refine go_aload_n dX11_finishes_194 rfl ?_
          refine go_iconst (v := (-1 : Int32)) rfl dX11_finishes_195 ?_
          refine go_V (av := [pv_i (-1 : Int32)]) (st := []) (ci := 11) ok_X11_standing ⟨by decide, by decide⟩ ml_X11_115 rfl (by decide) (fun v hv => by simp only [List.mem_cons, List.not_mem_nil, or_false] at hv; rcases hv with rfl <;> first | exact pv_1i | exact pv_1r) (Nat.le_of_ble_eq_true rfl) (fun _ h => h) (by decide) rfl RK.1 dX11_finishes_196 H (fun r M' hq _ => ?_)
          obtain ⟨v21, rfl, I20, rfl, H⟩ := hq
          show go_W mt_X11_finishes fr_R 199 [some (pv_r m), some (pv_i x1), some (pv_i x2), some (pv_i x3), some (pv_i x4), some (pv_i x5), none, none] [pv_i v21] (mm_si B I20) (qi_ (fun x M' => ∃ I', M' = mm_si B I' ∧ P x I'))
          refine go_if_le (tgt := 206) dX11_finishes_199 (by decide) (fun hc => ?_) (fun hc => ?_)
          · replace H := H.1 hc
            refine go_iconst (v := (0 : Int32)) rfl dX11_finishes_206 ?_
            refine go_istore (by decide) dX11_finishes_207 ?_
            show go_W mt_X11_finishes fr_R 209 [some (pv_r m), some (pv_i x1), some (pv_i x2), some (pv_i x3), some (pv_i x4), some (pv_i (0 : Int32)), none, none] [] (mm_si B I20) (qi_ (fun x M' => ∃ I', M' = mm_si B I' ∧ P x I'))
            refine go_iload dX11_finishes_209 rfl ?_
            refine go_if_eq (tgt := 229) dX11_finishes_211 (by decide) (fun _ => ?_) (fun hc => absurd hc (by decide))
            refine go_iconst (v := (0 : Int32)) rfl dX11_finishes_229 ?_
            refine go_istore (by decide) dX11_finishes_230 ?_
            show go_W mt_X11_finishes fr_R 232 [some (pv_r m), some (pv_i x1), some (pv_i x2), some (pv_i x3), some (pv_i x4), some (pv_i (0 : Int32)), some (pv_i (0 : Int32)), none] [] (mm_si B I20) (qi_ (fun x M' => ∃ I', M' = mm_si B I' ∧ P x I'))
            refine go_iconst (v := (0 : Int32)) rfl dX11_finishes_232 ?_
            refine go_istore (by decide) dX11_finishes_233 ?_
            show go_W mt_X11_finishes fr_R 235 [some (pv_r m), some (pv_i x1), some (pv_i x2), some (pv_i x3), some (pv_i x4), some (pv_i (0 : Int32)), some (pv_i (0 : Int32)), some (pv_i (0 : Int32))] [] (mm_si B I20) (qi_ (fun x M' => ∃ I', M' = mm_si B I' ∧ P x I'))
            exact H
          · replace H := H.2 hc
            refine go_iconst (v := (1 : Int32)) rfl dX11_finishes_202 ?_
            refine go_goto (tgt := 207) dX11_finishes_203 (by decide) ?_
            refine go_istore (by decide) dX11_finishes_207 ?_
            show go_W mt_X11_finishes fr_R 209 [some (pv_r m), some (pv_i x1), some (pv_i x2), some (pv_i x3), some (pv_i x4), some (pv_i (1 : Int32)), none, none] [] (mm_si B I20) (qi_ (fun x M' => ∃ I', M' = mm_si B I' ∧ P x I'))
            refine go_iload dX11_finishes_209 rfl ?_
            refine go_if_eq (tgt := 229) dX11_finishes_211 (by decide) (fun hc => absurd hc (by decide)) (fun _ => ?_)
            refine go_aload_n dX11_finishes_214 rfl ?_
            refine go_iload_n dX11_finishes_215 rfl ?_
            refine go_V (av := [pv_i x1]) (st := []) (ci := 11) ok_X11_nextEvent ⟨by decide, by decide⟩ ml_X11_304 rfl (by decide) (fun v hv => by simp only [List.mem_cons, List.not_mem_nil, or_false] at hv; rcases hv with rfl <;> first | exact pv_1i | exact pv_1r) (Nat.le_of_ble_eq_true rfl) (fun _ h => h) (by decide) rfl RK.1 dX11_finishes_216 H (fun r M' hq _ => ?_)
            obtain ⟨v23, rfl, I22, rfl, H⟩ := hq
            show go_W mt_X11_finishes fr_R 219 [some (pv_r m), some (pv_i x1), some (pv_i x2), some (pv_i x3), some (pv_i x4), some (pv_i (1 : Int32)), none, none] [pv_i v23] (mm_si B I22) (qi_ (fun x M' => ∃ I', M' = mm_si B I' ∧ P x I'))
            refine go_aload_n dX11_finishes_219 rfl ?_
            refine go_getRe (k := 0) ⟨by decide, rfl, by decide, Or.inr ⟨_, rfl⟩⟩ RK.1 (rf_r1 RK) fl_X11_7 dX11_finishes_220 ?_
            refine go_iconst (v := (0 : Int32)) rfl dX11_finishes_223 ?_
            refine go_ialdN (j := 0) ⟨by decide, by decide, by decide⟩ (rf_k1 RK) rfl (by decide) dX11_finishes_224 ?_
            refine go_isub dX11_finishes_225 ?_
            refine go_goto (tgt := 230) dX11_finishes_226 (by decide) ?_
            refine go_istore (by decide) dX11_finishes_230 ?_
            show go_W mt_X11_finishes fr_R 232 [some (pv_r m), some (pv_i x1), some (pv_i x2), some (pv_i x3), some (pv_i x4), some (pv_i (1 : Int32)), some (pv_i (v23 - I22 (m + 1) 0)), none] [] (mm_si B I22) (qi_ (fun x M' => ∃ I', M' = mm_si B I' ∧ P x I'))
            refine go_iconst (v := (0 : Int32)) rfl dX11_finishes_232 ?_
            refine go_istore (by decide) dX11_finishes_233 ?_
            show go_W mt_X11_finishes fr_R 235 [some (pv_r m), some (pv_i x1), some (pv_i x2), some (pv_i x3), some (pv_i x4), some (pv_i (1 : Int32)), some (pv_i (v23 - I22 (m + 1) 0)), some (pv_i (0 : Int32))] [] (mm_si B I22) (qi_ (fun x M' => ∃ I', M' = mm_si B I' ∧ P x I'))
            exact H
set_option maxRecDepth 20000 in
theorem wq_X11_finishes_235 {B : mm_T} {I : Nat → Nat → Int32} {m : Nat} (RK : rf_ok B m) {x1 x2 x3 x4 x5 x6 x7 : Int32} {P : Int32 → (Nat → Nat → Int32) → Prop} (H : (((x1 ≤ x7) → ∀ I1, I1 = i2_u I (m + 1) 0 (I (m + 1) 0 + x6) → rw_i mt_X11_finishes 142 [some (pv_r m), some (pv_i x1), some (pv_i x2), some (pv_i x3), some (pv_i x4), some (pv_i x5), none, none] [] B I1 P) ∧ ((¬ x1 ≤ x7) → ∃ n2, (x7 = nI n2 ∧ n2 < 6) ∧ ((((¬ I (m + 9) n2 = (-1 : Int32)) → ∀ I3, I3 = i2_u I m 18 (I m 18 + (0 : Int32)) → rw_i mt_X11_finishes 235 [some (pv_r m), some (pv_i x1), some (pv_i x2), some (pv_i x3), some (pv_i x4), some (pv_i x5), some (pv_i x6), some (pv_i (nI (n2 + 1)))] [] B I3 P) ∧ ((I (m + 9) n2 = (-1 : Int32)) → ∀ I4, I4 = i2_u I m 18 (I m 18 + x6) → rw_i mt_X11_finishes 235 [some (pv_r m), some (pv_i x1), some (pv_i x2), some (pv_i x3), some (pv_i x4), some (pv_i x5), some (pv_i x6), some (pv_i (nI (n2 + 1)))] [] B I4 P)))))) : rw_i mt_X11_finishes 235 [some (pv_r m), some (pv_i x1), some (pv_i x2), some (pv_i x3), some (pv_i x4), some (pv_i x5), some (pv_i x6), some (pv_i x7)] [] B I P := by
  refine go_iload dX11_finishes_235 rfl ?_
  refine go_iload_n dX11_finishes_237 rfl ?_
  refine go_icmp_ge (tgt := 273) dX11_finishes_238 (by decide) (fun hc => ?_) (fun hc => ?_)
  · replace H := H.1 hc
    refine go_aload_n dX11_finishes_273 rfl ?_
    refine go_getRe (k := 0) ⟨by decide, rfl, by decide, Or.inr ⟨_, rfl⟩⟩ RK.1 (rf_r1 RK) fl_X11_7 dX11_finishes_274 ?_
    refine go_iconst (v := (0 : Int32)) rfl dX11_finishes_277 ?_
    refine go_dup2 pv_1i pv_1r dX11_finishes_278 ?_
    refine go_ialdN (j := 0) ⟨by decide, by decide, by decide⟩ (rf_k1 RK) rfl (by decide) dX11_finishes_279 ?_
    refine go_iload dX11_finishes_280 rfl ?_
    refine go_iadd dX11_finishes_282 ?_
    refine go_iastN (j := 0) ⟨by decide, by decide, by decide⟩ (rf_k1 RK) rfl rfl (by decide) dX11_finishes_283 ?_
    show go_W mt_X11_finishes fr_R 284 [some (pv_r m), some (pv_i x1), some (pv_i x2), some (pv_i x3), some (pv_i x4), some (pv_i x5), some (pv_i x6), some (pv_i x7)] [] (mm_si B (i2_u I (m + 1) 0 (I (m + 1) 0 + x6))) (qi_ (fun x M' => ∃ I', M' = mm_si B I' ∧ P x I'))
    obtain ⟨I1, hI1⟩ : ∃ I', I' = i2_u I (m + 1) 0 (I (m + 1) 0 + x6) := ⟨_, rfl⟩
    rw [← hI1]
    replace H := H I1 hI1
    refine go_goto (tgt := 142) dX11_finishes_284 (by decide) ?_
    exact go_fg (ls' := [some (pv_r m), some (pv_i x1), some (pv_i x2), some (pv_i x3), some (pv_i x4), some (pv_i x5), none, none]) ⟨rfl, ⟨rfl, ⟨rfl, ⟨rfl, ⟨rfl, ⟨rfl, trivial⟩⟩⟩⟩⟩⟩ H
  · replace H := H.2 hc
    refine go_aload_n dX11_finishes_241 rfl ?_
    refine go_dup pv_1r dX11_finishes_242 ?_
    refine go_getI (k := 18) ⟨by decide, rfl, by decide, rfl⟩ RK.1 fl_X11_68 dX11_finishes_243 ?_
    refine go_aload_n dX11_finishes_246 rfl ?_
    refine go_getRe (k := 15) ⟨by decide, rfl, by decide, Or.inr ⟨_, rfl⟩⟩ RK.1 (rf_r9 RK) fl_X11_59 dX11_finishes_247 ?_
    refine go_iload dX11_finishes_250 rfl ?_
    obtain ⟨n2, ⟨hn2, hn2b⟩, H⟩ := H
    refine go_ialdN (j := n2) ⟨by decide, by decide, by decide⟩ (rf_k9 RK) hn2 hn2b dX11_finishes_252 ?_
    refine go_iconst (v := (-1 : Int32)) rfl dX11_finishes_253 ?_
    refine go_icmp_ne (tgt := 262) dX11_finishes_254 (by decide) (fun hc => ?_) (fun hc => ?_)
    · replace H := H.1 hc
      refine go_iconst (v := (0 : Int32)) rfl dX11_finishes_262 ?_
      refine go_iadd dX11_finishes_263 ?_
      refine go_putI (k := 18) ⟨by decide, rfl, by decide, rfl⟩ RK.1 rfl (Or.inl rfl) fl_X11_68 dX11_finishes_264 ?_
      show go_W mt_X11_finishes fr_R 267 [some (pv_r m), some (pv_i x1), some (pv_i x2), some (pv_i x3), some (pv_i x4), some (pv_i x5), some (pv_i x6), some (pv_i x7)] [] (mm_si B (i2_u I m 18 (I m 18 + (0 : Int32)))) (qi_ (fun x M' => ∃ I', M' = mm_si B I' ∧ P x I'))
      obtain ⟨I3, hI3⟩ : ∃ I', I' = i2_u I m 18 (I m 18 + (0 : Int32)) := ⟨_, rfl⟩
      rw [← hI3]
      replace H := H I3 hI3
      refine go_iincN (n := n2) (k := 1) hn2 (by decide) rfl rfl dX11_finishes_267 ?_
      show go_W mt_X11_finishes fr_R 270 [some (pv_r m), some (pv_i x1), some (pv_i x2), some (pv_i x3), some (pv_i x4), some (pv_i x5), some (pv_i x6), some (pv_i (nI (n2 + 1)))] [] (mm_si B I3) (qi_ (fun x M' => ∃ I', M' = mm_si B I' ∧ P x I'))
      refine go_goto (tgt := 235) dX11_finishes_270 (by decide) ?_
      exact H
    · replace H := H.2 hc
      refine go_iload dX11_finishes_257 rfl ?_
      refine go_goto (tgt := 263) dX11_finishes_259 (by decide) ?_
      refine go_iadd dX11_finishes_263 ?_
      refine go_putI (k := 18) ⟨by decide, rfl, by decide, rfl⟩ RK.1 rfl (Or.inl rfl) fl_X11_68 dX11_finishes_264 ?_
      show go_W mt_X11_finishes fr_R 267 [some (pv_r m), some (pv_i x1), some (pv_i x2), some (pv_i x3), some (pv_i x4), some (pv_i x5), some (pv_i x6), some (pv_i x7)] [] (mm_si B (i2_u I m 18 (I m 18 + x6))) (qi_ (fun x M' => ∃ I', M' = mm_si B I' ∧ P x I'))
      obtain ⟨I4, hI4⟩ : ∃ I', I' = i2_u I m 18 (I m 18 + x6) := ⟨_, rfl⟩
      rw [← hI4]
      replace H := H I4 hI4
      refine go_iincN (n := n2) (k := 1) hn2 (by decide) rfl rfl dX11_finishes_267 ?_
      show go_W mt_X11_finishes fr_R 270 [some (pv_r m), some (pv_i x1), some (pv_i x2), some (pv_i x3), some (pv_i x4), some (pv_i x5), some (pv_i x6), some (pv_i (nI (n2 + 1)))] [] (mm_si B I4) (qi_ (fun x M' => ∃ I', M' = mm_si B I' ∧ P x I'))
      refine go_goto (tgt := 235) dX11_finishes_270 (by decide) ?_
      exact H
set_option maxRecDepth 20000 in
theorem wq_X11_finish_0 {B : mm_T} {I : Nat → Nat → Int32} {m : Nat} (RK : rf_ok B m) {x1 x2 : Int32} {P : Int32 → (Nat → Nat → Int32) → Prop} (H : (((((1 : Int32) ≤ x1 ∧ x1 ≤ (6 : Int32))) → (((((0 : Int32) ≤ x2 ∧ x2 ≤ (2 : Int32))) → rs_i mt_X11_finishes [pv_r m, pv_i x1, pv_i (-1 : Int32)] B I (fun v2 I1 => (((¬ x2 = 0) → (((¬ x2 = (1 : Int32)) → P (I1 m 18) I1) ∧ ((x2 = (1 : Int32)) → P (I1 m 17) I1))) ∧ ((x2 = 0) → P v2 I1)))) ∧ ((¬ ((0 : Int32) ≤ x2 ∧ x2 ≤ (2 : Int32))) → P (-1 : Int32) I))) ∧ ((¬ ((1 : Int32) ≤ x1 ∧ x1 ≤ (6 : Int32))) → P (-1 : Int32) I))) : rw_i mt_X11_finish 0 [some (pv_r m), some (pv_i x1), some (pv_i x2), none] [] B I P := by
  refine go_iload_n dX11_finish_0 rfl ?_
  refine go_iconst (v := (1 : Int32)) rfl dX11_finish_1 ?_
  refine go_bipush (v := (6 : Int32)) rfl dX11_finish_2 ?_
  by_cases hc : ((1 : Int32) ≤ x1 ∧ x1 ≤ (6 : Int32))
  · replace H := H.1 hc
    refine go_St (av := [pv_i x1, pv_i (1 : Int32), pv_i (6 : Int32)]) (st := []) ok_X11_isIn ⟨by decide, by decide⟩ ml_X11_90 rfl (by decide) (fun v hv => by simp only [List.mem_cons, List.not_mem_nil, or_false] at hv; rcases hv with rfl | rfl | rfl <;> first | exact pv_1i | exact pv_1r) (Nat.le_of_ble_eq_true rfl) (fun _ h => h) dX11_finish_4 (rx_isIn_t RK hc) (fun r M' hq _ => ?_)
    obtain ⟨_, rfl, _, rfl, rfl, rfl⟩ := hq
    show go_W mt_X11_finish fr_R 7 [some (pv_r m), some (pv_i x1), some (pv_i x2), none] [pv_i (1 : Int32)] (mm_si B I) (qi_ (fun x M' => ∃ I', M' = mm_si B I' ∧ P x I'))
    refine go_if_eq (tgt := 19) dX11_finish_7 (by decide) (fun hc => absurd hc (by decide)) (fun _ => ?_)
    refine go_iload_n dX11_finish_10 rfl ?_
    refine go_iconst (v := (0 : Int32)) rfl dX11_finish_11 ?_
    refine go_iconst (v := (2 : Int32)) rfl dX11_finish_12 ?_
    by_cases hc : ((0 : Int32) ≤ x2 ∧ x2 ≤ (2 : Int32))
    · replace H := H.1 hc
      refine go_St (av := [pv_i x2, pv_i (0 : Int32), pv_i (2 : Int32)]) (st := []) ok_X11_isIn ⟨by decide, by decide⟩ ml_X11_90 rfl (by decide) (fun v hv => by simp only [List.mem_cons, List.not_mem_nil, or_false] at hv; rcases hv with rfl | rfl | rfl <;> first | exact pv_1i | exact pv_1r) (Nat.le_of_ble_eq_true rfl) (fun _ h => h) dX11_finish_13 (rx_isIn_t RK hc) (fun r M' hq _ => ?_)
      obtain ⟨_, rfl, _, rfl, rfl, rfl⟩ := hq
      show go_W mt_X11_finish fr_R 16 [some (pv_r m), some (pv_i x1), some (pv_i x2), none] [pv_i (1 : Int32)] (mm_si B I) (qi_ (fun x M' => ∃ I', M' = mm_si B I' ∧ P x I'))
      refine go_if_ne (tgt := 21) dX11_finish_16 (by decide) (fun _ => ?_) (fun hc => absurd hc (by decide))
      refine go_aload_n dX11_finish_21 rfl ?_
      refine go_iload_n dX11_finish_22 rfl ?_
      refine go_iconst (v := (-1 : Int32)) rfl dX11_finish_23 ?_
      refine go_V (av := [pv_i x1, pv_i (-1 : Int32)]) (st := []) (ci := 11) ok_X11_finishes ⟨by decide, by decide⟩ ml_X11_307 rfl (by decide) (fun v hv => by simp only [List.mem_cons, List.not_mem_nil, or_false] at hv; rcases hv with rfl | rfl <;> first | exact pv_1i | exact pv_1r) (Nat.le_of_ble_eq_true rfl) (fun _ h => h) (by decide) rfl RK.1 dX11_finish_24 H (fun r M' hq _ => ?_)
      obtain ⟨v2, rfl, I1, rfl, H⟩ := hq
      show go_W mt_X11_finish fr_R 27 [some (pv_r m), some (pv_i x1), some (pv_i x2), none] [pv_i v2] (mm_si B I1) (qi_ (fun x M' => ∃ I', M' = mm_si B I' ∧ P x I'))
      refine go_istore_n (by decide) dX11_finish_27 ?_
      show go_W mt_X11_finish fr_R 28 [some (pv_r m), some (pv_i x1), some (pv_i x2), some (pv_i v2)] [] (mm_si B I1) (qi_ (fun x M' => ∃ I', M' = mm_si B I' ∧ P x I'))
      refine go_iload_n dX11_finish_28 rfl ?_
      refine go_if_ne (tgt := 36) dX11_finish_29 (by decide) (fun hc => ?_) (fun hc => ?_)
      · replace H := H.1 hc
        refine go_iload_n dX11_finish_36 rfl ?_
        refine go_iconst (v := (1 : Int32)) rfl dX11_finish_37 ?_
        refine go_icmp_ne (tgt := 48) dX11_finish_38 (by decide) (fun hc => ?_) (fun hc => ?_)
        · replace H := H.1 hc
          refine go_aload_n dX11_finish_48 rfl ?_
          refine go_getI (k := 18) ⟨by decide, rfl, by decide, rfl⟩ RK.1 fl_X11_68 dX11_finish_49 ?_
          exact go_iret rfl rfl dX11_finish_52 ⟨_, rfl, _, rfl, H⟩
        · replace H := H.2 hc
          refine go_aload_n dX11_finish_41 rfl ?_
          refine go_getI (k := 17) ⟨by decide, rfl, by decide, rfl⟩ RK.1 fl_X11_65 dX11_finish_42 ?_
          refine go_goto (tgt := 52) dX11_finish_45 (by decide) ?_
          exact go_iret rfl rfl dX11_finish_52 ⟨_, rfl, _, rfl, H⟩
      · replace H := H.2 hc
        refine go_iload_n dX11_finish_32 rfl ?_
        refine go_goto (tgt := 52) dX11_finish_33 (by decide) ?_
        exact go_iret rfl rfl dX11_finish_52 ⟨_, rfl, _, rfl, H⟩
    · replace H := H.2 hc
      refine go_St (av := [pv_i x2, pv_i (0 : Int32), pv_i (2 : Int32)]) (st := []) ok_X11_isIn ⟨by decide, by decide⟩ ml_X11_90 rfl (by decide) (fun v hv => by simp only [List.mem_cons, List.not_mem_nil, or_false] at hv; rcases hv with rfl | rfl | rfl <;> first | exact pv_1i | exact pv_1r) (Nat.le_of_ble_eq_true rfl) (fun _ h => h) dX11_finish_13 (rx_isIn_f RK hc) (fun r M' hq _ => ?_)
      obtain ⟨_, rfl, _, rfl, rfl, rfl⟩ := hq
      show go_W mt_X11_finish fr_R 16 [some (pv_r m), some (pv_i x1), some (pv_i x2), none] [pv_i (0 : Int32)] (mm_si B I) (qi_ (fun x M' => ∃ I', M' = mm_si B I' ∧ P x I'))
      refine go_if_ne (tgt := 21) dX11_finish_16 (by decide) (fun hc => absurd hc (by decide)) (fun _ => ?_)
      refine go_iconst (v := (-1 : Int32)) rfl dX11_finish_19 ?_
      exact go_iret rfl rfl dX11_finish_20 ⟨_, rfl, _, rfl, H⟩
  · replace H := H.2 hc
    refine go_St (av := [pv_i x1, pv_i (1 : Int32), pv_i (6 : Int32)]) (st := []) ok_X11_isIn ⟨by decide, by decide⟩ ml_X11_90 rfl (by decide) (fun v hv => by simp only [List.mem_cons, List.not_mem_nil, or_false] at hv; rcases hv with rfl | rfl | rfl <;> first | exact pv_1i | exact pv_1r) (Nat.le_of_ble_eq_true rfl) (fun _ h => h) dX11_finish_4 (rx_isIn_f RK hc) (fun r M' hq _ => ?_)
    obtain ⟨_, rfl, _, rfl, rfl, rfl⟩ := hq
    show go_W mt_X11_finish fr_R 7 [some (pv_r m), some (pv_i x1), some (pv_i x2), none] [pv_i (0 : Int32)] (mm_si B I) (qi_ (fun x M' => ∃ I', M' = mm_si B I' ∧ P x I'))
    refine go_if_eq (tgt := 19) dX11_finish_7 (by decide) (fun _ => ?_) (fun hc => absurd hc (by decide))
    refine go_iconst (v := (-1 : Int32)) rfl dX11_finish_19 ?_
    exact go_iret rfl rfl dX11_finish_20 ⟨_, rfl, _, rfl, H⟩
set_option maxRecDepth 20000 in
theorem wq_X11_empties_0 {B : mm_T} {I : Nat → Nat → Int32} {m : Nat} (RK : rf_ok B m) {x1 x2 : Int32} {P : Int32 → (Nat → Nat → Int32) → Prop} (H : ((((0 ≤ x1 ∧ x1 ≤ 4)) → (((((1 : Int32) ≤ x2 ∧ x2 ≤ (6 : Int32))) → rs_i mt_X11_finishes [pv_r m, pv_i x2, pv_i x1] B I (fun v2 I1 => P (I1 m 19) I1)) ∧ ((¬ ((1 : Int32) ≤ x2 ∧ x2 ≤ (6 : Int32))) → P (-1 : Int32) I))) ∧ ((¬ (0 ≤ x1 ∧ x1 ≤ 4)) → P (-1 : Int32) I))) : rw_i mt_X11_empties 0 [some (pv_r m), some (pv_i x1), some (pv_i x2)] [] B I P := by
  refine go_aload_n dX11_empties_0 rfl ?_
  refine go_iload_n dX11_empties_1 rfl ?_
  by_cases hc : (0 ≤ x1 ∧ x1 ≤ 4)
  · replace H := H.1 hc
    refine go_V (av := [pv_i x1]) (st := []) (ci := 11) ok_X11_isLane ⟨by decide, by decide⟩ ml_X11_152 rfl (by decide) (fun v hv => by simp only [List.mem_cons, List.not_mem_nil, or_false] at hv; rcases hv with rfl <;> first | exact pv_1i | exact pv_1r) (Nat.le_of_ble_eq_true rfl) (fun _ h => h) (by decide) rfl RK.1 dX11_empties_2 (rx_isLane_t RK hc) (fun r M' hq _ => ?_)
    obtain ⟨_, rfl, _, rfl, rfl, rfl⟩ := hq
    show go_W mt_X11_empties fr_R 5 [some (pv_r m), some (pv_i x1), some (pv_i x2)] [pv_i (1 : Int32)] (mm_si B I) (qi_ (fun x M' => ∃ I', M' = mm_si B I' ∧ P x I'))
    refine go_if_eq (tgt := 18) dX11_empties_5 (by decide) (fun hc => absurd hc (by decide)) (fun _ => ?_)
    refine go_iload_n dX11_empties_8 rfl ?_
    refine go_iconst (v := (1 : Int32)) rfl dX11_empties_9 ?_
    refine go_bipush (v := (6 : Int32)) rfl dX11_empties_10 ?_
    by_cases hc : ((1 : Int32) ≤ x2 ∧ x2 ≤ (6 : Int32))
    · replace H := H.1 hc
      refine go_St (av := [pv_i x2, pv_i (1 : Int32), pv_i (6 : Int32)]) (st := []) ok_X11_isIn ⟨by decide, by decide⟩ ml_X11_90 rfl (by decide) (fun v hv => by simp only [List.mem_cons, List.not_mem_nil, or_false] at hv; rcases hv with rfl | rfl | rfl <;> first | exact pv_1i | exact pv_1r) (Nat.le_of_ble_eq_true rfl) (fun _ h => h) dX11_empties_12 (rx_isIn_t RK hc) (fun r M' hq _ => ?_)
      obtain ⟨_, rfl, _, rfl, rfl, rfl⟩ := hq
      show go_W mt_X11_empties fr_R 15 [some (pv_r m), some (pv_i x1), some (pv_i x2)] [pv_i (1 : Int32)] (mm_si B I) (qi_ (fun x M' => ∃ I', M' = mm_si B I' ∧ P x I'))
      refine go_if_ne (tgt := 20) dX11_empties_15 (by decide) (fun _ => ?_) (fun hc => absurd hc (by decide))
      refine go_aload_n dX11_empties_20 rfl ?_
      refine go_iload_n dX11_empties_21 rfl ?_
      refine go_iload_n dX11_empties_22 rfl ?_
      refine go_V (av := [pv_i x2, pv_i x1]) (st := []) (ci := 11) ok_X11_finishes ⟨by decide, by decide⟩ ml_X11_307 rfl (by decide) (fun v hv => by simp only [List.mem_cons, List.not_mem_nil, or_false] at hv; rcases hv with rfl | rfl <;> first | exact pv_1i | exact pv_1r) (Nat.le_of_ble_eq_true rfl) (fun _ h => h) (by decide) rfl RK.1 dX11_empties_23 H (fun r M' hq _ => ?_)
      obtain ⟨v2, rfl, I1, rfl, H⟩ := hq
      show go_W mt_X11_empties fr_R 26 [some (pv_r m), some (pv_i x1), some (pv_i x2)] [pv_i v2] (mm_si B I1) (qi_ (fun x M' => ∃ I', M' = mm_si B I' ∧ P x I'))
      refine go_pop pv_1i dX11_empties_26 ?_
      refine go_aload_n dX11_empties_27 rfl ?_
      refine go_getI (k := 19) ⟨by decide, rfl, by decide, rfl⟩ RK.1 fl_X11_71 dX11_empties_28 ?_
      exact go_iret rfl rfl dX11_empties_31 ⟨_, rfl, _, rfl, H⟩
    · replace H := H.2 hc
      refine go_St (av := [pv_i x2, pv_i (1 : Int32), pv_i (6 : Int32)]) (st := []) ok_X11_isIn ⟨by decide, by decide⟩ ml_X11_90 rfl (by decide) (fun v hv => by simp only [List.mem_cons, List.not_mem_nil, or_false] at hv; rcases hv with rfl | rfl | rfl <;> first | exact pv_1i | exact pv_1r) (Nat.le_of_ble_eq_true rfl) (fun _ h => h) dX11_empties_12 (rx_isIn_f RK hc) (fun r M' hq _ => ?_)
      obtain ⟨_, rfl, _, rfl, rfl, rfl⟩ := hq
      show go_W mt_X11_empties fr_R 15 [some (pv_r m), some (pv_i x1), some (pv_i x2)] [pv_i (0 : Int32)] (mm_si B I) (qi_ (fun x M' => ∃ I', M' = mm_si B I' ∧ P x I'))
      refine go_if_ne (tgt := 20) dX11_empties_15 (by decide) (fun hc => absurd hc (by decide)) (fun _ => ?_)
      refine go_iconst (v := (-1 : Int32)) rfl dX11_empties_18 ?_
      exact go_iret rfl rfl dX11_empties_19 ⟨_, rfl, _, rfl, H⟩
  · replace H := H.2 hc
    refine go_V (av := [pv_i x1]) (st := []) (ci := 11) ok_X11_isLane ⟨by decide, by decide⟩ ml_X11_152 rfl (by decide) (fun v hv => by simp only [List.mem_cons, List.not_mem_nil, or_false] at hv; rcases hv with rfl <;> first | exact pv_1i | exact pv_1r) (Nat.le_of_ble_eq_true rfl) (fun _ h => h) (by decide) rfl RK.1 dX11_empties_2 (rx_isLane_f RK hc) (fun r M' hq _ => ?_)
    obtain ⟨_, rfl, _, rfl, rfl, rfl⟩ := hq
    show go_W mt_X11_empties fr_R 5 [some (pv_r m), some (pv_i x1), some (pv_i x2)] [pv_i (0 : Int32)] (mm_si B I) (qi_ (fun x M' => ∃ I', M' = mm_si B I' ∧ P x I'))
    refine go_if_eq (tgt := 18) dX11_empties_5 (by decide) (fun _ => ?_) (fun hc => absurd hc (by decide))
    refine go_iconst (v := (-1 : Int32)) rfl dX11_empties_18 ?_
    exact go_iret rfl rfl dX11_empties_19 ⟨_, rfl, _, rfl, H⟩
set_option maxRecDepth 20000 in
theorem wq_X11_enough_0 {B : mm_T} {I : Nat → Nat → Int32} {m : Nat} (RK : rf_ok B m) {x1 : Int32} {P : Int32 → (Nat → Nat → Int32) → Prop} (H : (((0 ≤ x1) → rw_i mt_X11_enough 8 [some (pv_r m), some (pv_i x1), some (pv_i (1 : Int32))] [] B I P) ∧ ((¬ 0 ≤ x1) → P (-1 : Int32) I))) : rw_i mt_X11_enough 0 [some (pv_r m), some (pv_i x1), none] [] B I P := by
  refine go_iload_n dX11_enough_0 rfl ?_
  refine go_if_ge (tgt := 6) dX11_enough_1 (by decide) (fun hc => ?_) (fun hc => ?_)
  · replace H := H.1 hc
    refine go_iconst (v := (1 : Int32)) rfl dX11_enough_6 ?_
    refine go_istore_n (by decide) dX11_enough_7 ?_
    show go_W mt_X11_enough fr_R 8 [some (pv_r m), some (pv_i x1), some (pv_i (1 : Int32))] [] (mm_si B I) (qi_ (fun x M' => ∃ I', M' = mm_si B I' ∧ P x I'))
    exact H
  · replace H := H.2 hc
    refine go_iconst (v := (-1 : Int32)) rfl dX11_enough_4 ?_
    exact go_iret rfl rfl dX11_enough_5 ⟨_, rfl, _, rfl, H⟩
set_option maxRecDepth 20000 in
theorem wq_X11_enough_8 {B : mm_T} {I : Nat → Nat → Int32} {m : Nat} (RK : rf_ok B m) {x1 x2 : Int32} {P : Int32 → (Nat → Nat → Int32) → Prop} (H : ((((6 : Int32) < x2) → P (-1 : Int32) I) ∧ ((¬ (6 : Int32) < x2) → rs_i mt_X11_finishes [pv_r m, pv_i x2, pv_i (-1 : Int32)] B I (fun v2 I1 => (((x1 < v2) → rw_i mt_X11_enough 8 [some (pv_r m), some (pv_i x1), some (pv_i (x2 + (1 : Int32)))] [] B I1 P) ∧ ((¬ x1 < v2) → P x2 I1)))))) : rw_i mt_X11_enough 8 [some (pv_r m), some (pv_i x1), some (pv_i x2)] [] B I P := by
  refine go_iload_n dX11_enough_8 rfl ?_
  refine go_bipush (v := (6 : Int32)) rfl dX11_enough_9 ?_
  refine go_icmp_gt (tgt := 32) dX11_enough_11 (by decide) (fun hc => ?_) (fun hc => ?_)
  · replace H := H.1 hc
    refine go_iconst (v := (-1 : Int32)) rfl dX11_enough_32 ?_
    exact go_iret rfl rfl dX11_enough_33 ⟨_, rfl, _, rfl, H⟩
  · replace H := H.2 hc
    refine go_aload_n dX11_enough_14 rfl ?_
    refine go_iload_n dX11_enough_15 rfl ?_
    refine go_iconst (v := (-1 : Int32)) rfl dX11_enough_16 ?_
    refine go_V (av := [pv_i x2, pv_i (-1 : Int32)]) (st := []) (ci := 11) ok_X11_finishes ⟨by decide, by decide⟩ ml_X11_307 rfl (by decide) (fun v hv => by simp only [List.mem_cons, List.not_mem_nil, or_false] at hv; rcases hv with rfl | rfl <;> first | exact pv_1i | exact pv_1r) (Nat.le_of_ble_eq_true rfl) (fun _ h => h) (by decide) rfl RK.1 dX11_enough_17 H (fun r M' hq _ => ?_)
    obtain ⟨v2, rfl, I1, rfl, H⟩ := hq
    show go_W mt_X11_enough fr_R 20 [some (pv_r m), some (pv_i x1), some (pv_i x2)] [pv_i v2] (mm_si B I1) (qi_ (fun x M' => ∃ I', M' = mm_si B I' ∧ P x I'))
    refine go_iload_n dX11_enough_20 rfl ?_
    refine go_icmp_gt (tgt := 26) dX11_enough_21 (by decide) (fun hc => ?_) (fun hc => ?_)
    · replace H := H.1 hc
      refine go_iinc (v := (1 : Int32)) (by decide) rfl rfl dX11_enough_26 ?_
      show go_W mt_X11_enough fr_R 29 [some (pv_r m), some (pv_i x1), some (pv_i (x2 + (1 : Int32)))] [] (mm_si B I1) (qi_ (fun x M' => ∃ I', M' = mm_si B I' ∧ P x I'))
      refine go_goto (tgt := 8) dX11_enough_29 (by decide) ?_
      exact H
    · replace H := H.2 hc
      refine go_iload_n dX11_enough_24 rfl ?_
      exact go_iret rfl rfl dX11_enough_25 ⟨_, rfl, _, rfl, H⟩
