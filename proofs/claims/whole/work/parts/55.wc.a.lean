/-! the walks of the class, by program (wip/whole/walk3.py) -/
set_option maxRecDepth 20000 in
theorem wc_X0_laneAt_0 {M : mm_T} {a0 : Nat} {x1 : Int32} {P : Nat → mm_T → Prop} (K0 : mm_k M a0 = (0, 4)) (H : (((x1 < 0) → P 0 M) ∧ ((¬ x1 < 0) → (((x1 < (5 : Int32)) → ∃ l1, ak_ M (mm_r M a0 0) 2 l1 ∧ (∃ n4, (x1 = nI n4 ∧ n4 < l1) ∧ (P (mm_r M (mm_r M a0 0) n4) M))) ∧ ((¬ x1 < (5 : Int32)) → P 0 M))))) : cw_r mt_X0_laneAt 0 [some (pv_r a0), some (pv_i x1)] [] M P := by
  refine go_iload_n dX0_laneAt_0 rfl ?_
  refine go_if_lt (tgt := 9) dX0_laneAt_1 (by decide) (fun hc => ?_) (fun hc => ?_)
  · replace H := H.1 hc
    refine go_null dX0_laneAt_9 ?_
    refine go_goto (tgt := 19) dX0_laneAt_10 (by decide) ?_
    exact go_aret rfl (Or.inl ⟨_, rfl⟩) dX0_laneAt_19 ⟨_, rfl, H⟩
  · replace H := H.2 hc
    refine go_iload_n dX0_laneAt_4 rfl ?_
    refine go_iconst (v := (5 : Int32)) rfl dX0_laneAt_5 ?_
    refine go_icmp_lt (tgt := 13) dX0_laneAt_6 (by decide) (fun hc => ?_) (fun hc => ?_)
    · replace H := H.1 hc
      refine go_aload_n dX0_laneAt_13 rfl ?_
      refine go_getR (k := 0) ⟨by decide, rfl, by decide, Or.inr ⟨_, rfl⟩⟩ K0 fl_X0_11 dX0_laneAt_14 ?_
      refine go_iload_n dX0_laneAt_17 rfl ?_
      obtain ⟨l1, k2, H⟩ := H
      obtain ⟨n4, ⟨hn4, hn4b⟩, H⟩ := H
      refine go_aaldA (j := n4) k2 (by decide) hn4 hn4b dX0_laneAt_18 ?_
      exact go_aret rfl (Or.inl ⟨_, rfl⟩) dX0_laneAt_19 ⟨_, rfl, H⟩
    · replace H := H.2 hc
      refine go_null dX0_laneAt_9 ?_
      refine go_goto (tgt := 19) dX0_laneAt_10 (by decide) ?_
      exact go_aret rfl (Or.inl ⟨_, rfl⟩) dX0_laneAt_19 ⟨_, rfl, H⟩
set_option maxRecDepth 20000 in
theorem wc_X0_hasRoomIn_0 {M : mm_T} {a0 a1 : Nat} {P : Int32 → mm_T → Prop} (K0 : mm_k M a0 = (0, 4)) (H : mm_k M a1 = (3, 14) ∧ (cs_i mt_X3_hasRoom [pv_r a1] M (fun v3 M2 => (((v3 = 0) → P (0 : Int32) M2) ∧ ((¬ v3 = 0) → mm_k M2 (mm_r M2 a0 1) = (4, 2) ∧ (∃ l7, ak_ M2 (mm_r M2 a0 3) 0 l7 ∧ (4 < l7 ∧ ((((mm_i M2 (mm_r M2 a0 3) 4 ≤ mm_i M2 (mm_r M2 a0 1) 1) → P (0 : Int32) M2) ∧ ((¬ mm_i M2 (mm_r M2 a0 3) 4 ≤ mm_i M2 (mm_r M2 a0 1) 1) → P (1 : Int32) M2)))))))))) : cw_i mt_X0_hasRoomIn 0 [some (pv_r a0), some (pv_r a1)] [] M P := by
  refine go_aload_n dX0_hasRoomIn_0 rfl ?_
  obtain ⟨k1, H⟩ := H
  refine go_V (av := []) (st := []) (ci := 3) ok_X3_hasRoom ⟨by decide, by decide⟩ ml_X0_42 rfl (by decide) (fun v hv => absurd hv List.not_mem_nil) (Nat.le_of_ble_eq_true rfl) (fun _ h => h) (by decide) rfl k1 dX0_hasRoomIn_1 H (fun r M2 hq hS => ?_)
  obtain ⟨v3, rfl, H⟩ := hq
  have k4 : mm_k M2 a0 = (0, 4) := ks_S K0 (by decide) hS
  have k5 : mm_k M2 a1 = (3, 14) := ks_S k1 (by decide) hS
  show go_W mt_X0_hasRoomIn fr_C 4 [some (pv_r a0), some (pv_r a1)] [pv_i v3] M2 (qi_ P)
  refine go_if_eq (tgt := 27) dX0_hasRoomIn_4 (by decide) (fun hc => ?_) (fun hc => ?_)
  · replace H := H.1 hc
    refine go_iconst (v := (0 : Int32)) rfl dX0_hasRoomIn_27 ?_
    exact go_iret rfl rfl dX0_hasRoomIn_28 ⟨_, rfl, H⟩
  · replace H := H.2 hc
    refine go_aload_n dX0_hasRoomIn_7 rfl ?_
    refine go_getR (k := 1) ⟨by decide, rfl, by decide, Or.inl ⟨_, rfl⟩⟩ k4 fl_X0_22 dX0_hasRoomIn_8 ?_
    obtain ⟨k6, H⟩ := H
    refine go_getI (k := 1) ⟨by decide, rfl, by decide, rfl⟩ k6 fl_X0_46 dX0_hasRoomIn_11 ?_
    refine go_aload_n dX0_hasRoomIn_14 rfl ?_
    refine go_getR (k := 3) ⟨by decide, rfl, by decide, Or.inr ⟨_, rfl⟩⟩ k4 fl_X0_38 dX0_hasRoomIn_15 ?_
    refine go_iconst (v := (4 : Int32)) rfl dX0_hasRoomIn_18 ?_
    obtain ⟨l7, k8, H⟩ := H
    obtain ⟨hb9, H⟩ := H
    refine go_ialdA (j := 4) k8 rfl hb9 dX0_hasRoomIn_19 ?_
    refine go_icmp_ge (tgt := 27) dX0_hasRoomIn_20 (by decide) (fun hc => ?_) (fun hc => ?_)
    · replace H := H.1 hc
      refine go_iconst (v := (0 : Int32)) rfl dX0_hasRoomIn_27 ?_
      exact go_iret rfl rfl dX0_hasRoomIn_28 ⟨_, rfl, H⟩
    · replace H := H.2 hc
      refine go_iconst (v := (1 : Int32)) rfl dX0_hasRoomIn_23 ?_
      refine go_goto (tgt := 28) dX0_hasRoomIn_24 (by decide) ?_
      exact go_iret rfl rfl dX0_hasRoomIn_28 ⟨_, rfl, H⟩
set_option maxRecDepth 20000 in
theorem wc_X0_theLane_0 {M : mm_T} {a0 : Nat} {x1 : Int32} {P : Nat → mm_T → Prop} (K0 : mm_k M a0 = (0, 4)) (H : ∃ l1, ak_ M (mm_r M a0 0) 2 l1 ∧ (cw_r mt_X0_theLane 14 [some (pv_r a0), some (pv_i x1), some (pv_r 0), some (pv_r (mm_r M a0 0)), some (pv_i (nI l1)), some (pv_i (0 : Int32)), none, none] [] M P)) : cw_r mt_X0_theLane 0 [some (pv_r a0), some (pv_i x1), none, none, none, none, none, none] [] M P := by
  refine go_null dX0_theLane_0 ?_
  refine go_astore_n (by decide) dX0_theLane_1 ?_
  show go_W mt_X0_theLane fr_C 2 [some (pv_r a0), some (pv_i x1), some (pv_r 0), none, none, none, none, none] [] M (qr_ P)
  refine go_aload_n dX0_theLane_2 rfl ?_
  refine go_getR (k := 0) ⟨by decide, rfl, by decide, Or.inr ⟨_, rfl⟩⟩ K0 fl_X0_11 dX0_theLane_3 ?_
  refine go_astore_n (by decide) dX0_theLane_6 ?_
  show go_W mt_X0_theLane fr_C 7 [some (pv_r a0), some (pv_i x1), some (pv_r 0), some (pv_r (mm_r M a0 0)), none, none, none, none] [] M (qr_ P)
  refine go_aload_n dX0_theLane_7 rfl ?_
  obtain ⟨l1, k2, H⟩ := H
  refine go_alenA k2 dX0_theLane_8 ?_
  refine go_istore (by decide) dX0_theLane_9 ?_
  show go_W mt_X0_theLane fr_C 11 [some (pv_r a0), some (pv_i x1), some (pv_r 0), some (pv_r (mm_r M a0 0)), some (pv_i (nI l1)), none, none, none] [] M (qr_ P)
  refine go_iconst (v := (0 : Int32)) rfl dX0_theLane_11 ?_
  refine go_istore (by decide) dX0_theLane_12 ?_
  show go_W mt_X0_theLane fr_C 14 [some (pv_r a0), some (pv_i x1), some (pv_r 0), some (pv_r (mm_r M a0 0)), some (pv_i (nI l1)), some (pv_i (0 : Int32)), none, none] [] M (qr_ P)
  exact H
set_option maxRecDepth 20000 in
theorem wc_X0_theLane_14 {M : mm_T} {a0 a2 a3 : Nat} {x1 x4 x5 : Int32} {P : Nat → mm_T → Prop} (K0 : mm_k M a0 = (0, 4)) (H : (((x4 ≤ x5) → P a2 M) ∧ ((¬ x4 ≤ x5) → ∃ l1, ak_ M a3 2 l1 ∧ (∃ n4, (x5 = nI n4 ∧ n4 < l1) ∧ (mm_k M (mm_r M a3 n4) = (3, 14) ∧ ((((mm_i M (mm_r M a3 n4) 6 ≤ 0) → cw_r mt_X0_theLane 14 [some (pv_r a0), some (pv_i x1), some (pv_r a2), some (pv_r a3), some (pv_i x4), some (pv_i (nI (n4 + 1))), none, none] [] M P) ∧ ((¬ mm_i M (mm_r M a3 n4) 6 ≤ 0) → (((x1 = 0) → (((a2 = 0) → cw_r mt_X0_theLane 14 [some (pv_r a0), some (pv_i x1), some (pv_r (mm_r M a3 n4)), some (pv_r a3), some (pv_i x4), some (pv_i (nI (n4 + 1))), none, none] [] M P) ∧ ((¬ a2 = 0) → mm_k M a2 = (3, 14) ∧ ((((mm_i M a2 5 ≤ mm_i M (mm_r M a3 n4) 5) → cw_r mt_X0_theLane 14 [some (pv_r a0), some (pv_i x1), some (pv_r a2), some (pv_r a3), some (pv_i x4), some (pv_i (nI (n4 + 1))), none, none] [] M P) ∧ ((¬ mm_i M a2 5 ≤ mm_i M (mm_r M a3 n4) 5) → cw_r mt_X0_theLane 14 [some (pv_r a0), some (pv_i x1), some (pv_r (mm_r M a3 n4)), some (pv_r a3), some (pv_i x4), some (pv_i (nI (n4 + 1))), none, none] [] M P)))))) ∧ ((¬ x1 = 0) → (((mm_i M (mm_r M a3 n4) 3 ≤ mm_i M (mm_r M a3 n4) 8) → cw_r mt_X0_theLane 14 [some (pv_r a0), some (pv_i x1), some (pv_r a2), some (pv_r a3), some (pv_i x4), some (pv_i (nI (n4 + 1))), none, none] [] M P) ∧ ((¬ mm_i M (mm_r M a3 n4) 3 ≤ mm_i M (mm_r M a3 n4) 8) → (((a2 = 0) → cw_r mt_X0_theLane 14 [some (pv_r a0), some (pv_i x1), some (pv_r (mm_r M a3 n4)), some (pv_r a3), some (pv_i x4), some (pv_i (nI (n4 + 1))), none, none] [] M P) ∧ ((¬ a2 = 0) → mm_k M a2 = (3, 14) ∧ ((((mm_i M a2 5 ≤ mm_i M (mm_r M a3 n4) 5) → cw_r mt_X0_theLane 14 [some (pv_r a0), some (pv_i x1), some (pv_r a2), some (pv_r a3), some (pv_i x4), some (pv_i (nI (n4 + 1))), none, none] [] M P) ∧ ((¬ mm_i M a2 5 ≤ mm_i M (mm_r M a3 n4) 5) → cw_r mt_X0_theLane 14 [some (pv_r a0), some (pv_i x1), some (pv_r (mm_r M a3 n4)), some (pv_r a3), some (pv_i x4), some (pv_i (nI (n4 + 1))), none, none] [] M P))))))))))))))))) : cw_r mt_X0_theLane 14 [some (pv_r a0), some (pv_i x1), some (pv_r a2), some (pv_r a3), some (pv_i x4), some (pv_i x5), none, none] [] M P := by
  refine go_iload dX0_theLane_14 rfl ?_
  refine go_iload dX0_theLane_16 rfl ?_
  refine go_icmp_ge (tgt := 89) dX0_theLane_18 (by decide) (fun hc => ?_) (fun hc => ?_)
  · replace H := H.1 hc
    refine go_aload_n dX0_theLane_89 rfl ?_
    exact go_aret rfl (Or.inl ⟨_, rfl⟩) dX0_theLane_90 ⟨_, rfl, H⟩
  · replace H := H.2 hc
    refine go_aload_n dX0_theLane_21 rfl ?_
    refine go_iload dX0_theLane_22 rfl ?_
    obtain ⟨l1, k2, H⟩ := H
    obtain ⟨n4, ⟨hn4, hn4b⟩, H⟩ := H
    refine go_aaldA (j := n4) k2 (by decide) hn4 hn4b dX0_theLane_24 ?_
    refine go_astore (by decide) dX0_theLane_25 ?_
    show go_W mt_X0_theLane fr_C 27 [some (pv_r a0), some (pv_i x1), some (pv_r a2), some (pv_r a3), some (pv_i x4), some (pv_i x5), some (pv_r (mm_r M a3 n4)), none] [] M (qr_ P)
    refine go_aload dX0_theLane_27 rfl ?_
    obtain ⟨k5, H⟩ := H
    refine go_getI (k := 6) ⟨by decide, rfl, by decide, rfl⟩ k5 fl_X0_50 dX0_theLane_29 ?_
    refine go_if_le (tgt := 56) dX0_theLane_32 (by decide) (fun hc => ?_) (fun hc => ?_)
    · replace H := H.1 hc
      refine go_iconst (v := (0 : Int32)) rfl dX0_theLane_56 ?_
      refine go_istore (by decide) dX0_theLane_57 ?_
      show go_W mt_X0_theLane fr_C 59 [some (pv_r a0), some (pv_i x1), some (pv_r a2), some (pv_r a3), some (pv_i x4), some (pv_i x5), some (pv_r (mm_r M a3 n4)), some (pv_i (0 : Int32))] [] M (qr_ P)
      refine go_iload dX0_theLane_59 rfl ?_
      refine go_if_eq (tgt := 83) dX0_theLane_61 (by decide) (fun _ => ?_) (fun hc => absurd hc (by decide))
      refine go_iincN (n := n4) (k := 1) hn4 (by decide) rfl rfl dX0_theLane_83 ?_
      show go_W mt_X0_theLane fr_C 86 [some (pv_r a0), some (pv_i x1), some (pv_r a2), some (pv_r a3), some (pv_i x4), some (pv_i (nI (n4 + 1))), some (pv_r (mm_r M a3 n4)), some (pv_i (0 : Int32))] [] M (qr_ P)
      refine go_goto (tgt := 14) dX0_theLane_86 (by decide) ?_
      exact go_fg (ls' := [some (pv_r a0), some (pv_i x1), some (pv_r a2), some (pv_r a3), some (pv_i x4), some (pv_i (nI (n4 + 1))), none, none]) ⟨rfl, ⟨rfl, ⟨rfl, ⟨rfl, ⟨rfl, ⟨rfl, trivial⟩⟩⟩⟩⟩⟩ H
    · replace H := H.2 hc
      refine go_iload_n dX0_theLane_35 rfl ?_
      refine go_if_eq (tgt := 52) dX0_theLane_36 (by decide) (fun hc => ?_) (fun hc => ?_)
      · replace H := H.1 hc
        refine go_iconst (v := (1 : Int32)) rfl dX0_theLane_52 ?_
        refine go_goto (tgt := 57) dX0_theLane_53 (by decide) ?_
        refine go_istore (by decide) dX0_theLane_57 ?_
        show go_W mt_X0_theLane fr_C 59 [some (pv_r a0), some (pv_i x1), some (pv_r a2), some (pv_r a3), some (pv_i x4), some (pv_i x5), some (pv_r (mm_r M a3 n4)), some (pv_i (1 : Int32))] [] M (qr_ P)
        refine go_iload dX0_theLane_59 rfl ?_
        refine go_if_eq (tgt := 83) dX0_theLane_61 (by decide) (fun hc => absurd hc (by decide)) (fun _ => ?_)
        refine go_aload_n dX0_theLane_64 rfl ?_
        refine go_ifnull (tgt := 80) dX0_theLane_65 (by decide) (fun hc => ?_) (fun hc => ?_)
        · replace H := H.1 hc
          refine go_aload dX0_theLane_80 rfl ?_
          refine go_astore_n (by decide) dX0_theLane_82 ?_
          show go_W mt_X0_theLane fr_C 83 [some (pv_r a0), some (pv_i x1), some (pv_r (mm_r M a3 n4)), some (pv_r a3), some (pv_i x4), some (pv_i x5), some (pv_r (mm_r M a3 n4)), some (pv_i (1 : Int32))] [] M (qr_ P)
          refine go_iincN (n := n4) (k := 1) hn4 (by decide) rfl rfl dX0_theLane_83 ?_
          show go_W mt_X0_theLane fr_C 86 [some (pv_r a0), some (pv_i x1), some (pv_r (mm_r M a3 n4)), some (pv_r a3), some (pv_i x4), some (pv_i (nI (n4 + 1))), some (pv_r (mm_r M a3 n4)), some (pv_i (1 : Int32))] [] M (qr_ P)
          refine go_goto (tgt := 14) dX0_theLane_86 (by decide) ?_
          exact go_fg (ls' := [some (pv_r a0), some (pv_i x1), some (pv_r (mm_r M a3 n4)), some (pv_r a3), some (pv_i x4), some (pv_i (nI (n4 + 1))), none, none]) ⟨rfl, ⟨rfl, ⟨rfl, ⟨rfl, ⟨rfl, ⟨rfl, trivial⟩⟩⟩⟩⟩⟩ H
        · replace H := H.2 hc
          refine go_aload dX0_theLane_68 rfl ?_
          refine go_getI (k := 5) ⟨by decide, rfl, by decide, rfl⟩ k5 fl_X0_59 dX0_theLane_70 ?_
          refine go_aload_n dX0_theLane_73 rfl ?_
          obtain ⟨k6, H⟩ := H
          refine go_getI (k := 5) ⟨by decide, rfl, by decide, rfl⟩ k6 fl_X0_59 dX0_theLane_74 ?_
          refine go_icmp_ge (tgt := 83) dX0_theLane_77 (by decide) (fun hc => ?_) (fun hc => ?_)
          · replace H := H.1 hc
            refine go_iincN (n := n4) (k := 1) hn4 (by decide) rfl rfl dX0_theLane_83 ?_
            show go_W mt_X0_theLane fr_C 86 [some (pv_r a0), some (pv_i x1), some (pv_r a2), some (pv_r a3), some (pv_i x4), some (pv_i (nI (n4 + 1))), some (pv_r (mm_r M a3 n4)), some (pv_i (1 : Int32))] [] M (qr_ P)
            refine go_goto (tgt := 14) dX0_theLane_86 (by decide) ?_
            exact go_fg (ls' := [some (pv_r a0), some (pv_i x1), some (pv_r a2), some (pv_r a3), some (pv_i x4), some (pv_i (nI (n4 + 1))), none, none]) ⟨rfl, ⟨rfl, ⟨rfl, ⟨rfl, ⟨rfl, ⟨rfl, trivial⟩⟩⟩⟩⟩⟩ H
          · replace H := H.2 hc
            refine go_aload dX0_theLane_80 rfl ?_
            refine go_astore_n (by decide) dX0_theLane_82 ?_
            show go_W mt_X0_theLane fr_C 83 [some (pv_r a0), some (pv_i x1), some (pv_r (mm_r M a3 n4)), some (pv_r a3), some (pv_i x4), some (pv_i x5), some (pv_r (mm_r M a3 n4)), some (pv_i (1 : Int32))] [] M (qr_ P)
            refine go_iincN (n := n4) (k := 1) hn4 (by decide) rfl rfl dX0_theLane_83 ?_
            show go_W mt_X0_theLane fr_C 86 [some (pv_r a0), some (pv_i x1), some (pv_r (mm_r M a3 n4)), some (pv_r a3), some (pv_i x4), some (pv_i (nI (n4 + 1))), some (pv_r (mm_r M a3 n4)), some (pv_i (1 : Int32))] [] M (qr_ P)
            refine go_goto (tgt := 14) dX0_theLane_86 (by decide) ?_
            exact go_fg (ls' := [some (pv_r a0), some (pv_i x1), some (pv_r (mm_r M a3 n4)), some (pv_r a3), some (pv_i x4), some (pv_i (nI (n4 + 1))), none, none]) ⟨rfl, ⟨rfl, ⟨rfl, ⟨rfl, ⟨rfl, ⟨rfl, trivial⟩⟩⟩⟩⟩⟩ H
      · replace H := H.2 hc
        refine go_aload dX0_theLane_39 rfl ?_
        refine go_getI (k := 8) ⟨by decide, rfl, by decide, rfl⟩ k5 fl_X0_53 dX0_theLane_41 ?_
        refine go_aload dX0_theLane_44 rfl ?_
        refine go_getI (k := 3) ⟨by decide, rfl, by decide, rfl⟩ k5 fl_X0_56 dX0_theLane_46 ?_
        refine go_icmp_ge (tgt := 56) dX0_theLane_49 (by decide) (fun hc => ?_) (fun hc => ?_)
        · replace H := H.1 hc
          refine go_iconst (v := (0 : Int32)) rfl dX0_theLane_56 ?_
          refine go_istore (by decide) dX0_theLane_57 ?_
          show go_W mt_X0_theLane fr_C 59 [some (pv_r a0), some (pv_i x1), some (pv_r a2), some (pv_r a3), some (pv_i x4), some (pv_i x5), some (pv_r (mm_r M a3 n4)), some (pv_i (0 : Int32))] [] M (qr_ P)
          refine go_iload dX0_theLane_59 rfl ?_
          refine go_if_eq (tgt := 83) dX0_theLane_61 (by decide) (fun _ => ?_) (fun hc => absurd hc (by decide))
          refine go_iincN (n := n4) (k := 1) hn4 (by decide) rfl rfl dX0_theLane_83 ?_
          show go_W mt_X0_theLane fr_C 86 [some (pv_r a0), some (pv_i x1), some (pv_r a2), some (pv_r a3), some (pv_i x4), some (pv_i (nI (n4 + 1))), some (pv_r (mm_r M a3 n4)), some (pv_i (0 : Int32))] [] M (qr_ P)
          refine go_goto (tgt := 14) dX0_theLane_86 (by decide) ?_
          exact go_fg (ls' := [some (pv_r a0), some (pv_i x1), some (pv_r a2), some (pv_r a3), some (pv_i x4), some (pv_i (nI (n4 + 1))), none, none]) ⟨rfl, ⟨rfl, ⟨rfl, ⟨rfl, ⟨rfl, ⟨rfl, trivial⟩⟩⟩⟩⟩⟩ H
        · replace H := H.2 hc
          refine go_iconst (v := (1 : Int32)) rfl dX0_theLane_52 ?_
          refine go_goto (tgt := 57) dX0_theLane_53 (by decide) ?_
          refine go_istore (by decide) dX0_theLane_57 ?_
          show go_W mt_X0_theLane fr_C 59 [some (pv_r a0), some (pv_i x1), some (pv_r a2), some (pv_r a3), some (pv_i x4), some (pv_i x5), some (pv_r (mm_r M a3 n4)), some (pv_i (1 : Int32))] [] M (qr_ P)
          refine go_iload dX0_theLane_59 rfl ?_
          refine go_if_eq (tgt := 83) dX0_theLane_61 (by decide) (fun hc => absurd hc (by decide)) (fun _ => ?_)
          refine go_aload_n dX0_theLane_64 rfl ?_
          refine go_ifnull (tgt := 80) dX0_theLane_65 (by decide) (fun hc => ?_) (fun hc => ?_)
          · replace H := H.1 hc
            refine go_aload dX0_theLane_80 rfl ?_
            refine go_astore_n (by decide) dX0_theLane_82 ?_
            show go_W mt_X0_theLane fr_C 83 [some (pv_r a0), some (pv_i x1), some (pv_r (mm_r M a3 n4)), some (pv_r a3), some (pv_i x4), some (pv_i x5), some (pv_r (mm_r M a3 n4)), some (pv_i (1 : Int32))] [] M (qr_ P)
            refine go_iincN (n := n4) (k := 1) hn4 (by decide) rfl rfl dX0_theLane_83 ?_
            show go_W mt_X0_theLane fr_C 86 [some (pv_r a0), some (pv_i x1), some (pv_r (mm_r M a3 n4)), some (pv_r a3), some (pv_i x4), some (pv_i (nI (n4 + 1))), some (pv_r (mm_r M a3 n4)), some (pv_i (1 : Int32))] [] M (qr_ P)
            refine go_goto (tgt := 14) dX0_theLane_86 (by decide) ?_
            exact go_fg (ls' := [some (pv_r a0), some (pv_i x1), some (pv_r (mm_r M a3 n4)), some (pv_r a3), some (pv_i x4), some (pv_i (nI (n4 + 1))), none, none]) ⟨rfl, ⟨rfl, ⟨rfl, ⟨rfl, ⟨rfl, ⟨rfl, trivial⟩⟩⟩⟩⟩⟩ H
          · replace H := H.2 hc
            refine go_aload dX0_theLane_68 rfl ?_
            refine go_getI (k := 5) ⟨by decide, rfl, by decide, rfl⟩ k5 fl_X0_59 dX0_theLane_70 ?_
            refine go_aload_n dX0_theLane_73 rfl ?_
            obtain ⟨k7, H⟩ := H
            refine go_getI (k := 5) ⟨by decide, rfl, by decide, rfl⟩ k7 fl_X0_59 dX0_theLane_74 ?_
            refine go_icmp_ge (tgt := 83) dX0_theLane_77 (by decide) (fun hc => ?_) (fun hc => ?_)
            · replace H := H.1 hc
              refine go_iincN (n := n4) (k := 1) hn4 (by decide) rfl rfl dX0_theLane_83 ?_
              show go_W mt_X0_theLane fr_C 86 [some (pv_r a0), some (pv_i x1), some (pv_r a2), some (pv_r a3), some (pv_i x4), some (pv_i (nI (n4 + 1))), some (pv_r (mm_r M a3 n4)), some (pv_i (1 : Int32))] [] M (qr_ P)
              refine go_goto (tgt := 14) dX0_theLane_86 (by decide) ?_
              exact go_fg (ls' := [some (pv_r a0), some (pv_i x1), some (pv_r a2), some (pv_r a3), some (pv_i x4), some (pv_i (nI (n4 + 1))), none, none]) ⟨rfl, ⟨rfl, ⟨rfl, ⟨rfl, ⟨rfl, ⟨rfl, trivial⟩⟩⟩⟩⟩⟩ H
            · replace H := H.2 hc
              refine go_aload dX0_theLane_80 rfl ?_
              refine go_astore_n (by decide) dX0_theLane_82 ?_
              show go_W mt_X0_theLane fr_C 83 [some (pv_r a0), some (pv_i x1), some (pv_r (mm_r M a3 n4)), some (pv_r a3), some (pv_i x4), some (pv_i x5), some (pv_r (mm_r M a3 n4)), some (pv_i (1 : Int32))] [] M (qr_ P)
              refine go_iincN (n := n4) (k := 1) hn4 (by decide) rfl rfl dX0_theLane_83 ?_
              show go_W mt_X0_theLane fr_C 86 [some (pv_r a0), some (pv_i x1), some (pv_r (mm_r M a3 n4)), some (pv_r a3), some (pv_i x4), some (pv_i (nI (n4 + 1))), some (pv_r (mm_r M a3 n4)), some (pv_i (1 : Int32))] [] M (qr_ P)
              refine go_goto (tgt := 14) dX0_theLane_86 (by decide) ?_
              exact go_fg (ls' := [some (pv_r a0), some (pv_i x1), some (pv_r (mm_r M a3 n4)), some (pv_r a3), some (pv_i x4), some (pv_i (nI (n4 + 1))), none, none]) ⟨rfl, ⟨rfl, ⟨rfl, ⟨rfl, ⟨rfl, ⟨rfl, trivial⟩⟩⟩⟩⟩⟩ H
set_option maxRecDepth 20000 in
theorem wc_X0_greatestPass_0 {M : mm_T} {a0 : Nat} {P : Nat → mm_T → Prop} (K0 : mm_k M a0 = (0, 4)) (H : ∃ l1, ak_ M (mm_r M a0 0) 2 l1 ∧ (cw_r mt_X0_greatestPass 13 [some (pv_r a0), some (pv_r 0), some (pv_r (mm_r M a0 0)), some (pv_i (nI l1)), some (pv_i (0 : Int32)), none] [] M P)) : cw_r mt_X0_greatestPass 0 [some (pv_r a0), none, none, none, none, none] [] M P := by
  refine go_null dX0_greatestPass_0 ?_
  refine go_astore_n (by decide) dX0_greatestPass_1 ?_
  show go_W mt_X0_greatestPass fr_C 2 [some (pv_r a0), some (pv_r 0), none, none, none, none] [] M (qr_ P)
  refine go_aload_n dX0_greatestPass_2 rfl ?_
  refine go_getR (k := 0) ⟨by decide, rfl, by decide, Or.inr ⟨_, rfl⟩⟩ K0 fl_X0_11 dX0_greatestPass_3 ?_
  refine go_astore_n (by decide) dX0_greatestPass_6 ?_
  show go_W mt_X0_greatestPass fr_C 7 [some (pv_r a0), some (pv_r 0), some (pv_r (mm_r M a0 0)), none, none, none] [] M (qr_ P)
  refine go_aload_n dX0_greatestPass_7 rfl ?_
  obtain ⟨l1, k2, H⟩ := H
  refine go_alenA k2 dX0_greatestPass_8 ?_
  refine go_istore_n (by decide) dX0_greatestPass_9 ?_
  show go_W mt_X0_greatestPass fr_C 10 [some (pv_r a0), some (pv_r 0), some (pv_r (mm_r M a0 0)), some (pv_i (nI l1)), none, none] [] M (qr_ P)
  refine go_iconst (v := (0 : Int32)) rfl dX0_greatestPass_10 ?_
  refine go_istore (by decide) dX0_greatestPass_11 ?_
  show go_W mt_X0_greatestPass fr_C 13 [some (pv_r a0), some (pv_r 0), some (pv_r (mm_r M a0 0)), some (pv_i (nI l1)), some (pv_i (0 : Int32)), none] [] M (qr_ P)
  exact H
set_option maxRecDepth 20000 in
theorem wc_X0_greatestPass_13 {M : mm_T} {a0 a1 a2 : Nat} {x3 x4 : Int32} {P : Nat → mm_T → Prop} (K0 : mm_k M a0 = (0, 4)) (H : (((x3 ≤ x4) → P a1 M) ∧ ((¬ x3 ≤ x4) → ∃ l1, ak_ M a2 2 l1 ∧ (∃ n4, (x4 = nI n4 ∧ n4 < l1) ∧ (mm_k M (mm_r M a2 n4) = (3, 14) ∧ ((((mm_i M (mm_r M a2 n4) 6 ≤ 0) → cw_r mt_X0_greatestPass 13 [some (pv_r a0), some (pv_r a1), some (pv_r a2), some (pv_i x3), some (pv_i (nI (n4 + 1))), none] [] M P) ∧ ((¬ mm_i M (mm_r M a2 n4) 6 ≤ 0) → (((a1 = 0) → cw_r mt_X0_greatestPass 13 [some (pv_r a0), some (pv_r (mm_r M a2 n4)), some (pv_r a2), some (pv_i x3), some (pv_i (nI (n4 + 1))), none] [] M P) ∧ ((¬ a1 = 0) → mm_k M a1 = (3, 14) ∧ ((((mm_i M (mm_r M a2 n4) 5 ≤ mm_i M a1 5) → cw_r mt_X0_greatestPass 13 [some (pv_r a0), some (pv_r a1), some (pv_r a2), some (pv_i x3), some (pv_i (nI (n4 + 1))), none] [] M P) ∧ ((¬ mm_i M (mm_r M a2 n4) 5 ≤ mm_i M a1 5) → cw_r mt_X0_greatestPass 13 [some (pv_r a0), some (pv_r (mm_r M a2 n4)), some (pv_r a2), some (pv_i x3), some (pv_i (nI (n4 + 1))), none] [] M P))))))))))))) : cw_r mt_X0_greatestPass 13 [some (pv_r a0), some (pv_r a1), some (pv_r a2), some (pv_i x3), some (pv_i x4), none] [] M P := by
  refine go_iload dX0_greatestPass_13 rfl ?_
  refine go_iload_n dX0_greatestPass_15 rfl ?_
  refine go_icmp_ge (tgt := 58) dX0_greatestPass_16 (by decide) (fun hc => ?_) (fun hc => ?_)
  · replace H := H.1 hc
    refine go_aload_n dX0_greatestPass_58 rfl ?_
    exact go_aret rfl (Or.inl ⟨_, rfl⟩) dX0_greatestPass_59 ⟨_, rfl, H⟩
  · replace H := H.2 hc
    refine go_aload_n dX0_greatestPass_19 rfl ?_
    refine go_iload dX0_greatestPass_20 rfl ?_
    obtain ⟨l1, k2, H⟩ := H
    obtain ⟨n4, ⟨hn4, hn4b⟩, H⟩ := H
    refine go_aaldA (j := n4) k2 (by decide) hn4 hn4b dX0_greatestPass_22 ?_
    refine go_astore (by decide) dX0_greatestPass_23 ?_
    show go_W mt_X0_greatestPass fr_C 25 [some (pv_r a0), some (pv_r a1), some (pv_r a2), some (pv_i x3), some (pv_i x4), some (pv_r (mm_r M a2 n4))] [] M (qr_ P)
    refine go_aload dX0_greatestPass_25 rfl ?_
    obtain ⟨k5, H⟩ := H
    refine go_getI (k := 6) ⟨by decide, rfl, by decide, rfl⟩ k5 fl_X0_50 dX0_greatestPass_27 ?_
    refine go_if_le (tgt := 52) dX0_greatestPass_30 (by decide) (fun hc => ?_) (fun hc => ?_)
    · replace H := H.1 hc
      refine go_iincN (n := n4) (k := 1) hn4 (by decide) rfl rfl dX0_greatestPass_52 ?_
      show go_W mt_X0_greatestPass fr_C 55 [some (pv_r a0), some (pv_r a1), some (pv_r a2), some (pv_i x3), some (pv_i (nI (n4 + 1))), some (pv_r (mm_r M a2 n4))] [] M (qr_ P)
      refine go_goto (tgt := 13) dX0_greatestPass_55 (by decide) ?_
      exact go_fg (ls' := [some (pv_r a0), some (pv_r a1), some (pv_r a2), some (pv_i x3), some (pv_i (nI (n4 + 1))), none]) ⟨rfl, ⟨rfl, ⟨rfl, ⟨rfl, ⟨rfl, trivial⟩⟩⟩⟩⟩ H
    · replace H := H.2 hc
      refine go_aload_n dX0_greatestPass_33 rfl ?_
      refine go_ifnull (tgt := 49) dX0_greatestPass_34 (by decide) (fun hc => ?_) (fun hc => ?_)
      · replace H := H.1 hc
        refine go_aload dX0_greatestPass_49 rfl ?_
        refine go_astore_n (by decide) dX0_greatestPass_51 ?_
        show go_W mt_X0_greatestPass fr_C 52 [some (pv_r a0), some (pv_r (mm_r M a2 n4)), some (pv_r a2), some (pv_i x3), some (pv_i x4), some (pv_r (mm_r M a2 n4))] [] M (qr_ P)
        refine go_iincN (n := n4) (k := 1) hn4 (by decide) rfl rfl dX0_greatestPass_52 ?_
        show go_W mt_X0_greatestPass fr_C 55 [some (pv_r a0), some (pv_r (mm_r M a2 n4)), some (pv_r a2), some (pv_i x3), some (pv_i (nI (n4 + 1))), some (pv_r (mm_r M a2 n4))] [] M (qr_ P)
        refine go_goto (tgt := 13) dX0_greatestPass_55 (by decide) ?_
        exact go_fg (ls' := [some (pv_r a0), some (pv_r (mm_r M a2 n4)), some (pv_r a2), some (pv_i x3), some (pv_i (nI (n4 + 1))), none]) ⟨rfl, ⟨rfl, ⟨rfl, ⟨rfl, ⟨rfl, trivial⟩⟩⟩⟩⟩ H
      · replace H := H.2 hc
        refine go_aload dX0_greatestPass_37 rfl ?_
        refine go_getI (k := 5) ⟨by decide, rfl, by decide, rfl⟩ k5 fl_X0_59 dX0_greatestPass_39 ?_
        refine go_aload_n dX0_greatestPass_42 rfl ?_
        obtain ⟨k6, H⟩ := H
        refine go_getI (k := 5) ⟨by decide, rfl, by decide, rfl⟩ k6 fl_X0_59 dX0_greatestPass_43 ?_
        refine go_icmp_le (tgt := 52) dX0_greatestPass_46 (by decide) (fun hc => ?_) (fun hc => ?_)
        · replace H := H.1 hc
          refine go_iincN (n := n4) (k := 1) hn4 (by decide) rfl rfl dX0_greatestPass_52 ?_
          show go_W mt_X0_greatestPass fr_C 55 [some (pv_r a0), some (pv_r a1), some (pv_r a2), some (pv_i x3), some (pv_i (nI (n4 + 1))), some (pv_r (mm_r M a2 n4))] [] M (qr_ P)
          refine go_goto (tgt := 13) dX0_greatestPass_55 (by decide) ?_
          exact go_fg (ls' := [some (pv_r a0), some (pv_r a1), some (pv_r a2), some (pv_i x3), some (pv_i (nI (n4 + 1))), none]) ⟨rfl, ⟨rfl, ⟨rfl, ⟨rfl, ⟨rfl, trivial⟩⟩⟩⟩⟩ H
        · replace H := H.2 hc
          refine go_aload dX0_greatestPass_49 rfl ?_
          refine go_astore_n (by decide) dX0_greatestPass_51 ?_
          show go_W mt_X0_greatestPass fr_C 52 [some (pv_r a0), some (pv_r (mm_r M a2 n4)), some (pv_r a2), some (pv_i x3), some (pv_i x4), some (pv_r (mm_r M a2 n4))] [] M (qr_ P)
          refine go_iincN (n := n4) (k := 1) hn4 (by decide) rfl rfl dX0_greatestPass_52 ?_
          show go_W mt_X0_greatestPass fr_C 55 [some (pv_r a0), some (pv_r (mm_r M a2 n4)), some (pv_r a2), some (pv_i x3), some (pv_i (nI (n4 + 1))), some (pv_r (mm_r M a2 n4))] [] M (qr_ P)
          refine go_goto (tgt := 13) dX0_greatestPass_55 (by decide) ?_
          exact go_fg (ls' := [some (pv_r a0), some (pv_r (mm_r M a2 n4)), some (pv_r a2), some (pv_i x3), some (pv_i (nI (n4 + 1))), none]) ⟨rfl, ⟨rfl, ⟨rfl, ⟨rfl, ⟨rfl, trivial⟩⟩⟩⟩⟩ H
set_option maxRecDepth 20000 in
theorem wc_X0_liveLanes_0 {M : mm_T} {a0 : Nat} {P : Int32 → mm_T → Prop} (K0 : mm_k M a0 = (0, 4)) (H : ∃ l1, ak_ M (mm_r M a0 0) 2 l1 ∧ (cw_i mt_X0_liveLanes 13 [some (pv_r a0), some (pv_i (0 : Int32)), some (pv_r (mm_r M a0 0)), some (pv_i (nI l1)), some (pv_i (0 : Int32)), none] [] M P)) : cw_i mt_X0_liveLanes 0 [some (pv_r a0), none, none, none, none, none] [] M P := by
  refine go_iconst (v := (0 : Int32)) rfl dX0_liveLanes_0 ?_
  refine go_istore_n (by decide) dX0_liveLanes_1 ?_
  show go_W mt_X0_liveLanes fr_C 2 [some (pv_r a0), some (pv_i (0 : Int32)), none, none, none, none] [] M (qi_ P)
  refine go_aload_n dX0_liveLanes_2 rfl ?_
  refine go_getR (k := 0) ⟨by decide, rfl, by decide, Or.inr ⟨_, rfl⟩⟩ K0 fl_X0_11 dX0_liveLanes_3 ?_
  refine go_astore_n (by decide) dX0_liveLanes_6 ?_
  show go_W mt_X0_liveLanes fr_C 7 [some (pv_r a0), some (pv_i (0 : Int32)), some (pv_r (mm_r M a0 0)), none, none, none] [] M (qi_ P)
  refine go_aload_n dX0_liveLanes_7 rfl ?_
  obtain ⟨l1, k2, H⟩ := H
  refine go_alenA k2 dX0_liveLanes_8 ?_
  refine go_istore_n (by decide) dX0_liveLanes_9 ?_
  show go_W mt_X0_liveLanes fr_C 10 [some (pv_r a0), some (pv_i (0 : Int32)), some (pv_r (mm_r M a0 0)), some (pv_i (nI l1)), none, none] [] M (qi_ P)
  refine go_iconst (v := (0 : Int32)) rfl dX0_liveLanes_10 ?_
  refine go_istore (by decide) dX0_liveLanes_11 ?_
  show go_W mt_X0_liveLanes fr_C 13 [some (pv_r a0), some (pv_i (0 : Int32)), some (pv_r (mm_r M a0 0)), some (pv_i (nI l1)), some (pv_i (0 : Int32)), none] [] M (qi_ P)
  exact H
set_option maxRecDepth 20000 in
theorem wc_X0_liveLanes_13 {M : mm_T} {a0 a2 : Nat} {x1 x3 x4 : Int32} {P : Int32 → mm_T → Prop} (K0 : mm_k M a0 = (0, 4)) (H : (((x3 ≤ x4) → P x1 M) ∧ ((¬ x3 ≤ x4) → ∃ l1, ak_ M a2 2 l1 ∧ (∃ n4, (x4 = nI n4 ∧ n4 < l1) ∧ (mm_k M (mm_r M a2 n4) = (3, 14) ∧ ((((mm_i M (mm_r M a2 n4) 6 ≤ 0) → cw_i mt_X0_liveLanes 13 [some (pv_r a0), some (pv_i x1), some (pv_r a2), some (pv_i x3), some (pv_i (nI (n4 + 1))), none] [] M P) ∧ ((¬ mm_i M (mm_r M a2 n4) 6 ≤ 0) → cw_i mt_X0_liveLanes 13 [some (pv_r a0), some (pv_i (x1 + (1 : Int32))), some (pv_r a2), some (pv_i x3), some (pv_i (nI (n4 + 1))), none] [] M P)))))))) : cw_i mt_X0_liveLanes 13 [some (pv_r a0), some (pv_i x1), some (pv_r a2), some (pv_i x3), some (pv_i x4), none] [] M P := by
  refine go_iload dX0_liveLanes_13 rfl ?_
  refine go_iload_n dX0_liveLanes_15 rfl ?_
  refine go_icmp_ge (tgt := 42) dX0_liveLanes_16 (by decide) (fun hc => ?_) (fun hc => ?_)
  · replace H := H.1 hc
    refine go_iload_n dX0_liveLanes_42 rfl ?_
    exact go_iret rfl rfl dX0_liveLanes_43 ⟨_, rfl, H⟩
  · replace H := H.2 hc
    refine go_aload_n dX0_liveLanes_19 rfl ?_
    refine go_iload dX0_liveLanes_20 rfl ?_
    obtain ⟨l1, k2, H⟩ := H
    obtain ⟨n4, ⟨hn4, hn4b⟩, H⟩ := H
    refine go_aaldA (j := n4) k2 (by decide) hn4 hn4b dX0_liveLanes_22 ?_
    refine go_astore (by decide) dX0_liveLanes_23 ?_
    show go_W mt_X0_liveLanes fr_C 25 [some (pv_r a0), some (pv_i x1), some (pv_r a2), some (pv_i x3), some (pv_i x4), some (pv_r (mm_r M a2 n4))] [] M (qi_ P)
    refine go_aload dX0_liveLanes_25 rfl ?_
    obtain ⟨k5, H⟩ := H
    refine go_getI (k := 6) ⟨by decide, rfl, by decide, rfl⟩ k5 fl_X0_50 dX0_liveLanes_27 ?_
    refine go_if_le (tgt := 36) dX0_liveLanes_30 (by decide) (fun hc => ?_) (fun hc => ?_)
    · replace H := H.1 hc
      refine go_iincN (n := n4) (k := 1) hn4 (by decide) rfl rfl dX0_liveLanes_36 ?_
      show go_W mt_X0_liveLanes fr_C 39 [some (pv_r a0), some (pv_i x1), some (pv_r a2), some (pv_i x3), some (pv_i (nI (n4 + 1))), some (pv_r (mm_r M a2 n4))] [] M (qi_ P)
      refine go_goto (tgt := 13) dX0_liveLanes_39 (by decide) ?_
      exact go_fg (ls' := [some (pv_r a0), some (pv_i x1), some (pv_r a2), some (pv_i x3), some (pv_i (nI (n4 + 1))), none]) ⟨rfl, ⟨rfl, ⟨rfl, ⟨rfl, ⟨rfl, trivial⟩⟩⟩⟩⟩ H
    · replace H := H.2 hc
      refine go_iinc (v := (1 : Int32)) (by decide) rfl rfl dX0_liveLanes_33 ?_
      show go_W mt_X0_liveLanes fr_C 36 [some (pv_r a0), some (pv_i (x1 + (1 : Int32))), some (pv_r a2), some (pv_i x3), some (pv_i x4), some (pv_r (mm_r M a2 n4))] [] M (qi_ P)
      refine go_iincN (n := n4) (k := 1) hn4 (by decide) rfl rfl dX0_liveLanes_36 ?_
      show go_W mt_X0_liveLanes fr_C 39 [some (pv_r a0), some (pv_i (x1 + (1 : Int32))), some (pv_r a2), some (pv_i x3), some (pv_i (nI (n4 + 1))), some (pv_r (mm_r M a2 n4))] [] M (qi_ P)
      refine go_goto (tgt := 13) dX0_liveLanes_39 (by decide) ?_
      exact go_fg (ls' := [some (pv_r a0), some (pv_i (x1 + (1 : Int32))), some (pv_r a2), some (pv_i x3), some (pv_i (nI (n4 + 1))), none]) ⟨rfl, ⟨rfl, ⟨rfl, ⟨rfl, ⟨rfl, trivial⟩⟩⟩⟩⟩ H
set_option maxRecDepth 20000 in
theorem wc_X0_takenSizes_0 {M : mm_T} {a0 : Nat} {P : Int32 → mm_T → Prop} (K0 : mm_k M a0 = (0, 4)) (H : ∃ l1, ak_ M (mm_r M a0 0) 2 l1 ∧ (cw_i mt_X0_takenSizes 13 [some (pv_r a0), some (pv_i (0 : Int32)), some (pv_r (mm_r M a0 0)), some (pv_i (nI l1)), some (pv_i (0 : Int32)), none] [] M P)) : cw_i mt_X0_takenSizes 0 [some (pv_r a0), none, none, none, none, none] [] M P := by
  refine go_iconst (v := (0 : Int32)) rfl dX0_takenSizes_0 ?_
  refine go_istore_n (by decide) dX0_takenSizes_1 ?_
  show go_W mt_X0_takenSizes fr_C 2 [some (pv_r a0), some (pv_i (0 : Int32)), none, none, none, none] [] M (qi_ P)
  refine go_aload_n dX0_takenSizes_2 rfl ?_
  refine go_getR (k := 0) ⟨by decide, rfl, by decide, Or.inr ⟨_, rfl⟩⟩ K0 fl_X0_11 dX0_takenSizes_3 ?_
  refine go_astore_n (by decide) dX0_takenSizes_6 ?_
  show go_W mt_X0_takenSizes fr_C 7 [some (pv_r a0), some (pv_i (0 : Int32)), some (pv_r (mm_r M a0 0)), none, none, none] [] M (qi_ P)
  refine go_aload_n dX0_takenSizes_7 rfl ?_
  obtain ⟨l1, k2, H⟩ := H
  refine go_alenA k2 dX0_takenSizes_8 ?_
  refine go_istore_n (by decide) dX0_takenSizes_9 ?_
  show go_W mt_X0_takenSizes fr_C 10 [some (pv_r a0), some (pv_i (0 : Int32)), some (pv_r (mm_r M a0 0)), some (pv_i (nI l1)), none, none] [] M (qi_ P)
  refine go_iconst (v := (0 : Int32)) rfl dX0_takenSizes_10 ?_
  refine go_istore (by decide) dX0_takenSizes_11 ?_
  show go_W mt_X0_takenSizes fr_C 13 [some (pv_r a0), some (pv_i (0 : Int32)), some (pv_r (mm_r M a0 0)), some (pv_i (nI l1)), some (pv_i (0 : Int32)), none] [] M (qi_ P)
  exact H
set_option maxRecDepth 20000 in
theorem wc_X0_takenSizes_13 {M : mm_T} {a0 a2 : Nat} {x1 x3 x4 : Int32} {P : Int32 → mm_T → Prop} (K0 : mm_k M a0 = (0, 4)) (H : (((x3 ≤ x4) → P x1 M) ∧ ((¬ x3 ≤ x4) → ∃ l1, ak_ M a2 2 l1 ∧ (∃ n4, (x4 = nI n4 ∧ n4 < l1) ∧ (mm_k M (mm_r M a2 n4) = (3, 14) ∧ (cw_i mt_X0_takenSizes 13 [some (pv_r a0), some (pv_i (x1 + mm_i M (mm_r M a2 n4) 9)), some (pv_r a2), some (pv_i x3), some (pv_i (nI (n4 + 1))), none] [] M P)))))) : cw_i mt_X0_takenSizes 13 [some (pv_r a0), some (pv_i x1), some (pv_r a2), some (pv_i x3), some (pv_i x4), none] [] M P := by
  refine go_iload dX0_takenSizes_13 rfl ?_
  refine go_iload_n dX0_takenSizes_15 rfl ?_
  refine go_icmp_ge (tgt := 39) dX0_takenSizes_16 (by decide) (fun hc => ?_) (fun hc => ?_)
  · replace H := H.1 hc
    refine go_iload_n dX0_takenSizes_39 rfl ?_
    exact go_iret rfl rfl dX0_takenSizes_40 ⟨_, rfl, H⟩
  · replace H := H.2 hc
    refine go_aload_n dX0_takenSizes_19 rfl ?_
    refine go_iload dX0_takenSizes_20 rfl ?_
    obtain ⟨l1, k2, H⟩ := H
    obtain ⟨n4, ⟨hn4, hn4b⟩, H⟩ := H
    refine go_aaldA (j := n4) k2 (by decide) hn4 hn4b dX0_takenSizes_22 ?_
    refine go_astore (by decide) dX0_takenSizes_23 ?_
    show go_W mt_X0_takenSizes fr_C 25 [some (pv_r a0), some (pv_i x1), some (pv_r a2), some (pv_i x3), some (pv_i x4), some (pv_r (mm_r M a2 n4))] [] M (qi_ P)
    refine go_iload_n dX0_takenSizes_25 rfl ?_
    refine go_aload dX0_takenSizes_26 rfl ?_
    obtain ⟨k5, H⟩ := H
    refine go_getI (k := 9) ⟨by decide, rfl, by decide, rfl⟩ k5 fl_X0_62 dX0_takenSizes_28 ?_
    refine go_iadd dX0_takenSizes_31 ?_
    refine go_istore_n (by decide) dX0_takenSizes_32 ?_
    show go_W mt_X0_takenSizes fr_C 33 [some (pv_r a0), some (pv_i (x1 + mm_i M (mm_r M a2 n4) 9)), some (pv_r a2), some (pv_i x3), some (pv_i x4), some (pv_r (mm_r M a2 n4))] [] M (qi_ P)
    refine go_iincN (n := n4) (k := 1) hn4 (by decide) rfl rfl dX0_takenSizes_33 ?_
    show go_W mt_X0_takenSizes fr_C 36 [some (pv_r a0), some (pv_i (x1 + mm_i M (mm_r M a2 n4) 9)), some (pv_r a2), some (pv_i x3), some (pv_i (nI (n4 + 1))), some (pv_r (mm_r M a2 n4))] [] M (qi_ P)
    refine go_goto (tgt := 13) dX0_takenSizes_36 (by decide) ?_
    exact go_fg (ls' := [some (pv_r a0), some (pv_i (x1 + mm_i M (mm_r M a2 n4) 9)), some (pv_r a2), some (pv_i x3), some (pv_i (nI (n4 + 1))), none]) ⟨rfl, ⟨rfl, ⟨rfl, ⟨rfl, ⟨rfl, trivial⟩⟩⟩⟩⟩ H
set_option maxRecDepth 20000 in
theorem wc_X0_weights_0 {M : mm_T} {a0 : Nat} {P : Int32 → mm_T → Prop} (K0 : mm_k M a0 = (0, 4)) (H : ∃ l1, ak_ M (mm_r M a0 0) 2 l1 ∧ (cw_i mt_X0_weights 13 [some (pv_r a0), some (pv_i (0 : Int32)), some (pv_r (mm_r M a0 0)), some (pv_i (nI l1)), some (pv_i (0 : Int32)), none] [] M P)) : cw_i mt_X0_weights 0 [some (pv_r a0), none, none, none, none, none] [] M P := by
  refine go_iconst (v := (0 : Int32)) rfl dX0_weights_0 ?_
  refine go_istore_n (by decide) dX0_weights_1 ?_
  show go_W mt_X0_weights fr_C 2 [some (pv_r a0), some (pv_i (0 : Int32)), none, none, none, none] [] M (qi_ P)
  refine go_aload_n dX0_weights_2 rfl ?_
  refine go_getR (k := 0) ⟨by decide, rfl, by decide, Or.inr ⟨_, rfl⟩⟩ K0 fl_X0_11 dX0_weights_3 ?_
  refine go_astore_n (by decide) dX0_weights_6 ?_
  show go_W mt_X0_weights fr_C 7 [some (pv_r a0), some (pv_i (0 : Int32)), some (pv_r (mm_r M a0 0)), none, none, none] [] M (qi_ P)
  refine go_aload_n dX0_weights_7 rfl ?_
  obtain ⟨l1, k2, H⟩ := H
  refine go_alenA k2 dX0_weights_8 ?_
  refine go_istore_n (by decide) dX0_weights_9 ?_
  show go_W mt_X0_weights fr_C 10 [some (pv_r a0), some (pv_i (0 : Int32)), some (pv_r (mm_r M a0 0)), some (pv_i (nI l1)), none, none] [] M (qi_ P)
  refine go_iconst (v := (0 : Int32)) rfl dX0_weights_10 ?_
  refine go_istore (by decide) dX0_weights_11 ?_
  show go_W mt_X0_weights fr_C 13 [some (pv_r a0), some (pv_i (0 : Int32)), some (pv_r (mm_r M a0 0)), some (pv_i (nI l1)), some (pv_i (0 : Int32)), none] [] M (qi_ P)
  exact H
set_option maxRecDepth 20000 in
theorem wc_X0_weights_13 {M : mm_T} {a0 a2 : Nat} {x1 x3 x4 : Int32} {P : Int32 → mm_T → Prop} (K0 : mm_k M a0 = (0, 4)) (H : (((x3 ≤ x4) → P x1 M) ∧ ((¬ x3 ≤ x4) → ∃ l1, ak_ M a2 2 l1 ∧ (∃ n4, (x4 = nI n4 ∧ n4 < l1) ∧ (mm_k M (mm_r M a2 n4) = (3, 14) ∧ (cw_i mt_X0_weights 13 [some (pv_r a0), some (pv_i (x1 + mm_i M (mm_r M a2 n4) 1)), some (pv_r a2), some (pv_i x3), some (pv_i (nI (n4 + 1))), none] [] M P)))))) : cw_i mt_X0_weights 13 [some (pv_r a0), some (pv_i x1), some (pv_r a2), some (pv_i x3), some (pv_i x4), none] [] M P := by
  refine go_iload dX0_weights_13 rfl ?_
  refine go_iload_n dX0_weights_15 rfl ?_
  refine go_icmp_ge (tgt := 39) dX0_weights_16 (by decide) (fun hc => ?_) (fun hc => ?_)
  · replace H := H.1 hc
    refine go_iload_n dX0_weights_39 rfl ?_
    exact go_iret rfl rfl dX0_weights_40 ⟨_, rfl, H⟩
  · replace H := H.2 hc
    refine go_aload_n dX0_weights_19 rfl ?_
    refine go_iload dX0_weights_20 rfl ?_
    obtain ⟨l1, k2, H⟩ := H
    obtain ⟨n4, ⟨hn4, hn4b⟩, H⟩ := H
    refine go_aaldA (j := n4) k2 (by decide) hn4 hn4b dX0_weights_22 ?_
    refine go_astore (by decide) dX0_weights_23 ?_
    show go_W mt_X0_weights fr_C 25 [some (pv_r a0), some (pv_i x1), some (pv_r a2), some (pv_i x3), some (pv_i x4), some (pv_r (mm_r M a2 n4))] [] M (qi_ P)
    refine go_iload_n dX0_weights_25 rfl ?_
    refine go_aload dX0_weights_26 rfl ?_
    obtain ⟨k5, H⟩ := H
    refine go_getI (k := 1) ⟨by decide, rfl, by decide, rfl⟩ k5 fl_X0_65 dX0_weights_28 ?_
    refine go_iadd dX0_weights_31 ?_
    refine go_istore_n (by decide) dX0_weights_32 ?_
    show go_W mt_X0_weights fr_C 33 [some (pv_r a0), some (pv_i (x1 + mm_i M (mm_r M a2 n4) 1)), some (pv_r a2), some (pv_i x3), some (pv_i x4), some (pv_r (mm_r M a2 n4))] [] M (qi_ P)
    refine go_iincN (n := n4) (k := 1) hn4 (by decide) rfl rfl dX0_weights_33 ?_
    show go_W mt_X0_weights fr_C 36 [some (pv_r a0), some (pv_i (x1 + mm_i M (mm_r M a2 n4) 1)), some (pv_r a2), some (pv_i x3), some (pv_i (nI (n4 + 1))), some (pv_r (mm_r M a2 n4))] [] M (qi_ P)
    refine go_goto (tgt := 13) dX0_weights_36 (by decide) ?_
    exact go_fg (ls' := [some (pv_r a0), some (pv_i (x1 + mm_i M (mm_r M a2 n4) 1)), some (pv_r a2), some (pv_i x3), some (pv_i (nI (n4 + 1))), none]) ⟨rfl, ⟨rfl, ⟨rfl, ⟨rfl, ⟨rfl, trivial⟩⟩⟩⟩⟩ H
set_option maxRecDepth 20000 in
theorem wc_X0_change_0 {M : mm_T} {a0 a1 : Nat} {x2 : Int32} {P : mm_T → Prop} (K0 : mm_k M a0 = (0, 4)) (H : mm_k M a1 = (6, 17) ∧ (cs_i mt_X6_stands [pv_r a1] M (fun v3 M2 => cs_v mt_X0_count [pv_r a0, pv_r a1, pv_i (-1 : Int32)] M2 (fun M6 => ∀ M9, M9 = mm_pi M6 a1 7 x2 → cs_v mt_X0_count [pv_r a0, pv_r a1, pv_i (1 : Int32)] M9 (fun M12 => (((v3 = 0) → (((¬ v3 = 0) → P M12) ∧ ((v3 = 0) → cs_i mt_X6_stands [pv_r a1] M12 (fun v16 M15 => (((v16 = 0) → P M15) ∧ ((¬ v16 = 0) → mm_k M15 (mm_r M15 a0 1) = (4, 2) ∧ (cs_v mt_X4_insertByNumber [pv_r (mm_r M15 a0 1), pv_r a1] M15 (fun M20 => P M20)))))))) ∧ ((¬ v3 = 0) → cs_i mt_X6_stands [pv_r a1] M12 (fun v25 M24 => (((¬ v25 = 0) → (((¬ v3 = 0) → P M24) ∧ ((v3 = 0) → cs_i mt_X6_stands [pv_r a1] M24 (fun v29 M28 => (((v29 = 0) → P M28) ∧ ((¬ v29 = 0) → mm_k M28 (mm_r M28 a0 1) = (4, 2) ∧ (cs_v mt_X4_insertByNumber [pv_r (mm_r M28 a0 1), pv_r a1] M28 (fun M33 => P M33)))))))) ∧ ((v25 = 0) → mm_k M24 (mm_r M24 a0 1) = (4, 2) ∧ (cs_v mt_X4_drop [pv_r (mm_r M24 a0 1), pv_r a1] M24 (fun M38 => mm_k M38 (mm_r M38 a1 2) = (3, 14) ∧ (cs_v mt_X3_closeIfDrained [pv_r (mm_r M38 a1 2)] M38 (fun M43 => P M43)))))))))))))) : cw_v mt_X0_change 0 [some (pv_r a0), some (pv_r a1), some (pv_i x2), none] [] M P := by
  refine go_aload_n dX0_change_0 rfl ?_
  obtain ⟨k1, H⟩ := H
  refine go_V (av := []) (st := []) (ci := 6) ok_X6_stands ⟨by decide, by decide⟩ ml_X0_68 rfl (by decide) (fun v hv => absurd hv List.not_mem_nil) (Nat.le_of_ble_eq_true rfl) (fun _ h => h) (by decide) rfl k1 dX0_change_1 H (fun r M2 hq hS => ?_)
  obtain ⟨v3, rfl, H⟩ := hq
  have k4 : mm_k M2 a0 = (0, 4) := ks_S K0 (by decide) hS
  have k5 : mm_k M2 a1 = (6, 17) := ks_S k1 (by decide) hS
  show go_W mt_X0_change fr_C 4 [some (pv_r a0), some (pv_r a1), some (pv_i x2), none] [pv_i v3] M2 (qv_ P)
  refine go_istore_n (by decide) dX0_change_4 ?_
  show go_W mt_X0_change fr_C 5 [some (pv_r a0), some (pv_r a1), some (pv_i x2), some (pv_i v3)] [] M2 (qv_ P)
  refine go_aload_n dX0_change_5 rfl ?_
  refine go_aload_n dX0_change_6 rfl ?_
  refine go_iconst (v := (-1 : Int32)) rfl dX0_change_7 ?_
  refine go_V (av := [pv_r a1, pv_i (-1 : Int32)]) (st := []) (ci := 0) ok_X0_count ⟨by decide, by decide⟩ ml_X0_73 rfl (by decide) (fun v hv => by simp only [List.mem_cons, List.not_mem_nil, or_false] at hv; rcases hv with rfl | rfl <;> first | exact pv_1i | exact pv_1r) (Nat.le_of_ble_eq_true rfl) (fun _ h => h) (by decide) rfl k4 dX0_change_8 H (fun r M6 hq hS => ?_)
  obtain ⟨rfl, H⟩ := hq
  have k7 : mm_k M6 a0 = (0, 4) := ks_S k4 (by decide) hS
  have k8 : mm_k M6 a1 = (6, 17) := ks_S k5 (by decide) hS
  show go_W mt_X0_change fr_C 11 [some (pv_r a0), some (pv_r a1), some (pv_i x2), some (pv_i v3)] [] M6 (qv_ P)
  refine go_aload_n dX0_change_11 rfl ?_
  refine go_iload_n dX0_change_12 rfl ?_
  refine go_putI (k := 7) ⟨by decide, rfl, by decide, rfl⟩ k8 rfl (Or.inl rfl) fl_X0_77 dX0_change_13 ?_
  show go_W mt_X0_change fr_C 16 [some (pv_r a0), some (pv_r a1), some (pv_i x2), some (pv_i v3)] [] (mm_pi M6 a1 7 x2) (qv_ P)
  obtain ⟨M9, hM9⟩ : ∃ M', M' = mm_pi M6 a1 7 x2 := ⟨_, rfl⟩
  have k10 : mm_k M9 a0 = (0, 4) := (by rw [hM9]; exact k7)
  have k11 : mm_k M9 a1 = (6, 17) := (by rw [hM9]; exact k8)
  rw [← hM9]
  replace H := H M9 hM9
  refine go_aload_n dX0_change_16 rfl ?_
  refine go_aload_n dX0_change_17 rfl ?_
  refine go_iconst (v := (1 : Int32)) rfl dX0_change_18 ?_
  refine go_V (av := [pv_r a1, pv_i (1 : Int32)]) (st := []) (ci := 0) ok_X0_count ⟨by decide, by decide⟩ ml_X0_73 rfl (by decide) (fun v hv => by simp only [List.mem_cons, List.not_mem_nil, or_false] at hv; rcases hv with rfl | rfl <;> first | exact pv_1i | exact pv_1r) (Nat.le_of_ble_eq_true rfl) (fun _ h => h) (by decide) rfl k10 dX0_change_19 H (fun r M12 hq hS => ?_)
  obtain ⟨rfl, H⟩ := hq
  have k13 : mm_k M12 a0 = (0, 4) := ks_S k10 (by decide) hS
  have k14 : mm_k M12 a1 = (6, 17) := ks_S k11 (by decide) hS
  show go_W mt_X0_change fr_C 22 [some (pv_r a0), some (pv_r a1), some (pv_i x2), some (pv_i v3)] [] M12 (qv_ P)
  refine go_iload_n dX0_change_22 rfl ?_
  refine go_if_eq (tgt := 51) dX0_change_23 (by decide) (fun hc => ?_) (fun hc => ?_)
  · replace H := H.1 hc
    refine go_iload_n dX0_change_51 rfl ?_
    refine go_if_ne (tgt := 70) dX0_change_52 (by decide) (fun hc => ?_) (fun hc => ?_)
    · replace H := H.1 hc
      exact go_vret rfl dX0_change_70 ⟨rfl, H⟩
    · replace H := H.2 hc
      refine go_aload_n dX0_change_55 rfl ?_
      refine go_V (av := []) (st := []) (ci := 6) ok_X6_stands ⟨by decide, by decide⟩ ml_X0_68 rfl (by decide) (fun v hv => absurd hv List.not_mem_nil) (Nat.le_of_ble_eq_true rfl) (fun _ h => h) (by decide) rfl k14 dX0_change_56 H (fun r M15 hq hS => ?_)
      obtain ⟨v16, rfl, H⟩ := hq
      have k17 : mm_k M15 a0 = (0, 4) := ks_S k13 (by decide) hS
      have k18 : mm_k M15 a1 = (6, 17) := ks_S k14 (by decide) hS
      show go_W mt_X0_change fr_C 59 [some (pv_r a0), some (pv_r a1), some (pv_i x2), some (pv_i v3)] [pv_i v16] M15 (qv_ P)
      refine go_if_eq (tgt := 70) dX0_change_59 (by decide) (fun hc => ?_) (fun hc => ?_)
      · replace H := H.1 hc
        exact go_vret rfl dX0_change_70 ⟨rfl, H⟩
      · replace H := H.2 hc
        refine go_aload_n dX0_change_62 rfl ?_
        refine go_getR (k := 1) ⟨by decide, rfl, by decide, Or.inl ⟨_, rfl⟩⟩ k17 fl_X0_22 dX0_change_63 ?_
        refine go_aload_n dX0_change_66 rfl ?_
        obtain ⟨k19, H⟩ := H
        refine go_V (av := [pv_r a1]) (st := []) (ci := 4) ok_X4_insertByNumber ⟨by decide, by decide⟩ ml_X0_91 rfl (by decide) (fun v hv => by simp only [List.mem_cons, List.not_mem_nil, or_false] at hv; rcases hv with rfl <;> first | exact pv_1i | exact pv_1r) (Nat.le_of_ble_eq_true rfl) (fun _ h => h) (by decide) rfl k19 dX0_change_67 H (fun r M20 hq hS => ?_)
        obtain ⟨rfl, H⟩ := hq
        have k21 : mm_k M20 a0 = (0, 4) := ks_S k17 (by decide) hS
        have k22 : mm_k M20 a1 = (6, 17) := ks_S k18 (by decide) hS
        have k23 : mm_k M20 (mm_r M15 a0 1) = (4, 2) := ks_S k19 (by decide) hS
        show go_W mt_X0_change fr_C 70 [some (pv_r a0), some (pv_r a1), some (pv_i x2), some (pv_i v3)] [] M20 (qv_ P)
        exact go_vret rfl dX0_change_70 ⟨rfl, H⟩
  · replace H := H.2 hc
    refine go_aload_n dX0_change_26 rfl ?_
    refine go_V (av := []) (st := []) (ci := 6) ok_X6_stands ⟨by decide, by decide⟩ ml_X0_68 rfl (by decide) (fun v hv => absurd hv List.not_mem_nil) (Nat.le_of_ble_eq_true rfl) (fun _ h => h) (by decide) rfl k14 dX0_change_27 H (fun r M24 hq hS => ?_)
    obtain ⟨v25, rfl, H⟩ := hq
    have k26 : mm_k M24 a0 = (0, 4) := ks_S k13 (by decide) hS
    have k27 : mm_k M24 a1 = (6, 17) := ks_S k14 (by decide) hS
    show go_W mt_X0_change fr_C 30 [some (pv_r a0), some (pv_r a1), some (pv_i x2), some (pv_i v3)] [pv_i v25] M24 (qv_ P)
    refine go_if_ne (tgt := 51) dX0_change_30 (by decide) (fun hc => ?_) (fun hc => ?_)
    · replace H := H.1 hc
      refine go_iload_n dX0_change_51 rfl ?_
      refine go_if_ne (tgt := 70) dX0_change_52 (by decide) (fun hc => ?_) (fun hc => ?_)
      · replace H := H.1 hc
        exact go_vret rfl dX0_change_70 ⟨rfl, H⟩
      · replace H := H.2 hc
        refine go_aload_n dX0_change_55 rfl ?_
        refine go_V (av := []) (st := []) (ci := 6) ok_X6_stands ⟨by decide, by decide⟩ ml_X0_68 rfl (by decide) (fun v hv => absurd hv List.not_mem_nil) (Nat.le_of_ble_eq_true rfl) (fun _ h => h) (by decide) rfl k27 dX0_change_56 H (fun r M28 hq hS => ?_)
        obtain ⟨v29, rfl, H⟩ := hq
        have k30 : mm_k M28 a0 = (0, 4) := ks_S k26 (by decide) hS
        have k31 : mm_k M28 a1 = (6, 17) := ks_S k27 (by decide) hS
        show go_W mt_X0_change fr_C 59 [some (pv_r a0), some (pv_r a1), some (pv_i x2), some (pv_i v3)] [pv_i v29] M28 (qv_ P)
        refine go_if_eq (tgt := 70) dX0_change_59 (by decide) (fun hc => ?_) (fun hc => ?_)
        · replace H := H.1 hc
          exact go_vret rfl dX0_change_70 ⟨rfl, H⟩
        · replace H := H.2 hc
          refine go_aload_n dX0_change_62 rfl ?_
          refine go_getR (k := 1) ⟨by decide, rfl, by decide, Or.inl ⟨_, rfl⟩⟩ k30 fl_X0_22 dX0_change_63 ?_
          refine go_aload_n dX0_change_66 rfl ?_
          obtain ⟨k32, H⟩ := H
          refine go_V (av := [pv_r a1]) (st := []) (ci := 4) ok_X4_insertByNumber ⟨by decide, by decide⟩ ml_X0_91 rfl (by decide) (fun v hv => by simp only [List.mem_cons, List.not_mem_nil, or_false] at hv; rcases hv with rfl <;> first | exact pv_1i | exact pv_1r) (Nat.le_of_ble_eq_true rfl) (fun _ h => h) (by decide) rfl k32 dX0_change_67 H (fun r M33 hq hS => ?_)
          obtain ⟨rfl, H⟩ := hq
          have k34 : mm_k M33 a0 = (0, 4) := ks_S k30 (by decide) hS
          have k35 : mm_k M33 a1 = (6, 17) := ks_S k31 (by decide) hS
          have k36 : mm_k M33 (mm_r M28 a0 1) = (4, 2) := ks_S k32 (by decide) hS
          show go_W mt_X0_change fr_C 70 [some (pv_r a0), some (pv_r a1), some (pv_i x2), some (pv_i v3)] [] M33 (qv_ P)
          exact go_vret rfl dX0_change_70 ⟨rfl, H⟩
    · replace H := H.2 hc
      refine go_aload_n dX0_change_33 rfl ?_
      refine go_getR (k := 1) ⟨by decide, rfl, by decide, Or.inl ⟨_, rfl⟩⟩ k26 fl_X0_22 dX0_change_34 ?_
      refine go_aload_n dX0_change_37 rfl ?_
      obtain ⟨k37, H⟩ := H
      refine go_V (av := [pv_r a1]) (st := []) (ci := 4) ok_X4_drop ⟨by decide, by decide⟩ ml_X0_80 rfl (by decide) (fun v hv => by simp only [List.mem_cons, List.not_mem_nil, or_false] at hv; rcases hv with rfl <;> first | exact pv_1i | exact pv_1r) (Nat.le_of_ble_eq_true rfl) (fun _ h => h) (by decide) rfl k37 dX0_change_38 H (fun r M38 hq hS => ?_)
      obtain ⟨rfl, H⟩ := hq
      have k39 : mm_k M38 a0 = (0, 4) := ks_S k26 (by decide) hS
      have k40 : mm_k M38 a1 = (6, 17) := ks_S k27 (by decide) hS
      have k41 : mm_k M38 (mm_r M24 a0 1) = (4, 2) := ks_S k37 (by decide) hS
      show go_W mt_X0_change fr_C 41 [some (pv_r a0), some (pv_r a1), some (pv_i x2), some (pv_i v3)] [] M38 (qv_ P)
      refine go_aload_n dX0_change_41 rfl ?_
      refine go_getR (k := 2) ⟨by decide, rfl, by decide, Or.inl ⟨_, rfl⟩⟩ k40 fl_X0_84 dX0_change_42 ?_
      obtain ⟨k42, H⟩ := H
      refine go_V (av := []) (st := []) (ci := 3) ok_X3_closeIfDrained ⟨by decide, by decide⟩ ml_X0_88 rfl (by decide) (fun v hv => absurd hv List.not_mem_nil) (Nat.le_of_ble_eq_true rfl) (fun _ h => h) (by decide) rfl k42 dX0_change_45 H (fun r M43 hq hS => ?_)
      obtain ⟨rfl, H⟩ := hq
      have k44 : mm_k M43 a0 = (0, 4) := ks_S k39 (by decide) hS
      have k45 : mm_k M43 a1 = (6, 17) := ks_S k40 (by decide) hS
      have k46 : mm_k M43 (mm_r M24 a0 1) = (4, 2) := ks_S k41 (by decide) hS
      have k47 : mm_k M43 (mm_r M38 a1 2) = (3, 14) := ks_S k42 (by decide) hS
      show go_W mt_X0_change fr_C 48 [some (pv_r a0), some (pv_r a1), some (pv_i x2), some (pv_i v3)] [] M43 (qv_ P)
      refine go_goto (tgt := 70) dX0_change_48 (by decide) ?_
      exact go_vret rfl dX0_change_70 ⟨rfl, H⟩
set_option maxRecDepth 20000 in
theorem wc_X0_count_0 {M : mm_T} {a0 a1 : Nat} {x2 : Int32} {P : mm_T → Prop} (K0 : mm_k M a0 = (0, 4)) (H : mm_k M a1 = (6, 17) ∧ ((((mm_i M a1 7 < 0) → P M) ∧ ((¬ mm_i M a1 7 < 0) → (((mm_i M a1 7 < (7 : Int32)) → ∃ l2, ak_ M (mm_r M a0 2) 0 l2 ∧ (∃ n5, (mm_i M a1 7 = nI n5 ∧ n5 < l2) ∧ (n5 < l2 ∧ (∀ M7, M7 = mm_pi M (mm_r M a0 2) n5 (mm_i M (mm_r M a0 2) n5 + x2) → ((((3 : Int32) < mm_i M7 a1 7) → (((¬ mm_i M7 a1 7 = 0) → (((¬ mm_i M7 a1 7 = (3 : Int32)) → P M7) ∧ ((mm_i M7 a1 7 = (3 : Int32)) → mm_k M7 (mm_r M7 a1 2) = (3, 14) ∧ (∀ M12, M12 = mm_pi M7 (mm_r M7 a1 2) 8 (mm_i M7 (mm_r M7 a1 2) 8 + x2) → P M12)))) ∧ ((mm_i M7 a1 7 = 0) → mm_k M7 (mm_r M7 a1 2) = (3, 14) ∧ (∀ M18, M18 = mm_pi M7 (mm_r M7 a1 2) 6 (mm_i M7 (mm_r M7 a1 2) 6 + x2) → P M18)))) ∧ ((¬ (3 : Int32) < mm_i M7 a1 7) → mm_k M7 (mm_r M7 a1 2) = (3, 14) ∧ (∀ M24, M24 = mm_pi M7 (mm_r M7 a1 2) 7 (mm_i M7 (mm_r M7 a1 2) 7 + x2) → (((¬ mm_i M24 a1 7 = 0) → (((¬ mm_i M24 a1 7 = (3 : Int32)) → P M24) ∧ ((mm_i M24 a1 7 = (3 : Int32)) → mm_k M24 (mm_r M24 a1 2) = (3, 14) ∧ (∀ M30, M30 = mm_pi M24 (mm_r M24 a1 2) 8 (mm_i M24 (mm_r M24 a1 2) 8 + x2) → P M30)))) ∧ ((mm_i M24 a1 7 = 0) → mm_k M24 (mm_r M24 a1 2) = (3, 14) ∧ (∀ M37, M37 = mm_pi M24 (mm_r M24 a1 2) 6 (mm_i M24 (mm_r M24 a1 2) 6 + x2) → P M37)))))))))) ∧ ((¬ mm_i M a1 7 < (7 : Int32)) → P M)))))) : cw_v mt_X0_count 0 [some (pv_r a0), some (pv_r a1), some (pv_i x2)] [] M P := by
  refine go_aload_n dX0_count_0 rfl ?_
  obtain ⟨k1, H⟩ := H
  refine go_getI (k := 7) ⟨by decide, rfl, by decide, rfl⟩ k1 fl_X0_77 dX0_count_1 ?_
  refine go_if_lt (tgt := 16) dX0_count_4 (by decide) (fun hc => ?_) (fun hc => ?_)
  · replace H := H.1 hc
    exact go_vret rfl dX0_count_16 ⟨rfl, H⟩
  · replace H := H.2 hc
    refine go_aload_n dX0_count_7 rfl ?_
    refine go_getI (k := 7) ⟨by decide, rfl, by decide, rfl⟩ k1 fl_X0_77 dX0_count_8 ?_
    refine go_bipush (v := (7 : Int32)) rfl dX0_count_11 ?_
    refine go_icmp_lt (tgt := 17) dX0_count_13 (by decide) (fun hc => ?_) (fun hc => ?_)
    · replace H := H.1 hc
      refine go_aload_n dX0_count_17 rfl ?_
      refine go_getR (k := 2) ⟨by decide, rfl, by decide, Or.inr ⟨_, rfl⟩⟩ K0 fl_X0_26 dX0_count_18 ?_
      refine go_aload_n dX0_count_21 rfl ?_
      refine go_getI (k := 7) ⟨by decide, rfl, by decide, rfl⟩ k1 fl_X0_77 dX0_count_22 ?_
      refine go_dup2 pv_1i pv_1r dX0_count_25 ?_
      obtain ⟨l2, k3, H⟩ := H
      obtain ⟨n5, ⟨hn5, hn5b⟩, H⟩ := H
      refine go_ialdA (j := n5) k3 hn5 hn5b dX0_count_26 ?_
      refine go_iload_n dX0_count_27 rfl ?_
      refine go_iadd dX0_count_28 ?_
      obtain ⟨hb6, H⟩ := H
      refine go_iastA (j := n5) k3 hn5 hb6 dX0_count_29 ?_
      show go_W mt_X0_count fr_C 30 [some (pv_r a0), some (pv_r a1), some (pv_i x2)] [] (mm_pi M (mm_r M a0 2) n5 (mm_i M (mm_r M a0 2) n5 + x2)) (qv_ P)
      obtain ⟨M7, hM7⟩ : ∃ M', M' = mm_pi M (mm_r M a0 2) n5 (mm_i M (mm_r M a0 2) n5 + x2) := ⟨_, rfl⟩
      have k8 : mm_k M7 a0 = (0, 4) := (by rw [hM7]; exact K0)
      have k9 : mm_k M7 a1 = (6, 17) := (by rw [hM7]; exact k1)
      have k10 : ak_ M7 (mm_r M a0 2) 0 l2 := (by rw [hM7]; exact k3)
      rw [← hM7]
      replace H := H M7 hM7
      refine go_aload_n dX0_count_30 rfl ?_
      refine go_getI (k := 7) ⟨by decide, rfl, by decide, rfl⟩ k9 fl_X0_77 dX0_count_31 ?_
      refine go_iconst (v := (3 : Int32)) rfl dX0_count_34 ?_
      refine go_icmp_gt (tgt := 51) dX0_count_35 (by decide) (fun hc => ?_) (fun hc => ?_)
      · replace H := H.1 hc
        refine go_aload_n dX0_count_51 rfl ?_
        refine go_getI (k := 7) ⟨by decide, rfl, by decide, rfl⟩ k9 fl_X0_77 dX0_count_52 ?_
        refine go_if_ne (tgt := 74) dX0_count_55 (by decide) (fun hc => ?_) (fun hc => ?_)
        · replace H := H.1 hc
          refine go_aload_n dX0_count_74 rfl ?_
          refine go_getI (k := 7) ⟨by decide, rfl, by decide, rfl⟩ k9 fl_X0_77 dX0_count_75 ?_
          refine go_iconst (v := (3 : Int32)) rfl dX0_count_78 ?_
          refine go_icmp_ne (tgt := 95) dX0_count_79 (by decide) (fun hc => ?_) (fun hc => ?_)
          · replace H := H.1 hc
            exact go_vret rfl dX0_count_95 ⟨rfl, H⟩
          · replace H := H.2 hc
            refine go_aload_n dX0_count_82 rfl ?_
            refine go_getR (k := 2) ⟨by decide, rfl, by decide, Or.inl ⟨_, rfl⟩⟩ k9 fl_X0_84 dX0_count_83 ?_
            refine go_dup pv_1r dX0_count_86 ?_
            obtain ⟨k11, H⟩ := H
            refine go_getI (k := 8) ⟨by decide, rfl, by decide, rfl⟩ k11 fl_X0_53 dX0_count_87 ?_
            refine go_iload_n dX0_count_90 rfl ?_
            refine go_iadd dX0_count_91 ?_
            refine go_putI (k := 8) ⟨by decide, rfl, by decide, rfl⟩ k11 rfl (Or.inl rfl) fl_X0_53 dX0_count_92 ?_
            show go_W mt_X0_count fr_C 95 [some (pv_r a0), some (pv_r a1), some (pv_i x2)] [] (mm_pi M7 (mm_r M7 a1 2) 8 (mm_i M7 (mm_r M7 a1 2) 8 + x2)) (qv_ P)
            obtain ⟨M12, hM12⟩ : ∃ M', M' = mm_pi M7 (mm_r M7 a1 2) 8 (mm_i M7 (mm_r M7 a1 2) 8 + x2) := ⟨_, rfl⟩
            have k13 : mm_k M12 a0 = (0, 4) := (by rw [hM12]; exact k8)
            have k14 : mm_k M12 a1 = (6, 17) := (by rw [hM12]; exact k9)
            have k15 : mm_k M12 (mm_r M7 a1 2) = (3, 14) := (by rw [hM12]; exact k11)
            have k16 : ak_ M12 (mm_r M a0 2) 0 l2 := (by rw [hM12]; exact k10)
            rw [← hM12]
            replace H := H M12 hM12
            exact go_vret rfl dX0_count_95 ⟨rfl, H⟩
        · replace H := H.2 hc
          refine go_aload_n dX0_count_58 rfl ?_
          refine go_getR (k := 2) ⟨by decide, rfl, by decide, Or.inl ⟨_, rfl⟩⟩ k9 fl_X0_84 dX0_count_59 ?_
          refine go_dup pv_1r dX0_count_62 ?_
          obtain ⟨k17, H⟩ := H
          refine go_getI (k := 6) ⟨by decide, rfl, by decide, rfl⟩ k17 fl_X0_50 dX0_count_63 ?_
          refine go_iload_n dX0_count_66 rfl ?_
          refine go_iadd dX0_count_67 ?_
          refine go_putI (k := 6) ⟨by decide, rfl, by decide, rfl⟩ k17 rfl (Or.inl rfl) fl_X0_50 dX0_count_68 ?_
          show go_W mt_X0_count fr_C 71 [some (pv_r a0), some (pv_r a1), some (pv_i x2)] [] (mm_pi M7 (mm_r M7 a1 2) 6 (mm_i M7 (mm_r M7 a1 2) 6 + x2)) (qv_ P)
          obtain ⟨M18, hM18⟩ : ∃ M', M' = mm_pi M7 (mm_r M7 a1 2) 6 (mm_i M7 (mm_r M7 a1 2) 6 + x2) := ⟨_, rfl⟩
          have k19 : mm_k M18 a0 = (0, 4) := (by rw [hM18]; exact k8)
          have k20 : mm_k M18 a1 = (6, 17) := (by rw [hM18]; exact k9)
          have k21 : mm_k M18 (mm_r M7 a1 2) = (3, 14) := (by rw [hM18]; exact k17)
          have k22 : ak_ M18 (mm_r M a0 2) 0 l2 := (by rw [hM18]; exact k10)
          rw [← hM18]
          replace H := H M18 hM18
          refine go_goto (tgt := 95) dX0_count_71 (by decide) ?_
          exact go_vret rfl dX0_count_95 ⟨rfl, H⟩
      · replace H := H.2 hc
        refine go_aload_n dX0_count_38 rfl ?_
        refine go_getR (k := 2) ⟨by decide, rfl, by decide, Or.inl ⟨_, rfl⟩⟩ k9 fl_X0_84 dX0_count_39 ?_
        refine go_dup pv_1r dX0_count_42 ?_
        obtain ⟨k23, H⟩ := H
        refine go_getI (k := 7) ⟨by decide, rfl, by decide, rfl⟩ k23 fl_X0_94 dX0_count_43 ?_
        refine go_iload_n dX0_count_46 rfl ?_
        refine go_iadd dX0_count_47 ?_
        refine go_putI (k := 7) ⟨by decide, rfl, by decide, rfl⟩ k23 rfl (Or.inl rfl) fl_X0_94 dX0_count_48 ?_
        show go_W mt_X0_count fr_C 51 [some (pv_r a0), some (pv_r a1), some (pv_i x2)] [] (mm_pi M7 (mm_r M7 a1 2) 7 (mm_i M7 (mm_r M7 a1 2) 7 + x2)) (qv_ P)
        obtain ⟨M24, hM24⟩ : ∃ M', M' = mm_pi M7 (mm_r M7 a1 2) 7 (mm_i M7 (mm_r M7 a1 2) 7 + x2) := ⟨_, rfl⟩
        have k25 : mm_k M24 a0 = (0, 4) := (by rw [hM24]; exact k8)
        have k26 : mm_k M24 a1 = (6, 17) := (by rw [hM24]; exact k9)
        have k27 : mm_k M24 (mm_r M7 a1 2) = (3, 14) := (by rw [hM24]; exact k23)
        have k28 : ak_ M24 (mm_r M a0 2) 0 l2 := (by rw [hM24]; exact k10)
        rw [← hM24]
        replace H := H M24 hM24
        refine go_aload_n dX0_count_51 rfl ?_
        refine go_getI (k := 7) ⟨by decide, rfl, by decide, rfl⟩ k26 fl_X0_77 dX0_count_52 ?_
        refine go_if_ne (tgt := 74) dX0_count_55 (by decide) (fun hc => ?_) (fun hc => ?_)
        · replace H := H.1 hc
          refine go_aload_n dX0_count_74 rfl ?_
          refine go_getI (k := 7) ⟨by decide, rfl, by decide, rfl⟩ k26 fl_X0_77 dX0_count_75 ?_
          refine go_iconst (v := (3 : Int32)) rfl dX0_count_78 ?_
          refine go_icmp_ne (tgt := 95) dX0_count_79 (by decide) (fun hc => ?_) (fun hc => ?_)
          · replace H := H.1 hc
            exact go_vret rfl dX0_count_95 ⟨rfl, H⟩
          · replace H := H.2 hc
            refine go_aload_n dX0_count_82 rfl ?_
            refine go_getR (k := 2) ⟨by decide, rfl, by decide, Or.inl ⟨_, rfl⟩⟩ k26 fl_X0_84 dX0_count_83 ?_
            refine go_dup pv_1r dX0_count_86 ?_
            obtain ⟨k29, H⟩ := H
            refine go_getI (k := 8) ⟨by decide, rfl, by decide, rfl⟩ k29 fl_X0_53 dX0_count_87 ?_
            refine go_iload_n dX0_count_90 rfl ?_
            refine go_iadd dX0_count_91 ?_
            refine go_putI (k := 8) ⟨by decide, rfl, by decide, rfl⟩ k29 rfl (Or.inl rfl) fl_X0_53 dX0_count_92 ?_
            show go_W mt_X0_count fr_C 95 [some (pv_r a0), some (pv_r a1), some (pv_i x2)] [] (mm_pi M24 (mm_r M24 a1 2) 8 (mm_i M24 (mm_r M24 a1 2) 8 + x2)) (qv_ P)
            obtain ⟨M30, hM30⟩ : ∃ M', M' = mm_pi M24 (mm_r M24 a1 2) 8 (mm_i M24 (mm_r M24 a1 2) 8 + x2) := ⟨_, rfl⟩
            have k31 : mm_k M30 a0 = (0, 4) := (by rw [hM30]; exact k25)
            have k32 : mm_k M30 a1 = (6, 17) := (by rw [hM30]; exact k26)
            have k33 : mm_k M30 (mm_r M7 a1 2) = (3, 14) := (by rw [hM30]; exact k27)
            have k34 : mm_k M30 (mm_r M24 a1 2) = (3, 14) := (by rw [hM30]; exact k29)
            have k35 : ak_ M30 (mm_r M a0 2) 0 l2 := (by rw [hM30]; exact k28)
            rw [← hM30]
            replace H := H M30 hM30
            exact go_vret rfl dX0_count_95 ⟨rfl, H⟩
        · replace H := H.2 hc
          refine go_aload_n dX0_count_58 rfl ?_
          refine go_getR (k := 2) ⟨by decide, rfl, by decide, Or.inl ⟨_, rfl⟩⟩ k26 fl_X0_84 dX0_count_59 ?_
          refine go_dup pv_1r dX0_count_62 ?_
          obtain ⟨k36, H⟩ := H
          refine go_getI (k := 6) ⟨by decide, rfl, by decide, rfl⟩ k36 fl_X0_50 dX0_count_63 ?_
          refine go_iload_n dX0_count_66 rfl ?_
          refine go_iadd dX0_count_67 ?_
          refine go_putI (k := 6) ⟨by decide, rfl, by decide, rfl⟩ k36 rfl (Or.inl rfl) fl_X0_50 dX0_count_68 ?_
          show go_W mt_X0_count fr_C 71 [some (pv_r a0), some (pv_r a1), some (pv_i x2)] [] (mm_pi M24 (mm_r M24 a1 2) 6 (mm_i M24 (mm_r M24 a1 2) 6 + x2)) (qv_ P)
          obtain ⟨M37, hM37⟩ : ∃ M', M' = mm_pi M24 (mm_r M24 a1 2) 6 (mm_i M24 (mm_r M24 a1 2) 6 + x2) := ⟨_, rfl⟩
          have k38 : mm_k M37 a0 = (0, 4) := (by rw [hM37]; exact k25)
          have k39 : mm_k M37 a1 = (6, 17) := (by rw [hM37]; exact k26)
          have k40 : mm_k M37 (mm_r M7 a1 2) = (3, 14) := (by rw [hM37]; exact k27)
          have k41 : mm_k M37 (mm_r M24 a1 2) = (3, 14) := (by rw [hM37]; exact k36)
          have k42 : ak_ M37 (mm_r M a0 2) 0 l2 := (by rw [hM37]; exact k28)
          rw [← hM37]
          replace H := H M37 hM37
          refine go_goto (tgt := 95) dX0_count_71 (by decide) ?_
          exact go_vret rfl dX0_count_95 ⟨rfl, H⟩
    · replace H := H.2 hc
      exact go_vret rfl dX0_count_16 ⟨rfl, H⟩
set_option maxRecDepth 20000 in
theorem wc_X0_settle_0 {M : mm_T} {a0 a1 : Nat} {P : mm_T → Prop} (K0 : mm_k M a0 = (0, 4)) (H : mm_k M a1 = (6, 17) ∧ ((((mm_r M a1 1 = 0) → cs_v mt_X0_liftPass [pv_r a0, pv_r (mm_r M a1 2)] M (fun M2 => cs_v mt_X0_change [pv_r a0, pv_r a1, pv_i (0 : Int32)] M2 (fun M5 => P M5))) ∧ ((¬ mm_r M a1 1 = 0) → mm_k M (mm_r M a1 1) = (6, 17) ∧ ((((mm_i M (mm_r M a1 1) 7 = (4 : Int32)) → cs_v mt_X0_liftPass [pv_r a0, pv_r (mm_r M a1 2)] M (fun M9 => cs_v mt_X0_change [pv_r a0, pv_r a1, pv_i (0 : Int32)] M9 (fun M13 => P M13))) ∧ ((¬ mm_i M (mm_r M a1 1) 7 = (4 : Int32)) → cs_v mt_X0_change [pv_r a0, pv_r a1, pv_i (1 : Int32)] M (fun M17 => P M17)))))))) : cw_v mt_X0_settle 0 [some (pv_r a0), some (pv_r a1), none] [] M P := by
  refine go_aload_n dX0_settle_0 rfl ?_
  obtain ⟨k1, H⟩ := H
  refine go_getR (k := 1) ⟨by decide, rfl, by decide, Or.inl ⟨_, rfl⟩⟩ k1 fl_X0_96 dX0_settle_1 ?_
  refine go_ifnull (tgt := 22) dX0_settle_4 (by decide) (fun hc => ?_) (fun hc => ?_)
  · replace H := H.1 hc
    refine go_iconst (v := (0 : Int32)) rfl dX0_settle_22 ?_
    refine go_istore_n (by decide) dX0_settle_23 ?_
    show go_W mt_X0_settle fr_C 24 [some (pv_r a0), some (pv_r a1), some (pv_i (0 : Int32))] [] M (qv_ P)
    refine go_iload_n dX0_settle_24 rfl ?_
    refine go_if_ne (tgt := 36) dX0_settle_25 (by decide) (fun hc => absurd hc (by decide)) (fun _ => ?_)
    refine go_aload_n dX0_settle_28 rfl ?_
    refine go_aload_n dX0_settle_29 rfl ?_
    refine go_getR (k := 2) ⟨by decide, rfl, by decide, Or.inl ⟨_, rfl⟩⟩ k1 fl_X0_84 dX0_settle_30 ?_
    refine go_V (av := [pv_r (mm_r M a1 2)]) (st := []) (ci := 0) ok_X0_liftPass ⟨by decide, by decide⟩ ml_X0_100 rfl (by decide) (fun v hv => by simp only [List.mem_cons, List.not_mem_nil, or_false] at hv; rcases hv with rfl <;> first | exact pv_1i | exact pv_1r) (Nat.le_of_ble_eq_true rfl) (fun _ h => h) (by decide) rfl K0 dX0_settle_33 H (fun r M2 hq hS => ?_)
    obtain ⟨rfl, H⟩ := hq
    have k3 : mm_k M2 a0 = (0, 4) := ks_S K0 (by decide) hS
    have k4 : mm_k M2 a1 = (6, 17) := ks_S k1 (by decide) hS
    show go_W mt_X0_settle fr_C 36 [some (pv_r a0), some (pv_r a1), some (pv_i (0 : Int32))] [] M2 (qv_ P)
    refine go_aload_n dX0_settle_36 rfl ?_
    refine go_aload_n dX0_settle_37 rfl ?_
    refine go_iload_n dX0_settle_38 rfl ?_
    refine go_if_eq (tgt := 46) dX0_settle_39 (by decide) (fun _ => ?_) (fun hc => absurd hc (by decide))
    refine go_iconst (v := (0 : Int32)) rfl dX0_settle_46 ?_
    refine go_V (av := [pv_r a1, pv_i (0 : Int32)]) (st := []) (ci := 0) ok_X0_change ⟨by decide, by decide⟩ ml_X0_104 rfl (by decide) (fun v hv => by simp only [List.mem_cons, List.not_mem_nil, or_false] at hv; rcases hv with rfl | rfl <;> first | exact pv_1i | exact pv_1r) (Nat.le_of_ble_eq_true rfl) (fun _ h => h) (by decide) rfl k3 dX0_settle_47 H (fun r M5 hq hS => ?_)
    obtain ⟨rfl, H⟩ := hq
    have k6 : mm_k M5 a0 = (0, 4) := ks_S k3 (by decide) hS
    have k7 : mm_k M5 a1 = (6, 17) := ks_S k4 (by decide) hS
    show go_W mt_X0_settle fr_C 50 [some (pv_r a0), some (pv_r a1), some (pv_i (0 : Int32))] [] M5 (qv_ P)
    exact go_vret rfl dX0_settle_50 ⟨rfl, H⟩
  · replace H := H.2 hc
    refine go_aload_n dX0_settle_7 rfl ?_
    refine go_getR (k := 1) ⟨by decide, rfl, by decide, Or.inl ⟨_, rfl⟩⟩ k1 fl_X0_96 dX0_settle_8 ?_
    obtain ⟨k8, H⟩ := H
    refine go_getI (k := 7) ⟨by decide, rfl, by decide, rfl⟩ k8 fl_X0_77 dX0_settle_11 ?_
    refine go_iconst (v := (4 : Int32)) rfl dX0_settle_14 ?_
    refine go_icmp_eq (tgt := 22) dX0_settle_15 (by decide) (fun hc => ?_) (fun hc => ?_)
    · replace H := H.1 hc
      refine go_iconst (v := (0 : Int32)) rfl dX0_settle_22 ?_
      refine go_istore_n (by decide) dX0_settle_23 ?_
      show go_W mt_X0_settle fr_C 24 [some (pv_r a0), some (pv_r a1), some (pv_i (0 : Int32))] [] M (qv_ P)
      refine go_iload_n dX0_settle_24 rfl ?_
      refine go_if_ne (tgt := 36) dX0_settle_25 (by decide) (fun hc => absurd hc (by decide)) (fun _ => ?_)
      refine go_aload_n dX0_settle_28 rfl ?_
      refine go_aload_n dX0_settle_29 rfl ?_
      refine go_getR (k := 2) ⟨by decide, rfl, by decide, Or.inl ⟨_, rfl⟩⟩ k1 fl_X0_84 dX0_settle_30 ?_
      refine go_V (av := [pv_r (mm_r M a1 2)]) (st := []) (ci := 0) ok_X0_liftPass ⟨by decide, by decide⟩ ml_X0_100 rfl (by decide) (fun v hv => by simp only [List.mem_cons, List.not_mem_nil, or_false] at hv; rcases hv with rfl <;> first | exact pv_1i | exact pv_1r) (Nat.le_of_ble_eq_true rfl) (fun _ h => h) (by decide) rfl K0 dX0_settle_33 H (fun r M9 hq hS => ?_)
      obtain ⟨rfl, H⟩ := hq
      have k10 : mm_k M9 a0 = (0, 4) := ks_S K0 (by decide) hS
      have k11 : mm_k M9 a1 = (6, 17) := ks_S k1 (by decide) hS
      have k12 : mm_k M9 (mm_r M a1 1) = (6, 17) := ks_S k8 (by decide) hS
      show go_W mt_X0_settle fr_C 36 [some (pv_r a0), some (pv_r a1), some (pv_i (0 : Int32))] [] M9 (qv_ P)
      refine go_aload_n dX0_settle_36 rfl ?_
      refine go_aload_n dX0_settle_37 rfl ?_
      refine go_iload_n dX0_settle_38 rfl ?_
      refine go_if_eq (tgt := 46) dX0_settle_39 (by decide) (fun _ => ?_) (fun hc => absurd hc (by decide))
      refine go_iconst (v := (0 : Int32)) rfl dX0_settle_46 ?_
      refine go_V (av := [pv_r a1, pv_i (0 : Int32)]) (st := []) (ci := 0) ok_X0_change ⟨by decide, by decide⟩ ml_X0_104 rfl (by decide) (fun v hv => by simp only [List.mem_cons, List.not_mem_nil, or_false] at hv; rcases hv with rfl | rfl <;> first | exact pv_1i | exact pv_1r) (Nat.le_of_ble_eq_true rfl) (fun _ h => h) (by decide) rfl k10 dX0_settle_47 H (fun r M13 hq hS => ?_)
      obtain ⟨rfl, H⟩ := hq
      have k14 : mm_k M13 a0 = (0, 4) := ks_S k10 (by decide) hS
      have k15 : mm_k M13 a1 = (6, 17) := ks_S k11 (by decide) hS
      have k16 : mm_k M13 (mm_r M a1 1) = (6, 17) := ks_S k12 (by decide) hS
      show go_W mt_X0_settle fr_C 50 [some (pv_r a0), some (pv_r a1), some (pv_i (0 : Int32))] [] M13 (qv_ P)
      exact go_vret rfl dX0_settle_50 ⟨rfl, H⟩
    · replace H := H.2 hc
      refine go_iconst (v := (1 : Int32)) rfl dX0_settle_18 ?_
      refine go_goto (tgt := 23) dX0_settle_19 (by decide) ?_
      refine go_istore_n (by decide) dX0_settle_23 ?_
      show go_W mt_X0_settle fr_C 24 [some (pv_r a0), some (pv_r a1), some (pv_i (1 : Int32))] [] M (qv_ P)
      refine go_iload_n dX0_settle_24 rfl ?_
      refine go_if_ne (tgt := 36) dX0_settle_25 (by decide) (fun _ => ?_) (fun hc => absurd hc (by decide))
      refine go_aload_n dX0_settle_36 rfl ?_
      refine go_aload_n dX0_settle_37 rfl ?_
      refine go_iload_n dX0_settle_38 rfl ?_
      refine go_if_eq (tgt := 46) dX0_settle_39 (by decide) (fun hc => absurd hc (by decide)) (fun _ => ?_)
      refine go_iconst (v := (1 : Int32)) rfl dX0_settle_42 ?_
      refine go_goto (tgt := 47) dX0_settle_43 (by decide) ?_
      refine go_V (av := [pv_r a1, pv_i (1 : Int32)]) (st := []) (ci := 0) ok_X0_change ⟨by decide, by decide⟩ ml_X0_104 rfl (by decide) (fun v hv => by simp only [List.mem_cons, List.not_mem_nil, or_false] at hv; rcases hv with rfl | rfl <;> first | exact pv_1i | exact pv_1r) (Nat.le_of_ble_eq_true rfl) (fun _ h => h) (by decide) rfl K0 dX0_settle_47 H (fun r M17 hq hS => ?_)
      obtain ⟨rfl, H⟩ := hq
      have k18 : mm_k M17 a0 = (0, 4) := ks_S K0 (by decide) hS
      have k19 : mm_k M17 a1 = (6, 17) := ks_S k1 (by decide) hS
      have k20 : mm_k M17 (mm_r M a1 1) = (6, 17) := ks_S k8 (by decide) hS
      show go_W mt_X0_settle fr_C 50 [some (pv_r a0), some (pv_r a1), some (pv_i (1 : Int32))] [] M17 (qv_ P)
      exact go_vret rfl dX0_settle_50 ⟨rfl, H⟩
set_option maxRecDepth 20000 in
theorem wc_X0_awaitTurn_0 {M : mm_T} {a0 a1 : Nat} {P : mm_T → Prop} (K0 : mm_k M a0 = (0, 4)) (H : mm_k M a1 = (6, 17) ∧ (cs_v mt_X0_liftPass [pv_r a0, pv_r (mm_r M a1 2)] M (fun M2 => cs_v mt_X0_change [pv_r a0, pv_r a1, pv_i (0 : Int32)] M2 (fun M5 => P M5)))) : cw_v mt_X0_awaitTurn 0 [some (pv_r a0), some (pv_r a1)] [] M P := by
  refine go_aload_n dX0_awaitTurn_0 rfl ?_
  refine go_aload_n dX0_awaitTurn_1 rfl ?_
  obtain ⟨k1, H⟩ := H
  refine go_getR (k := 2) ⟨by decide, rfl, by decide, Or.inl ⟨_, rfl⟩⟩ k1 fl_X0_84 dX0_awaitTurn_2 ?_
  refine go_V (av := [pv_r (mm_r M a1 2)]) (st := []) (ci := 0) ok_X0_liftPass ⟨by decide, by decide⟩ ml_X0_100 rfl (by decide) (fun v hv => by simp only [List.mem_cons, List.not_mem_nil, or_false] at hv; rcases hv with rfl <;> first | exact pv_1i | exact pv_1r) (Nat.le_of_ble_eq_true rfl) (fun _ h => h) (by decide) rfl K0 dX0_awaitTurn_5 H (fun r M2 hq hS => ?_)
  obtain ⟨rfl, H⟩ := hq
  have k3 : mm_k M2 a0 = (0, 4) := ks_S K0 (by decide) hS
  have k4 : mm_k M2 a1 = (6, 17) := ks_S k1 (by decide) hS
  show go_W mt_X0_awaitTurn fr_C 8 [some (pv_r a0), some (pv_r a1)] [] M2 (qv_ P)
  refine go_aload_n dX0_awaitTurn_8 rfl ?_
  refine go_aload_n dX0_awaitTurn_9 rfl ?_
  refine go_iconst (v := (0 : Int32)) rfl dX0_awaitTurn_10 ?_
  refine go_V (av := [pv_r a1, pv_i (0 : Int32)]) (st := []) (ci := 0) ok_X0_change ⟨by decide, by decide⟩ ml_X0_104 rfl (by decide) (fun v hv => by simp only [List.mem_cons, List.not_mem_nil, or_false] at hv; rcases hv with rfl | rfl <;> first | exact pv_1i | exact pv_1r) (Nat.le_of_ble_eq_true rfl) (fun _ h => h) (by decide) rfl k3 dX0_awaitTurn_11 H (fun r M5 hq hS => ?_)
  obtain ⟨rfl, H⟩ := hq
  have k6 : mm_k M5 a0 = (0, 4) := ks_S k3 (by decide) hS
  have k7 : mm_k M5 a1 = (6, 17) := ks_S k4 (by decide) hS
  show go_W mt_X0_awaitTurn fr_C 14 [some (pv_r a0), some (pv_r a1)] [] M5 (qv_ P)
  exact go_vret rfl dX0_awaitTurn_14 ⟨rfl, H⟩
set_option maxRecDepth 20000 in
theorem wc_X0_liftPass_0 {M : mm_T} {a0 a1 : Nat} {P : mm_T → Prop} (K0 : mm_k M a0 = (0, 4)) (H : cs_r mt_X0_theLane [pv_r a0, pv_i (0 : Int32)] M (fun v2 M1 => mm_k M1 a1 = (3, 14) ∧ ((((¬ mm_i M1 a1 6 = 0) → P M1) ∧ ((mm_i M1 a1 6 = 0) → (((v2 = 0) → P M1) ∧ ((¬ v2 = 0) → mm_k M1 v2 = (3, 14) ∧ (∀ M6, M6 = mm_pi M1 a1 5 (if mm_i M1 a1 5 < mm_i M1 v2 5 then mm_i M1 v2 5 else mm_i M1 a1 5) → P M6)))))))) : cw_v mt_X0_liftPass 0 [some (pv_r a0), some (pv_r a1), none] [] M P := by
  refine go_aload_n dX0_liftPass_0 rfl ?_
  refine go_iconst (v := (0 : Int32)) rfl dX0_liftPass_1 ?_
  refine go_V (av := [pv_i (0 : Int32)]) (st := []) (ci := 0) ok_X0_theLane ⟨by decide, by decide⟩ ml_X0_107 rfl (by decide) (fun v hv => by simp only [List.mem_cons, List.not_mem_nil, or_false] at hv; rcases hv with rfl <;> first | exact pv_1i | exact pv_1r) (Nat.le_of_ble_eq_true rfl) (fun _ h => h) (by decide) rfl K0 dX0_liftPass_2 H (fun r M1 hq hS => ?_)
  obtain ⟨v2, rfl, H⟩ := hq
  have k3 : mm_k M1 a0 = (0, 4) := ks_S K0 (by decide) hS
  show go_W mt_X0_liftPass fr_C 5 [some (pv_r a0), some (pv_r a1), none] [pv_r v2] M1 (qv_ P)
  refine go_astore_n (by decide) dX0_liftPass_5 ?_
  show go_W mt_X0_liftPass fr_C 6 [some (pv_r a0), some (pv_r a1), some (pv_r v2)] [] M1 (qv_ P)
  refine go_aload_n dX0_liftPass_6 rfl ?_
  obtain ⟨k4, H⟩ := H
  refine go_getI (k := 6) ⟨by decide, rfl, by decide, rfl⟩ k4 fl_X0_50 dX0_liftPass_7 ?_
  refine go_if_ne (tgt := 32) dX0_liftPass_10 (by decide) (fun hc => ?_) (fun hc => ?_)
  · replace H := H.1 hc
    exact go_vret rfl dX0_liftPass_32 ⟨rfl, H⟩
  · replace H := H.2 hc
    refine go_aload_n dX0_liftPass_13 rfl ?_
    refine go_ifnull (tgt := 32) dX0_liftPass_14 (by decide) (fun hc => ?_) (fun hc => ?_)
    · replace H := H.1 hc
      exact go_vret rfl dX0_liftPass_32 ⟨rfl, H⟩
    · replace H := H.2 hc
      refine go_aload_n dX0_liftPass_17 rfl ?_
      refine go_aload_n dX0_liftPass_18 rfl ?_
      refine go_getI (k := 5) ⟨by decide, rfl, by decide, rfl⟩ k4 fl_X0_59 dX0_liftPass_19 ?_
      refine go_aload_n dX0_liftPass_22 rfl ?_
      obtain ⟨k5, H⟩ := H
      refine go_getI (k := 5) ⟨by decide, rfl, by decide, rfl⟩ k5 fl_X0_59 dX0_liftPass_23 ?_
      refine go_mmax ml_X0_111 (Nat.le_of_ble_eq_true rfl) ⟨by decide, by decide⟩ dX0_liftPass_26 ?_
      refine go_putI (k := 5) ⟨by decide, rfl, by decide, rfl⟩ k4 rfl (Or.inl rfl) fl_X0_59 dX0_liftPass_29 ?_
      show go_W mt_X0_liftPass fr_C 32 [some (pv_r a0), some (pv_r a1), some (pv_r v2)] [] (mm_pi M1 a1 5 (if mm_i M1 a1 5 < mm_i M1 v2 5 then mm_i M1 v2 5 else mm_i M1 a1 5)) (qv_ P)
      obtain ⟨M6, hM6⟩ : ∃ M', M' = mm_pi M1 a1 5 (if mm_i M1 a1 5 < mm_i M1 v2 5 then mm_i M1 v2 5 else mm_i M1 a1 5) := ⟨_, rfl⟩
      have k7 : mm_k M6 a0 = (0, 4) := (by rw [hM6]; exact k3)
      have k8 : mm_k M6 a1 = (3, 14) := (by rw [hM6]; exact k4)
      have k9 : mm_k M6 v2 = (3, 14) := (by rw [hM6]; exact k5)
      rw [← hM6]
      replace H := H M6 hM6
      exact go_vret rfl dX0_liftPass_32 ⟨rfl, H⟩
set_option maxRecDepth 20000 in
theorem wc_X0_transfer_0 {M : mm_T} {a0 a1 a2 : Nat} {P : mm_T → Prop} (K0 : mm_k M a0 = (0, 4)) (H : cs_v mt_X0_count [pv_r a0, pv_r a1, pv_i (-1 : Int32)] M (fun M1 => mm_k M1 a1 = (6, 17) ∧ (mm_k M1 (mm_r M1 a1 2) = (3, 14) ∧ (cs_v mt_X3_closeIfDrained [pv_r (mm_r M1 a1 2)] M1 (fun M5 => ∀ M9, M9 = mm_pr M5 a1 2 a2 → (((¬ mm_i M9 a1 7 = 0) → cs_v mt_X0_count [pv_r a0, pv_r a1, pv_i (1 : Int32)] M9 (fun M13 => P M13)) ∧ ((mm_i M9 a1 7 = 0) → cs_v mt_X0_liftPass [pv_r a0, pv_r a2] M9 (fun M17 => cs_v mt_X0_count [pv_r a0, pv_r a1, pv_i (1 : Int32)] M17 (fun M21 => P M21))))))))) : cw_v mt_X0_transfer 0 [some (pv_r a0), some (pv_r a1), some (pv_r a2)] [] M P := by
  refine go_aload_n dX0_transfer_0 rfl ?_
  refine go_aload_n dX0_transfer_1 rfl ?_
  refine go_iconst (v := (-1 : Int32)) rfl dX0_transfer_2 ?_
  refine go_V (av := [pv_r a1, pv_i (-1 : Int32)]) (st := []) (ci := 0) ok_X0_count ⟨by decide, by decide⟩ ml_X0_73 rfl (by decide) (fun v hv => by simp only [List.mem_cons, List.not_mem_nil, or_false] at hv; rcases hv with rfl | rfl <;> first | exact pv_1i | exact pv_1r) (Nat.le_of_ble_eq_true rfl) (fun _ h => h) (by decide) rfl K0 dX0_transfer_3 H (fun r M1 hq hS => ?_)
  obtain ⟨rfl, H⟩ := hq
  have k2 : mm_k M1 a0 = (0, 4) := ks_S K0 (by decide) hS
  show go_W mt_X0_transfer fr_C 6 [some (pv_r a0), some (pv_r a1), some (pv_r a2)] [] M1 (qv_ P)
  refine go_aload_n dX0_transfer_6 rfl ?_
  obtain ⟨k3, H⟩ := H
  refine go_getR (k := 2) ⟨by decide, rfl, by decide, Or.inl ⟨_, rfl⟩⟩ k3 fl_X0_84 dX0_transfer_7 ?_
  obtain ⟨k4, H⟩ := H
  refine go_V (av := []) (st := []) (ci := 3) ok_X3_closeIfDrained ⟨by decide, by decide⟩ ml_X0_88 rfl (by decide) (fun v hv => absurd hv List.not_mem_nil) (Nat.le_of_ble_eq_true rfl) (fun _ h => h) (by decide) rfl k4 dX0_transfer_10 H (fun r M5 hq hS => ?_)
  obtain ⟨rfl, H⟩ := hq
  have k6 : mm_k M5 a0 = (0, 4) := ks_S k2 (by decide) hS
  have k7 : mm_k M5 a1 = (6, 17) := ks_S k3 (by decide) hS
  have k8 : mm_k M5 (mm_r M1 a1 2) = (3, 14) := ks_S k4 (by decide) hS
  show go_W mt_X0_transfer fr_C 13 [some (pv_r a0), some (pv_r a1), some (pv_r a2)] [] M5 (qv_ P)
  refine go_aload_n dX0_transfer_13 rfl ?_
  refine go_aload_n dX0_transfer_14 rfl ?_
  refine go_putR (k := 2) ⟨by decide, rfl, by decide, Or.inl ⟨_, rfl⟩⟩ k7 rfl (Or.inl rfl) fl_X0_84 dX0_transfer_15 ?_
  show go_W mt_X0_transfer fr_C 18 [some (pv_r a0), some (pv_r a1), some (pv_r a2)] [] (mm_pr M5 a1 2 a2) (qv_ P)
  obtain ⟨M9, hM9⟩ : ∃ M', M' = mm_pr M5 a1 2 a2 := ⟨_, rfl⟩
  have k10 : mm_k M9 a0 = (0, 4) := (by rw [hM9]; exact k6)
  have k11 : mm_k M9 a1 = (6, 17) := (by rw [hM9]; exact k7)
  have k12 : mm_k M9 (mm_r M1 a1 2) = (3, 14) := (by rw [hM9]; exact k8)
  rw [← hM9]
  replace H := H M9 hM9
  refine go_aload_n dX0_transfer_18 rfl ?_
  refine go_getI (k := 7) ⟨by decide, rfl, by decide, rfl⟩ k11 fl_X0_77 dX0_transfer_19 ?_
  refine go_if_ne (tgt := 30) dX0_transfer_22 (by decide) (fun hc => ?_) (fun hc => ?_)
  · replace H := H.1 hc
    refine go_aload_n dX0_transfer_30 rfl ?_
    refine go_aload_n dX0_transfer_31 rfl ?_
    refine go_iconst (v := (1 : Int32)) rfl dX0_transfer_32 ?_
    refine go_V (av := [pv_r a1, pv_i (1 : Int32)]) (st := []) (ci := 0) ok_X0_count ⟨by decide, by decide⟩ ml_X0_73 rfl (by decide) (fun v hv => by simp only [List.mem_cons, List.not_mem_nil, or_false] at hv; rcases hv with rfl | rfl <;> first | exact pv_1i | exact pv_1r) (Nat.le_of_ble_eq_true rfl) (fun _ h => h) (by decide) rfl k10 dX0_transfer_33 H (fun r M13 hq hS => ?_)
    obtain ⟨rfl, H⟩ := hq
    have k14 : mm_k M13 a0 = (0, 4) := ks_S k10 (by decide) hS
    have k15 : mm_k M13 a1 = (6, 17) := ks_S k11 (by decide) hS
    have k16 : mm_k M13 (mm_r M1 a1 2) = (3, 14) := ks_S k12 (by decide) hS
    show go_W mt_X0_transfer fr_C 36 [some (pv_r a0), some (pv_r a1), some (pv_r a2)] [] M13 (qv_ P)
    exact go_vret rfl dX0_transfer_36 ⟨rfl, H⟩
  · replace H := H.2 hc
    refine go_aload_n dX0_transfer_25 rfl ?_
    refine go_aload_n dX0_transfer_26 rfl ?_
    refine go_V (av := [pv_r a2]) (st := []) (ci := 0) ok_X0_liftPass ⟨by decide, by decide⟩ ml_X0_100 rfl (by decide) (fun v hv => by simp only [List.mem_cons, List.not_mem_nil, or_false] at hv; rcases hv with rfl <;> first | exact pv_1i | exact pv_1r) (Nat.le_of_ble_eq_true rfl) (fun _ h => h) (by decide) rfl k10 dX0_transfer_27 H (fun r M17 hq hS => ?_)
    obtain ⟨rfl, H⟩ := hq
    have k18 : mm_k M17 a0 = (0, 4) := ks_S k10 (by decide) hS
    have k19 : mm_k M17 a1 = (6, 17) := ks_S k11 (by decide) hS
    have k20 : mm_k M17 (mm_r M1 a1 2) = (3, 14) := ks_S k12 (by decide) hS
    show go_W mt_X0_transfer fr_C 30 [some (pv_r a0), some (pv_r a1), some (pv_r a2)] [] M17 (qv_ P)
    refine go_aload_n dX0_transfer_30 rfl ?_
    refine go_aload_n dX0_transfer_31 rfl ?_
    refine go_iconst (v := (1 : Int32)) rfl dX0_transfer_32 ?_
    refine go_V (av := [pv_r a1, pv_i (1 : Int32)]) (st := []) (ci := 0) ok_X0_count ⟨by decide, by decide⟩ ml_X0_73 rfl (by decide) (fun v hv => by simp only [List.mem_cons, List.not_mem_nil, or_false] at hv; rcases hv with rfl | rfl <;> first | exact pv_1i | exact pv_1r) (Nat.le_of_ble_eq_true rfl) (fun _ h => h) (by decide) rfl k18 dX0_transfer_33 H (fun r M21 hq hS => ?_)
    obtain ⟨rfl, H⟩ := hq
    have k22 : mm_k M21 a0 = (0, 4) := ks_S k18 (by decide) hS
    have k23 : mm_k M21 a1 = (6, 17) := ks_S k19 (by decide) hS
    have k24 : mm_k M21 (mm_r M1 a1 2) = (3, 14) := ks_S k20 (by decide) hS
    show go_W mt_X0_transfer fr_C 36 [some (pv_r a0), some (pv_r a1), some (pv_r a2)] [] M21 (qv_ P)
    exact go_vret rfl dX0_transfer_36 ⟨rfl, H⟩
set_option maxRecDepth 20000 in
theorem wc_X0_serve_0 {M : mm_T} {a0 : Nat} {x1 : Int32} {P : Nat → mm_T → Prop} (K0 : mm_k M a0 = (0, 4)) (H : cs_r mt_X0_theLane [pv_r a0, pv_i x1] M (fun v2 M1 => (((¬ v2 = 0) → cs_r mt_X0_least [pv_r a0, pv_i (0 : Int32), pv_r v2] M1 (fun v5 M4 => (((v5 = 0) → P v5 M4) ∧ ((¬ v5 = 0) → cs_v mt_X0_change [pv_r a0, pv_r v5, pv_i (3 : Int32)] M4 (fun M7 => mm_k M7 v5 = (6, 17) ∧ (mm_k M7 v2 = (3, 14) ∧ (cs_v mt_X3_payFor [pv_r v2, pv_i (mm_i M7 v5 4)] M7 (fun M11 => P v5 M11)))))))) ∧ ((v2 = 0) → P 0 M1)))) : cw_r mt_X0_serve 0 [some (pv_r a0), some (pv_i x1), none, none] [] M P := by
  refine go_aload_n dX0_serve_0 rfl ?_
  refine go_iload_n dX0_serve_1 rfl ?_
  refine go_V (av := [pv_i x1]) (st := []) (ci := 0) ok_X0_theLane ⟨by decide, by decide⟩ ml_X0_107 rfl (by decide) (fun v hv => by simp only [List.mem_cons, List.not_mem_nil, or_false] at hv; rcases hv with rfl <;> first | exact pv_1i | exact pv_1r) (Nat.le_of_ble_eq_true rfl) (fun _ h => h) (by decide) rfl K0 dX0_serve_2 H (fun r M1 hq hS => ?_)
  obtain ⟨v2, rfl, H⟩ := hq
  have k3 : mm_k M1 a0 = (0, 4) := ks_S K0 (by decide) hS
  show go_W mt_X0_serve fr_C 5 [some (pv_r a0), some (pv_i x1), none, none] [pv_r v2] M1 (qr_ P)
  refine go_astore_n (by decide) dX0_serve_5 ?_
  show go_W mt_X0_serve fr_C 6 [some (pv_r a0), some (pv_i x1), some (pv_r v2), none] [] M1 (qr_ P)
  refine go_aload_n dX0_serve_6 rfl ?_
  refine go_ifnonnull (tgt := 14) dX0_serve_7 (by decide) (fun hc => ?_) (fun hc => ?_)
  · replace H := H.1 hc
    refine go_aload_n dX0_serve_14 rfl ?_
    refine go_iconst (v := (0 : Int32)) rfl dX0_serve_15 ?_
    refine go_aload_n dX0_serve_16 rfl ?_
    refine go_V (av := [pv_i (0 : Int32), pv_r v2]) (st := []) (ci := 0) ok_X0_least ⟨by decide, by decide⟩ ml_X0_117 rfl (by decide) (fun v hv => by simp only [List.mem_cons, List.not_mem_nil, or_false] at hv; rcases hv with rfl | rfl <;> first | exact pv_1i | exact pv_1r) (Nat.le_of_ble_eq_true rfl) (fun _ h => h) (by decide) rfl k3 dX0_serve_17 H (fun r M4 hq hS => ?_)
    obtain ⟨v5, rfl, H⟩ := hq
    have k6 : mm_k M4 a0 = (0, 4) := ks_S k3 (by decide) hS
    show go_W mt_X0_serve fr_C 20 [some (pv_r a0), some (pv_i x1), some (pv_r v2), none] [pv_r v5] M4 (qr_ P)
    refine go_astore_n (by decide) dX0_serve_20 ?_
    show go_W mt_X0_serve fr_C 21 [some (pv_r a0), some (pv_i x1), some (pv_r v2), some (pv_r v5)] [] M4 (qr_ P)
    refine go_aload_n dX0_serve_21 rfl ?_
    refine go_ifnull (tgt := 39) dX0_serve_22 (by decide) (fun hc => ?_) (fun hc => ?_)
    · replace H := H.1 hc
      refine go_aload_n dX0_serve_39 rfl ?_
      exact go_aret rfl (Or.inl ⟨_, rfl⟩) dX0_serve_40 ⟨_, rfl, H⟩
    · replace H := H.2 hc
      refine go_aload_n dX0_serve_25 rfl ?_
      refine go_aload_n dX0_serve_26 rfl ?_
      refine go_iconst (v := (3 : Int32)) rfl dX0_serve_27 ?_
      refine go_V (av := [pv_r v5, pv_i (3 : Int32)]) (st := []) (ci := 0) ok_X0_change ⟨by decide, by decide⟩ ml_X0_104 rfl (by decide) (fun v hv => by simp only [List.mem_cons, List.not_mem_nil, or_false] at hv; rcases hv with rfl | rfl <;> first | exact pv_1i | exact pv_1r) (Nat.le_of_ble_eq_true rfl) (fun _ h => h) (by decide) rfl k6 dX0_serve_28 H (fun r M7 hq hS => ?_)
      obtain ⟨rfl, H⟩ := hq
      have k8 : mm_k M7 a0 = (0, 4) := ks_S k6 (by decide) hS
      show go_W mt_X0_serve fr_C 31 [some (pv_r a0), some (pv_i x1), some (pv_r v2), some (pv_r v5)] [] M7 (qr_ P)
      refine go_aload_n dX0_serve_31 rfl ?_
      refine go_aload_n dX0_serve_32 rfl ?_
      obtain ⟨k9, H⟩ := H
      refine go_getI (k := 4) ⟨by decide, rfl, by decide, rfl⟩ k9 fl_X0_121 dX0_serve_33 ?_
      obtain ⟨k10, H⟩ := H
      refine go_V (av := [pv_i (mm_i M7 v5 4)]) (st := []) (ci := 3) ok_X3_payFor ⟨by decide, by decide⟩ ml_X0_122 rfl (by decide) (fun v hv => by simp only [List.mem_cons, List.not_mem_nil, or_false] at hv; rcases hv with rfl <;> first | exact pv_1i | exact pv_1r) (Nat.le_of_ble_eq_true rfl) (fun _ h => h) (by decide) rfl k10 dX0_serve_36 H (fun r M11 hq hS => ?_)
      obtain ⟨rfl, H⟩ := hq
      have k12 : mm_k M11 a0 = (0, 4) := ks_S k8 (by decide) hS
      have k13 : mm_k M11 v5 = (6, 17) := ks_S k9 (by decide) hS
      have k14 : mm_k M11 v2 = (3, 14) := ks_S k10 (by decide) hS
      show go_W mt_X0_serve fr_C 39 [some (pv_r a0), some (pv_i x1), some (pv_r v2), some (pv_r v5)] [] M11 (qr_ P)
      refine go_aload_n dX0_serve_39 rfl ?_
      exact go_aret rfl (Or.inl ⟨_, rfl⟩) dX0_serve_40 ⟨_, rfl, H⟩
  · replace H := H.2 hc
    refine go_null dX0_serve_10 ?_
    refine go_goto (tgt := 20) dX0_serve_11 (by decide) ?_
    refine go_astore_n (by decide) dX0_serve_20 ?_
    show go_W mt_X0_serve fr_C 21 [some (pv_r a0), some (pv_i x1), some (pv_r v2), some (pv_r 0)] [] M1 (qr_ P)
    refine go_aload_n dX0_serve_21 rfl ?_
    refine go_ifnull (tgt := 39) dX0_serve_22 (by decide) (fun _ => ?_) (fun hc => absurd rfl hc)
    refine go_aload_n dX0_serve_39 rfl ?_
    exact go_aret rfl (Or.inl ⟨_, rfl⟩) dX0_serve_40 ⟨_, rfl, H⟩
set_option maxRecDepth 20000 in
theorem wc_X0_orderOf_0 {M : mm_T} {a0 a1 : Nat} {P : Int32 → mm_T → Prop} (K0 : mm_k M a0 = (0, 4)) (H : mm_k M a1 = (6, 17) ∧ ((((¬ mm_i M a1 7 = (2 : Int32)) → (((¬ mm_i M a1 7 = (3 : Int32)) → ∃ l2, ak_ M (mm_r M a0 3) 0 l2 ∧ (0 < l2 ∧ (cs_i mt_X6_rankBy [pv_r a1, pv_i (mm_i M (mm_r M a0 3) 0)] M (fun v6 M5 => P (-v6) M5)))) ∧ ((mm_i M a1 7 = (3 : Int32)) → P (mm_i M a1 12) M))) ∧ ((mm_i M a1 7 = (2 : Int32)) → P (mm_i M a1 9) M)))) : cw_i mt_X0_orderOf 0 [some (pv_r a0), some (pv_r a1)] [] M P := by
  refine go_aload_n dX0_orderOf_0 rfl ?_
  obtain ⟨k1, H⟩ := H
  refine go_getI (k := 7) ⟨by decide, rfl, by decide, rfl⟩ k1 fl_X0_77 dX0_orderOf_1 ?_
  refine go_iconst (v := (2 : Int32)) rfl dX0_orderOf_4 ?_
  refine go_icmp_ne (tgt := 13) dX0_orderOf_5 (by decide) (fun hc => ?_) (fun hc => ?_)
  · replace H := H.1 hc
    refine go_aload_n dX0_orderOf_13 rfl ?_
    refine go_getI (k := 7) ⟨by decide, rfl, by decide, rfl⟩ k1 fl_X0_77 dX0_orderOf_14 ?_
    refine go_iconst (v := (3 : Int32)) rfl dX0_orderOf_17 ?_
    refine go_icmp_ne (tgt := 28) dX0_orderOf_18 (by decide) (fun hc => ?_) (fun hc => ?_)
    · replace H := H.1 hc
      refine go_aload_n dX0_orderOf_28 rfl ?_
      refine go_aload_n dX0_orderOf_29 rfl ?_
      refine go_getR (k := 3) ⟨by decide, rfl, by decide, Or.inr ⟨_, rfl⟩⟩ K0 fl_X0_38 dX0_orderOf_30 ?_
      refine go_iconst (v := (0 : Int32)) rfl dX0_orderOf_33 ?_
      obtain ⟨l2, k3, H⟩ := H
      obtain ⟨hb4, H⟩ := H
      refine go_ialdA (j := 0) k3 rfl hb4 dX0_orderOf_34 ?_
      refine go_V (av := [pv_i (mm_i M (mm_r M a0 3) 0)]) (st := []) (ci := 6) ok_X6_rankBy ⟨by decide, by decide⟩ ml_X0_131 rfl (by decide) (fun v hv => by simp only [List.mem_cons, List.not_mem_nil, or_false] at hv; rcases hv with rfl <;> first | exact pv_1i | exact pv_1r) (Nat.le_of_ble_eq_true rfl) (fun _ h => h) (by decide) rfl k1 dX0_orderOf_35 H (fun r M5 hq hS => ?_)
      obtain ⟨v6, rfl, H⟩ := hq
      have k7 : mm_k M5 a0 = (0, 4) := ks_S K0 (by decide) hS
      have k8 : mm_k M5 a1 = (6, 17) := ks_S k1 (by decide) hS
      have k9 : ak_ M5 (mm_r M a0 3) 0 l2 := ak_S k3 hS
      show go_W mt_X0_orderOf fr_C 38 [some (pv_r a0), some (pv_r a1)] [pv_i v6] M5 (qi_ P)
      refine go_ineg dX0_orderOf_38 ?_
      exact go_iret rfl rfl dX0_orderOf_39 ⟨_, rfl, H⟩
    · replace H := H.2 hc
      refine go_aload_n dX0_orderOf_21 rfl ?_
      refine go_getI (k := 12) ⟨by decide, rfl, by decide, rfl⟩ k1 fl_X0_128 dX0_orderOf_22 ?_
      refine go_goto (tgt := 39) dX0_orderOf_25 (by decide) ?_
      exact go_iret rfl rfl dX0_orderOf_39 ⟨_, rfl, H⟩
  · replace H := H.2 hc
    refine go_aload_n dX0_orderOf_8 rfl ?_
    refine go_getI (k := 9) ⟨by decide, rfl, by decide, rfl⟩ k1 fl_X0_125 dX0_orderOf_9 ?_
    exact go_iret rfl rfl dX0_orderOf_12 ⟨_, rfl, H⟩
set_option maxRecDepth 20000 in
theorem wc_X0_isAhead_0 {M : mm_T} {a0 a1 a2 : Nat} {P : Int32 → mm_T → Prop} (K0 : mm_k M a0 = (0, 4)) (H : cs_i mt_X0_orderOf [pv_r a0, pv_r a1] M (fun v2 M1 => cs_i mt_X0_orderOf [pv_r a0, pv_r a2] M1 (fun v5 M4 => (((v2 < v5) → P (1 : Int32) M4) ∧ ((¬ v2 < v5) → (((¬ v2 = v5) → P (0 : Int32) M4) ∧ ((v2 = v5) → mm_k M4 a1 = (6, 17) ∧ (mm_k M4 a2 = (6, 17) ∧ ((((mm_i M4 a2 0 ≤ mm_i M4 a1 0) → P (0 : Int32) M4) ∧ ((¬ mm_i M4 a2 0 ≤ mm_i M4 a1 0) → P (1 : Int32) M4))))))))))) : cw_i mt_X0_isAhead 0 [some (pv_r a0), some (pv_r a1), some (pv_r a2), none, none] [] M P := by
  refine go_aload_n dX0_isAhead_0 rfl ?_
  refine go_aload_n dX0_isAhead_1 rfl ?_
  refine go_V (av := [pv_r a1]) (st := []) (ci := 0) ok_X0_orderOf ⟨by decide, by decide⟩ ml_X0_135 rfl (by decide) (fun v hv => by simp only [List.mem_cons, List.not_mem_nil, or_false] at hv; rcases hv with rfl <;> first | exact pv_1i | exact pv_1r) (Nat.le_of_ble_eq_true rfl) (fun _ h => h) (by decide) rfl K0 dX0_isAhead_2 H (fun r M1 hq hS => ?_)
  obtain ⟨v2, rfl, H⟩ := hq
  have k3 : mm_k M1 a0 = (0, 4) := ks_S K0 (by decide) hS
  show go_W mt_X0_isAhead fr_C 5 [some (pv_r a0), some (pv_r a1), some (pv_r a2), none, none] [pv_i v2] M1 (qi_ P)
  refine go_istore_n (by decide) dX0_isAhead_5 ?_
  show go_W mt_X0_isAhead fr_C 6 [some (pv_r a0), some (pv_r a1), some (pv_r a2), some (pv_i v2), none] [] M1 (qi_ P)
  refine go_aload_n dX0_isAhead_6 rfl ?_
  refine go_aload_n dX0_isAhead_7 rfl ?_
  refine go_V (av := [pv_r a2]) (st := []) (ci := 0) ok_X0_orderOf ⟨by decide, by decide⟩ ml_X0_135 rfl (by decide) (fun v hv => by simp only [List.mem_cons, List.not_mem_nil, or_false] at hv; rcases hv with rfl <;> first | exact pv_1i | exact pv_1r) (Nat.le_of_ble_eq_true rfl) (fun _ h => h) (by decide) rfl k3 dX0_isAhead_8 H (fun r M4 hq hS => ?_)
  obtain ⟨v5, rfl, H⟩ := hq
  have k6 : mm_k M4 a0 = (0, 4) := ks_S k3 (by decide) hS
  show go_W mt_X0_isAhead fr_C 11 [some (pv_r a0), some (pv_r a1), some (pv_r a2), some (pv_i v2), none] [pv_i v5] M4 (qi_ P)
  refine go_istore (by decide) dX0_isAhead_11 ?_
  show go_W mt_X0_isAhead fr_C 13 [some (pv_r a0), some (pv_r a1), some (pv_r a2), some (pv_i v2), some (pv_i v5)] [] M4 (qi_ P)
  refine go_iload_n dX0_isAhead_13 rfl ?_
  refine go_iload dX0_isAhead_14 rfl ?_
  refine go_icmp_lt (tgt := 36) dX0_isAhead_16 (by decide) (fun hc => ?_) (fun hc => ?_)
  · replace H := H.1 hc
    refine go_iconst (v := (1 : Int32)) rfl dX0_isAhead_36 ?_
    refine go_goto (tgt := 41) dX0_isAhead_37 (by decide) ?_
    exact go_iret rfl rfl dX0_isAhead_41 ⟨_, rfl, H⟩
  · replace H := H.2 hc
    refine go_iload_n dX0_isAhead_19 rfl ?_
    refine go_iload dX0_isAhead_20 rfl ?_
    refine go_icmp_ne (tgt := 40) dX0_isAhead_22 (by decide) (fun hc => ?_) (fun hc => ?_)
    · replace H := H.1 hc
      refine go_iconst (v := (0 : Int32)) rfl dX0_isAhead_40 ?_
      exact go_iret rfl rfl dX0_isAhead_41 ⟨_, rfl, H⟩
    · replace H := H.2 hc
      refine go_aload_n dX0_isAhead_25 rfl ?_
      obtain ⟨k7, H⟩ := H
      refine go_getI (k := 0) ⟨by decide, rfl, by decide, rfl⟩ k7 fl_X0_139 dX0_isAhead_26 ?_
      refine go_aload_n dX0_isAhead_29 rfl ?_
      obtain ⟨k8, H⟩ := H
      refine go_getI (k := 0) ⟨by decide, rfl, by decide, rfl⟩ k8 fl_X0_139 dX0_isAhead_30 ?_
      refine go_icmp_ge (tgt := 40) dX0_isAhead_33 (by decide) (fun hc => ?_) (fun hc => ?_)
      · replace H := H.1 hc
        refine go_iconst (v := (0 : Int32)) rfl dX0_isAhead_40 ?_
        exact go_iret rfl rfl dX0_isAhead_41 ⟨_, rfl, H⟩
      · replace H := H.2 hc
        refine go_iconst (v := (1 : Int32)) rfl dX0_isAhead_36 ?_
        refine go_goto (tgt := 41) dX0_isAhead_37 (by decide) ?_
        exact go_iret rfl rfl dX0_isAhead_41 ⟨_, rfl, H⟩
set_option maxRecDepth 20000 in
theorem wc_X0_isOf_0 {M : mm_T} {a0 a2 : Nat} {x1 : Int32} {P : Int32 → mm_T → Prop} (H : mm_k M a0 = (6, 17) ∧ ((((¬ mm_i M a0 7 = x1) → P (0 : Int32) M) ∧ ((mm_i M a0 7 = x1) → (((a2 = 0) → P (1 : Int32) M) ∧ ((¬ a2 = 0) → (mm_r M a0 2 = 0 ∨ ob_ M (mm_r M a0 2)) ∧ (a2 = 0 ∨ ob_ M a2) ∧ (((¬ mm_r M a0 2 = a2) → P (0 : Int32) M) ∧ ((mm_r M a0 2 = a2) → P (1 : Int32) M)))))))) : cw_i mt_X0_isOf 0 [some (pv_r a0), some (pv_i x1), some (pv_r a2)] [] M P := by
  refine go_aload_n dX0_isOf_0 rfl ?_
  obtain ⟨k1, H⟩ := H
  refine go_getI (k := 7) ⟨by decide, rfl, by decide, rfl⟩ k1 fl_X0_77 dX0_isOf_1 ?_
  refine go_iload_n dX0_isOf_4 rfl ?_
  refine go_icmp_ne (tgt := 24) dX0_isOf_5 (by decide) (fun hc => ?_) (fun hc => ?_)
  · replace H := H.1 hc
    refine go_iconst (v := (0 : Int32)) rfl dX0_isOf_24 ?_
    exact go_iret rfl rfl dX0_isOf_25 ⟨_, rfl, H⟩
  · replace H := H.2 hc
    refine go_aload_n dX0_isOf_8 rfl ?_
    refine go_ifnull (tgt := 20) dX0_isOf_9 (by decide) (fun hc => ?_) (fun hc => ?_)
    · replace H := H.1 hc
      refine go_iconst (v := (1 : Int32)) rfl dX0_isOf_20 ?_
      refine go_goto (tgt := 25) dX0_isOf_21 (by decide) ?_
      exact go_iret rfl rfl dX0_isOf_25 ⟨_, rfl, H⟩
    · replace H := H.2 hc
      refine go_aload_n dX0_isOf_12 rfl ?_
      refine go_getR (k := 2) ⟨by decide, rfl, by decide, Or.inl ⟨_, rfl⟩⟩ k1 fl_X0_84 dX0_isOf_13 ?_
      refine go_aload_n dX0_isOf_16 rfl ?_
      obtain ⟨ho2, H⟩ := H
      obtain ⟨ho3, H⟩ := H
      refine go_acmpO_ne (tgt := 24) ho2 ho3 dX0_isOf_17 (by decide) (fun hc => ?_) (fun hc => ?_)
      · replace H := H.1 hc
        refine go_iconst (v := (0 : Int32)) rfl dX0_isOf_24 ?_
        exact go_iret rfl rfl dX0_isOf_25 ⟨_, rfl, H⟩
      · replace H := H.2 hc
        refine go_iconst (v := (1 : Int32)) rfl dX0_isOf_20 ?_
        refine go_goto (tgt := 25) dX0_isOf_21 (by decide) ?_
        exact go_iret rfl rfl dX0_isOf_25 ⟨_, rfl, H⟩
set_option maxRecDepth 20000 in
theorem wc_X0_least_0 {M : mm_T} {a0 a2 : Nat} {x1 : Int32} {P : Nat → mm_T → Prop} (K0 : mm_k M a0 = (0, 4)) (H : cw_r mt_X0_least 8 [some (pv_r a0), some (pv_i x1), some (pv_r a2), some (pv_r 0), some (pv_i (0 : Int32)), some (pv_i (0 : Int32)), none, none] [] M P) : cw_r mt_X0_least 0 [some (pv_r a0), some (pv_i x1), some (pv_r a2), none, none, none, none, none] [] M P := by
  refine go_null dX0_least_0 ?_
  refine go_astore_n (by decide) dX0_least_1 ?_
  show go_W mt_X0_least fr_C 2 [some (pv_r a0), some (pv_i x1), some (pv_r a2), some (pv_r 0), none, none, none, none] [] M (qr_ P)
  refine go_iconst (v := (0 : Int32)) rfl dX0_least_2 ?_
  refine go_istore (by decide) dX0_least_3 ?_
  show go_W mt_X0_least fr_C 5 [some (pv_r a0), some (pv_i x1), some (pv_r a2), some (pv_r 0), some (pv_i (0 : Int32)), none, none, none] [] M (qr_ P)
  refine go_iconst (v := (0 : Int32)) rfl dX0_least_5 ?_
  refine go_istore (by decide) dX0_least_6 ?_
  show go_W mt_X0_least fr_C 8 [some (pv_r a0), some (pv_i x1), some (pv_r a2), some (pv_r 0), some (pv_i (0 : Int32)), some (pv_i (0 : Int32)), none, none] [] M (qr_ P)
  exact H
set_option maxRecDepth 20000 in
theorem wc_X0_least_8 {M : mm_T} {a0 a2 a3 : Nat} {x1 x4 x5 : Int32} {P : Nat → mm_T → Prop} (K0 : mm_k M a0 = (0, 4)) (H : mm_k M (mm_r M a0 1) = (4, 2) ∧ ((((mm_i M (mm_r M a0 1) 1 ≤ x5) → P a3 M) ∧ ((¬ mm_i M (mm_r M a0 1) 1 ≤ x5) → ∃ l2, ak_ M (mm_r M (mm_r M a0 1) 0) 3 l2 ∧ (∃ n5, (x5 = nI n5 ∧ n5 < l2) ∧ (cs_i mt_X0_isOf [pv_r (mm_r M (mm_r M (mm_r M a0 1) 0) n5), pv_i x1, pv_r a2] M (fun v7 M6 => (((¬ v7 = 0) → cs_i mt_X0_orderOf [pv_r a0, pv_r (mm_r M (mm_r M (mm_r M a0 1) 0) n5)] M6 (fun v12 M11 => (((a3 = 0) → cw_r mt_X0_least 8 [some (pv_r a0), some (pv_i x1), some (pv_r a2), some (pv_r (mm_r M (mm_r M (mm_r M a0 1) 0) n5)), some (pv_i v12), some (pv_i (nI (n5 + 1))), none, none] [] M11 P) ∧ ((¬ a3 = 0) → (((x4 ≤ v12) → cw_r mt_X0_least 8 [some (pv_r a0), some (pv_i x1), some (pv_r a2), some (pv_r a3), some (pv_i x4), some (pv_i (nI (n5 + 1))), none, none] [] M11 P) ∧ ((¬ x4 ≤ v12) → cw_r mt_X0_least 8 [some (pv_r a0), some (pv_i x1), some (pv_r a2), some (pv_r (mm_r M (mm_r M (mm_r M a0 1) 0) n5)), some (pv_i v12), some (pv_i (nI (n5 + 1))), none, none] [] M11 P)))))) ∧ ((v7 = 0) → cw_r mt_X0_least 8 [some (pv_r a0), some (pv_i x1), some (pv_r a2), some (pv_r a3), some (pv_i x4), some (pv_i (nI (n5 + 1))), none, none] [] M6 P))))))))) : cw_r mt_X0_least 8 [some (pv_r a0), some (pv_i x1), some (pv_r a2), some (pv_r a3), some (pv_i x4), some (pv_i x5), none, none] [] M P := by
  refine go_iload dX0_least_8 rfl ?_
  refine go_aload_n dX0_least_10 rfl ?_
  refine go_getR (k := 1) ⟨by decide, rfl, by decide, Or.inl ⟨_, rfl⟩⟩ K0 fl_X0_22 dX0_least_11 ?_
  obtain ⟨k1, H⟩ := H
  refine go_getI (k := 1) ⟨by decide, rfl, by decide, rfl⟩ k1 fl_X0_46 dX0_least_14 ?_
  refine go_icmp_ge (tgt := 77) dX0_least_17 (by decide) (fun hc => ?_) (fun hc => ?_)
  · replace H := H.1 hc
    refine go_aload_n dX0_least_77 rfl ?_
    exact go_aret rfl (Or.inl ⟨_, rfl⟩) dX0_least_78 ⟨_, rfl, H⟩
  · replace H := H.2 hc
    refine go_aload_n dX0_least_20 rfl ?_
    refine go_getR (k := 1) ⟨by decide, rfl, by decide, Or.inl ⟨_, rfl⟩⟩ K0 fl_X0_22 dX0_least_21 ?_
    refine go_getR (k := 0) ⟨by decide, rfl, by decide, Or.inr ⟨_, rfl⟩⟩ k1 fl_X0_142 dX0_least_24 ?_
    refine go_iload dX0_least_27 rfl ?_
    obtain ⟨l2, k3, H⟩ := H
    obtain ⟨n5, ⟨hn5, hn5b⟩, H⟩ := H
    refine go_aaldA (j := n5) k3 (by decide) hn5 hn5b dX0_least_29 ?_
    refine go_astore (by decide) dX0_least_30 ?_
    show go_W mt_X0_least fr_C 32 [some (pv_r a0), some (pv_i x1), some (pv_r a2), some (pv_r a3), some (pv_i x4), some (pv_i x5), some (pv_r (mm_r M (mm_r M (mm_r M a0 1) 0) n5)), none] [] M (qr_ P)
    refine go_aload dX0_least_32 rfl ?_
    refine go_iload_n dX0_least_34 rfl ?_
    refine go_aload_n dX0_least_35 rfl ?_
    refine go_St (av := [pv_r (mm_r M (mm_r M (mm_r M a0 1) 0) n5), pv_i x1, pv_r a2]) (st := []) ok_X0_isOf ⟨by decide, by decide⟩ ml_X0_146 rfl (by decide) (fun v hv => by simp only [List.mem_cons, List.not_mem_nil, or_false] at hv; rcases hv with rfl | rfl | rfl <;> first | exact pv_1i | exact pv_1r) (Nat.le_of_ble_eq_true rfl) (fun _ h => h) dX0_least_36 H (fun r M6 hq hS => ?_)
    obtain ⟨v7, rfl, H⟩ := hq
    have k8 : mm_k M6 a0 = (0, 4) := ks_S K0 (by decide) hS
    have k9 : mm_k M6 (mm_r M a0 1) = (4, 2) := ks_S k1 (by decide) hS
    have k10 : ak_ M6 (mm_r M (mm_r M a0 1) 0) 3 l2 := ak_S k3 hS
    show go_W mt_X0_least fr_C 39 [some (pv_r a0), some (pv_i x1), some (pv_r a2), some (pv_r a3), some (pv_i x4), some (pv_i x5), some (pv_r (mm_r M (mm_r M (mm_r M a0 1) 0) n5)), none] [pv_i v7] M6 (qr_ P)
    refine go_if_ne (tgt := 45) dX0_least_39 (by decide) (fun hc => ?_) (fun hc => ?_)
    · replace H := H.1 hc
      refine go_aload_n dX0_least_45 rfl ?_
      refine go_aload dX0_least_46 rfl ?_
      refine go_V (av := [pv_r (mm_r M (mm_r M (mm_r M a0 1) 0) n5)]) (st := []) (ci := 0) ok_X0_orderOf ⟨by decide, by decide⟩ ml_X0_135 rfl (by decide) (fun v hv => by simp only [List.mem_cons, List.not_mem_nil, or_false] at hv; rcases hv with rfl <;> first | exact pv_1i | exact pv_1r) (Nat.le_of_ble_eq_true rfl) (fun _ h => h) (by decide) rfl k8 dX0_least_48 H (fun r M11 hq hS => ?_)
      obtain ⟨v12, rfl, H⟩ := hq
      have k13 : mm_k M11 a0 = (0, 4) := ks_S k8 (by decide) hS
      have k14 : mm_k M11 (mm_r M a0 1) = (4, 2) := ks_S k9 (by decide) hS
      have k15 : ak_ M11 (mm_r M (mm_r M a0 1) 0) 3 l2 := ak_S k10 hS
      show go_W mt_X0_least fr_C 51 [some (pv_r a0), some (pv_i x1), some (pv_r a2), some (pv_r a3), some (pv_i x4), some (pv_i x5), some (pv_r (mm_r M (mm_r M (mm_r M a0 1) 0) n5)), none] [pv_i v12] M11 (qr_ P)
      refine go_istore (by decide) dX0_least_51 ?_
      show go_W mt_X0_least fr_C 53 [some (pv_r a0), some (pv_i x1), some (pv_r a2), some (pv_r a3), some (pv_i x4), some (pv_i x5), some (pv_r (mm_r M (mm_r M (mm_r M a0 1) 0) n5)), some (pv_i v12)] [] M11 (qr_ P)
      refine go_aload_n dX0_least_53 rfl ?_
      refine go_ifnull (tgt := 64) dX0_least_54 (by decide) (fun hc => ?_) (fun hc => ?_)
      · replace H := H.1 hc
        refine go_aload dX0_least_64 rfl ?_
        refine go_astore_n (by decide) dX0_least_66 ?_
        show go_W mt_X0_least fr_C 67 [some (pv_r a0), some (pv_i x1), some (pv_r a2), some (pv_r (mm_r M (mm_r M (mm_r M a0 1) 0) n5)), some (pv_i x4), some (pv_i x5), some (pv_r (mm_r M (mm_r M (mm_r M a0 1) 0) n5)), some (pv_i v12)] [] M11 (qr_ P)
        refine go_iload dX0_least_67 rfl ?_
        refine go_istore (by decide) dX0_least_69 ?_
        show go_W mt_X0_least fr_C 71 [some (pv_r a0), some (pv_i x1), some (pv_r a2), some (pv_r (mm_r M (mm_r M (mm_r M a0 1) 0) n5)), some (pv_i v12), some (pv_i x5), some (pv_r (mm_r M (mm_r M (mm_r M a0 1) 0) n5)), some (pv_i v12)] [] M11 (qr_ P)
        refine go_iincN (n := n5) (k := 1) hn5 (by decide) rfl rfl dX0_least_71 ?_
        show go_W mt_X0_least fr_C 74 [some (pv_r a0), some (pv_i x1), some (pv_r a2), some (pv_r (mm_r M (mm_r M (mm_r M a0 1) 0) n5)), some (pv_i v12), some (pv_i (nI (n5 + 1))), some (pv_r (mm_r M (mm_r M (mm_r M a0 1) 0) n5)), some (pv_i v12)] [] M11 (qr_ P)
        refine go_goto (tgt := 8) dX0_least_74 (by decide) ?_
        exact go_fg (ls' := [some (pv_r a0), some (pv_i x1), some (pv_r a2), some (pv_r (mm_r M (mm_r M (mm_r M a0 1) 0) n5)), some (pv_i v12), some (pv_i (nI (n5 + 1))), none, none]) ⟨rfl, ⟨rfl, ⟨rfl, ⟨rfl, ⟨rfl, ⟨rfl, trivial⟩⟩⟩⟩⟩⟩ H
      · replace H := H.2 hc
        refine go_iload dX0_least_57 rfl ?_
        refine go_iload dX0_least_59 rfl ?_
        refine go_icmp_ge (tgt := 71) dX0_least_61 (by decide) (fun hc => ?_) (fun hc => ?_)
        · replace H := H.1 hc
          refine go_iincN (n := n5) (k := 1) hn5 (by decide) rfl rfl dX0_least_71 ?_
          show go_W mt_X0_least fr_C 74 [some (pv_r a0), some (pv_i x1), some (pv_r a2), some (pv_r a3), some (pv_i x4), some (pv_i (nI (n5 + 1))), some (pv_r (mm_r M (mm_r M (mm_r M a0 1) 0) n5)), some (pv_i v12)] [] M11 (qr_ P)
          refine go_goto (tgt := 8) dX0_least_74 (by decide) ?_
          exact go_fg (ls' := [some (pv_r a0), some (pv_i x1), some (pv_r a2), some (pv_r a3), some (pv_i x4), some (pv_i (nI (n5 + 1))), none, none]) ⟨rfl, ⟨rfl, ⟨rfl, ⟨rfl, ⟨rfl, ⟨rfl, trivial⟩⟩⟩⟩⟩⟩ H
        · replace H := H.2 hc
          refine go_aload dX0_least_64 rfl ?_
          refine go_astore_n (by decide) dX0_least_66 ?_
          show go_W mt_X0_least fr_C 67 [some (pv_r a0), some (pv_i x1), some (pv_r a2), some (pv_r (mm_r M (mm_r M (mm_r M a0 1) 0) n5)), some (pv_i x4), some (pv_i x5), some (pv_r (mm_r M (mm_r M (mm_r M a0 1) 0) n5)), some (pv_i v12)] [] M11 (qr_ P)
          refine go_iload dX0_least_67 rfl ?_
          refine go_istore (by decide) dX0_least_69 ?_
          show go_W mt_X0_least fr_C 71 [some (pv_r a0), some (pv_i x1), some (pv_r a2), some (pv_r (mm_r M (mm_r M (mm_r M a0 1) 0) n5)), some (pv_i v12), some (pv_i x5), some (pv_r (mm_r M (mm_r M (mm_r M a0 1) 0) n5)), some (pv_i v12)] [] M11 (qr_ P)
          refine go_iincN (n := n5) (k := 1) hn5 (by decide) rfl rfl dX0_least_71 ?_
          show go_W mt_X0_least fr_C 74 [some (pv_r a0), some (pv_i x1), some (pv_r a2), some (pv_r (mm_r M (mm_r M (mm_r M a0 1) 0) n5)), some (pv_i v12), some (pv_i (nI (n5 + 1))), some (pv_r (mm_r M (mm_r M (mm_r M a0 1) 0) n5)), some (pv_i v12)] [] M11 (qr_ P)
          refine go_goto (tgt := 8) dX0_least_74 (by decide) ?_
          exact go_fg (ls' := [some (pv_r a0), some (pv_i x1), some (pv_r a2), some (pv_r (mm_r M (mm_r M (mm_r M a0 1) 0) n5)), some (pv_i v12), some (pv_i (nI (n5 + 1))), none, none]) ⟨rfl, ⟨rfl, ⟨rfl, ⟨rfl, ⟨rfl, ⟨rfl, trivial⟩⟩⟩⟩⟩⟩ H
    · replace H := H.2 hc
      refine go_goto (tgt := 71) dX0_least_42 (by decide) ?_
      refine go_iincN (n := n5) (k := 1) hn5 (by decide) rfl rfl dX0_least_71 ?_
      show go_W mt_X0_least fr_C 74 [some (pv_r a0), some (pv_i x1), some (pv_r a2), some (pv_r a3), some (pv_i x4), some (pv_i (nI (n5 + 1))), some (pv_r (mm_r M (mm_r M (mm_r M a0 1) 0) n5)), none] [] M6 (qr_ P)
      refine go_goto (tgt := 8) dX0_least_74 (by decide) ?_
      exact go_fg (ls' := [some (pv_r a0), some (pv_i x1), some (pv_r a2), some (pv_r a3), some (pv_i x4), some (pv_i (nI (n5 + 1))), none, none]) ⟨rfl, ⟨rfl, ⟨rfl, ⟨rfl, ⟨rfl, ⟨rfl, trivial⟩⟩⟩⟩⟩⟩ H
set_option maxRecDepth 20000 in
theorem wc_X0_kth_0 {M : mm_T} {a0 a2 : Nat} {x1 x3 : Int32} {P : Nat → mm_T → Prop} (K0 : mm_k M a0 = (0, 4)) (H : cw_r mt_X0_kth 3 [some (pv_r a0), some (pv_i x1), some (pv_r a2), some (pv_i x3), some (pv_i (0 : Int32)), none] [] M P) : cw_r mt_X0_kth 0 [some (pv_r a0), some (pv_i x1), some (pv_r a2), some (pv_i x3), none, none] [] M P := by
  refine go_iconst (v := (0 : Int32)) rfl dX0_kth_0 ?_
  refine go_istore (by decide) dX0_kth_1 ?_
  show go_W mt_X0_kth fr_C 3 [some (pv_r a0), some (pv_i x1), some (pv_r a2), some (pv_i x3), some (pv_i (0 : Int32)), none] [] M (qr_ P)
  exact H
set_option maxRecDepth 20000 in
theorem wc_X0_kth_3 {M : mm_T} {a0 a2 : Nat} {x1 x3 x4 : Int32} {P : Nat → mm_T → Prop} (K0 : mm_k M a0 = (0, 4)) (H : mm_k M (mm_r M a0 1) = (4, 2) ∧ ((((mm_i M (mm_r M a0 1) 1 ≤ x4) → P 0 M) ∧ ((¬ mm_i M (mm_r M a0 1) 1 ≤ x4) → ∃ l2, ak_ M (mm_r M (mm_r M a0 1) 0) 3 l2 ∧ (∃ n5, (x4 = nI n5 ∧ n5 < l2) ∧ (cs_i mt_X0_isOf [pv_r (mm_r M (mm_r M (mm_r M a0 1) 0) n5), pv_i x1, pv_r a2] M (fun v7 M6 => (((v7 = 0) → cw_r mt_X0_kth 3 [some (pv_r a0), some (pv_i x1), some (pv_r a2), some (pv_i x3), some (pv_i (nI (n5 + 1))), none] [] M6 P) ∧ ((¬ v7 = 0) → cs_i mt_X0_countAhead [pv_r a0, pv_r (mm_r M (mm_r M (mm_r M a0 1) 0) n5), pv_r a2] M6 (fun v12 M11 => (((¬ v12 = x3) → cw_r mt_X0_kth 3 [some (pv_r a0), some (pv_i x1), some (pv_r a2), some (pv_i x3), some (pv_i (nI (n5 + 1))), none] [] M11 P) ∧ ((v12 = x3) → P (mm_r M (mm_r M (mm_r M a0 1) 0) n5) M11)))))))))))) : cw_r mt_X0_kth 3 [some (pv_r a0), some (pv_i x1), some (pv_r a2), some (pv_i x3), some (pv_i x4), none] [] M P := by
  refine go_iload dX0_kth_3 rfl ?_
  refine go_aload_n dX0_kth_5 rfl ?_
  refine go_getR (k := 1) ⟨by decide, rfl, by decide, Or.inl ⟨_, rfl⟩⟩ K0 fl_X0_22 dX0_kth_6 ?_
  obtain ⟨k1, H⟩ := H
  refine go_getI (k := 1) ⟨by decide, rfl, by decide, rfl⟩ k1 fl_X0_46 dX0_kth_9 ?_
  refine go_icmp_ge (tgt := 57) dX0_kth_12 (by decide) (fun hc => ?_) (fun hc => ?_)
  · replace H := H.1 hc
    refine go_null dX0_kth_57 ?_
    exact go_aret rfl (Or.inl ⟨_, rfl⟩) dX0_kth_58 ⟨_, rfl, H⟩
  · replace H := H.2 hc
    refine go_aload_n dX0_kth_15 rfl ?_
    refine go_getR (k := 1) ⟨by decide, rfl, by decide, Or.inl ⟨_, rfl⟩⟩ K0 fl_X0_22 dX0_kth_16 ?_
    refine go_getR (k := 0) ⟨by decide, rfl, by decide, Or.inr ⟨_, rfl⟩⟩ k1 fl_X0_142 dX0_kth_19 ?_
    refine go_iload dX0_kth_22 rfl ?_
    obtain ⟨l2, k3, H⟩ := H
    obtain ⟨n5, ⟨hn5, hn5b⟩, H⟩ := H
    refine go_aaldA (j := n5) k3 (by decide) hn5 hn5b dX0_kth_24 ?_
    refine go_astore (by decide) dX0_kth_25 ?_
    show go_W mt_X0_kth fr_C 27 [some (pv_r a0), some (pv_i x1), some (pv_r a2), some (pv_i x3), some (pv_i x4), some (pv_r (mm_r M (mm_r M (mm_r M a0 1) 0) n5))] [] M (qr_ P)
    refine go_aload dX0_kth_27 rfl ?_
    refine go_iload_n dX0_kth_29 rfl ?_
    refine go_aload_n dX0_kth_30 rfl ?_
    refine go_St (av := [pv_r (mm_r M (mm_r M (mm_r M a0 1) 0) n5), pv_i x1, pv_r a2]) (st := []) ok_X0_isOf ⟨by decide, by decide⟩ ml_X0_146 rfl (by decide) (fun v hv => by simp only [List.mem_cons, List.not_mem_nil, or_false] at hv; rcases hv with rfl | rfl | rfl <;> first | exact pv_1i | exact pv_1r) (Nat.le_of_ble_eq_true rfl) (fun _ h => h) dX0_kth_31 H (fun r M6 hq hS => ?_)
    obtain ⟨v7, rfl, H⟩ := hq
    have k8 : mm_k M6 a0 = (0, 4) := ks_S K0 (by decide) hS
    have k9 : mm_k M6 (mm_r M a0 1) = (4, 2) := ks_S k1 (by decide) hS
    have k10 : ak_ M6 (mm_r M (mm_r M a0 1) 0) 3 l2 := ak_S k3 hS
    show go_W mt_X0_kth fr_C 34 [some (pv_r a0), some (pv_i x1), some (pv_r a2), some (pv_i x3), some (pv_i x4), some (pv_r (mm_r M (mm_r M (mm_r M a0 1) 0) n5))] [pv_i v7] M6 (qr_ P)
    refine go_if_eq (tgt := 51) dX0_kth_34 (by decide) (fun hc => ?_) (fun hc => ?_)
    · replace H := H.1 hc
      refine go_iincN (n := n5) (k := 1) hn5 (by decide) rfl rfl dX0_kth_51 ?_
      show go_W mt_X0_kth fr_C 54 [some (pv_r a0), some (pv_i x1), some (pv_r a2), some (pv_i x3), some (pv_i (nI (n5 + 1))), some (pv_r (mm_r M (mm_r M (mm_r M a0 1) 0) n5))] [] M6 (qr_ P)
      refine go_goto (tgt := 3) dX0_kth_54 (by decide) ?_
      exact go_fg (ls' := [some (pv_r a0), some (pv_i x1), some (pv_r a2), some (pv_i x3), some (pv_i (nI (n5 + 1))), none]) ⟨rfl, ⟨rfl, ⟨rfl, ⟨rfl, ⟨rfl, trivial⟩⟩⟩⟩⟩ H
    · replace H := H.2 hc
      refine go_aload_n dX0_kth_37 rfl ?_
      refine go_aload dX0_kth_38 rfl ?_
      refine go_aload_n dX0_kth_40 rfl ?_
      refine go_V (av := [pv_r (mm_r M (mm_r M (mm_r M a0 1) 0) n5), pv_r a2]) (st := []) (ci := 0) ok_X0_countAhead ⟨by decide, by decide⟩ ml_X0_150 rfl (by decide) (fun v hv => by simp only [List.mem_cons, List.not_mem_nil, or_false] at hv; rcases hv with rfl | rfl <;> first | exact pv_1i | exact pv_1r) (Nat.le_of_ble_eq_true rfl) (fun _ h => h) (by decide) rfl k8 dX0_kth_41 H (fun r M11 hq hS => ?_)
      obtain ⟨v12, rfl, H⟩ := hq
      have k13 : mm_k M11 a0 = (0, 4) := ks_S k8 (by decide) hS
      have k14 : mm_k M11 (mm_r M a0 1) = (4, 2) := ks_S k9 (by decide) hS
      have k15 : ak_ M11 (mm_r M (mm_r M a0 1) 0) 3 l2 := ak_S k10 hS
      show go_W mt_X0_kth fr_C 44 [some (pv_r a0), some (pv_i x1), some (pv_r a2), some (pv_i x3), some (pv_i x4), some (pv_r (mm_r M (mm_r M (mm_r M a0 1) 0) n5))] [pv_i v12] M11 (qr_ P)
      refine go_iload_n dX0_kth_44 rfl ?_
      refine go_icmp_ne (tgt := 51) dX0_kth_45 (by decide) (fun hc => ?_) (fun hc => ?_)
      · replace H := H.1 hc
        refine go_iincN (n := n5) (k := 1) hn5 (by decide) rfl rfl dX0_kth_51 ?_
        show go_W mt_X0_kth fr_C 54 [some (pv_r a0), some (pv_i x1), some (pv_r a2), some (pv_i x3), some (pv_i (nI (n5 + 1))), some (pv_r (mm_r M (mm_r M (mm_r M a0 1) 0) n5))] [] M11 (qr_ P)
        refine go_goto (tgt := 3) dX0_kth_54 (by decide) ?_
        exact go_fg (ls' := [some (pv_r a0), some (pv_i x1), some (pv_r a2), some (pv_i x3), some (pv_i (nI (n5 + 1))), none]) ⟨rfl, ⟨rfl, ⟨rfl, ⟨rfl, ⟨rfl, trivial⟩⟩⟩⟩⟩ H
      · replace H := H.2 hc
        refine go_aload dX0_kth_48 rfl ?_
        exact go_aret rfl (Or.inl ⟨_, rfl⟩) dX0_kth_50 ⟨_, rfl, H⟩
set_option maxRecDepth 20000 in
theorem wc_X0_countAhead_0 {M : mm_T} {a0 a1 a2 : Nat} {P : Int32 → mm_T → Prop} (K0 : mm_k M a0 = (0, 4)) (H : cw_i mt_X0_countAhead 5 [some (pv_r a0), some (pv_r a1), some (pv_r a2), some (pv_i (0 : Int32)), some (pv_i (0 : Int32)), none] [] M P) : cw_i mt_X0_countAhead 0 [some (pv_r a0), some (pv_r a1), some (pv_r a2), none, none, none] [] M P := by
  refine go_iconst (v := (0 : Int32)) rfl dX0_countAhead_0 ?_
  refine go_istore_n (by decide) dX0_countAhead_1 ?_
  show go_W mt_X0_countAhead fr_C 2 [some (pv_r a0), some (pv_r a1), some (pv_r a2), some (pv_i (0 : Int32)), none, none] [] M (qi_ P)
  refine go_iconst (v := (0 : Int32)) rfl dX0_countAhead_2 ?_
  refine go_istore (by decide) dX0_countAhead_3 ?_
  show go_W mt_X0_countAhead fr_C 5 [some (pv_r a0), some (pv_r a1), some (pv_r a2), some (pv_i (0 : Int32)), some (pv_i (0 : Int32)), none] [] M (qi_ P)
  exact H
set_option maxRecDepth 20000 in
theorem wc_X0_countAhead_5 {M : mm_T} {a0 a1 a2 : Nat} {x3 x4 : Int32} {P : Int32 → mm_T → Prop} (K0 : mm_k M a0 = (0, 4)) (H : mm_k M (mm_r M a0 1) = (4, 2) ∧ ((((mm_i M (mm_r M a0 1) 1 ≤ x4) → P x3 M) ∧ ((¬ mm_i M (mm_r M a0 1) 1 ≤ x4) → ∃ l2, ak_ M (mm_r M (mm_r M a0 1) 0) 3 l2 ∧ (∃ n5, (x4 = nI n5 ∧ n5 < l2) ∧ (mm_k M a1 = (6, 17) ∧ (cs_i mt_X0_isOf [pv_r (mm_r M (mm_r M (mm_r M a0 1) 0) n5), pv_i (mm_i M a1 7), pv_r a2] M (fun v8 M7 => (((v8 = 0) → cw_i mt_X0_countAhead 5 [some (pv_r a0), some (pv_r a1), some (pv_r a2), some (pv_i x3), some (pv_i (nI (n5 + 1))), none] [] M7 P) ∧ ((¬ v8 = 0) → cs_i mt_X0_isAhead [pv_r a0, pv_r (mm_r M (mm_r M (mm_r M a0 1) 0) n5), pv_r a1] M7 (fun v14 M13 => (((v14 = 0) → cw_i mt_X0_countAhead 5 [some (pv_r a0), some (pv_r a1), some (pv_r a2), some (pv_i x3), some (pv_i (nI (n5 + 1))), none] [] M13 P) ∧ ((¬ v14 = 0) → cw_i mt_X0_countAhead 5 [some (pv_r a0), some (pv_r a1), some (pv_r a2), some (pv_i (x3 + (1 : Int32))), some (pv_i (nI (n5 + 1))), none] [] M13 P))))))))))))) : cw_i mt_X0_countAhead 5 [some (pv_r a0), some (pv_r a1), some (pv_r a2), some (pv_i x3), some (pv_i x4), none] [] M P := by
  refine go_iload dX0_countAhead_5 rfl ?_
  refine go_aload_n dX0_countAhead_7 rfl ?_
  refine go_getR (k := 1) ⟨by decide, rfl, by decide, Or.inl ⟨_, rfl⟩⟩ K0 fl_X0_22 dX0_countAhead_8 ?_
  obtain ⟨k1, H⟩ := H
  refine go_getI (k := 1) ⟨by decide, rfl, by decide, rfl⟩ k1 fl_X0_46 dX0_countAhead_11 ?_
  refine go_icmp_ge (tgt := 61) dX0_countAhead_14 (by decide) (fun hc => ?_) (fun hc => ?_)
  · replace H := H.1 hc
    refine go_iload_n dX0_countAhead_61 rfl ?_
    exact go_iret rfl rfl dX0_countAhead_62 ⟨_, rfl, H⟩
  · replace H := H.2 hc
    refine go_aload_n dX0_countAhead_17 rfl ?_
    refine go_getR (k := 1) ⟨by decide, rfl, by decide, Or.inl ⟨_, rfl⟩⟩ K0 fl_X0_22 dX0_countAhead_18 ?_
    refine go_getR (k := 0) ⟨by decide, rfl, by decide, Or.inr ⟨_, rfl⟩⟩ k1 fl_X0_142 dX0_countAhead_21 ?_
    refine go_iload dX0_countAhead_24 rfl ?_
    obtain ⟨l2, k3, H⟩ := H
    obtain ⟨n5, ⟨hn5, hn5b⟩, H⟩ := H
    refine go_aaldA (j := n5) k3 (by decide) hn5 hn5b dX0_countAhead_26 ?_
    refine go_astore (by decide) dX0_countAhead_27 ?_
    show go_W mt_X0_countAhead fr_C 29 [some (pv_r a0), some (pv_r a1), some (pv_r a2), some (pv_i x3), some (pv_i x4), some (pv_r (mm_r M (mm_r M (mm_r M a0 1) 0) n5))] [] M (qi_ P)
    refine go_aload dX0_countAhead_29 rfl ?_
    refine go_aload_n dX0_countAhead_31 rfl ?_
    obtain ⟨k6, H⟩ := H
    refine go_getI (k := 7) ⟨by decide, rfl, by decide, rfl⟩ k6 fl_X0_77 dX0_countAhead_32 ?_
    refine go_aload_n dX0_countAhead_35 rfl ?_
    refine go_St (av := [pv_r (mm_r M (mm_r M (mm_r M a0 1) 0) n5), pv_i (mm_i M a1 7), pv_r a2]) (st := []) ok_X0_isOf ⟨by decide, by decide⟩ ml_X0_146 rfl (by decide) (fun v hv => by simp only [List.mem_cons, List.not_mem_nil, or_false] at hv; rcases hv with rfl | rfl | rfl <;> first | exact pv_1i | exact pv_1r) (Nat.le_of_ble_eq_true rfl) (fun _ h => h) dX0_countAhead_36 H (fun r M7 hq hS => ?_)
    obtain ⟨v8, rfl, H⟩ := hq
    have k9 : mm_k M7 a0 = (0, 4) := ks_S K0 (by decide) hS
    have k10 : mm_k M7 (mm_r M a0 1) = (4, 2) := ks_S k1 (by decide) hS
    have k11 : mm_k M7 a1 = (6, 17) := ks_S k6 (by decide) hS
    have k12 : ak_ M7 (mm_r M (mm_r M a0 1) 0) 3 l2 := ak_S k3 hS
    show go_W mt_X0_countAhead fr_C 39 [some (pv_r a0), some (pv_r a1), some (pv_r a2), some (pv_i x3), some (pv_i x4), some (pv_r (mm_r M (mm_r M (mm_r M a0 1) 0) n5))] [pv_i v8] M7 (qi_ P)
    refine go_if_eq (tgt := 55) dX0_countAhead_39 (by decide) (fun hc => ?_) (fun hc => ?_)
    · replace H := H.1 hc
      refine go_iincN (n := n5) (k := 1) hn5 (by decide) rfl rfl dX0_countAhead_55 ?_
      show go_W mt_X0_countAhead fr_C 58 [some (pv_r a0), some (pv_r a1), some (pv_r a2), some (pv_i x3), some (pv_i (nI (n5 + 1))), some (pv_r (mm_r M (mm_r M (mm_r M a0 1) 0) n5))] [] M7 (qi_ P)
      refine go_goto (tgt := 5) dX0_countAhead_58 (by decide) ?_
      exact go_fg (ls' := [some (pv_r a0), some (pv_r a1), some (pv_r a2), some (pv_i x3), some (pv_i (nI (n5 + 1))), none]) ⟨rfl, ⟨rfl, ⟨rfl, ⟨rfl, ⟨rfl, trivial⟩⟩⟩⟩⟩ H
    · replace H := H.2 hc
      refine go_aload_n dX0_countAhead_42 rfl ?_
      refine go_aload dX0_countAhead_43 rfl ?_
      refine go_aload_n dX0_countAhead_45 rfl ?_
      refine go_V (av := [pv_r (mm_r M (mm_r M (mm_r M a0 1) 0) n5), pv_r a1]) (st := []) (ci := 0) ok_X0_isAhead ⟨by decide, by decide⟩ ml_X0_154 rfl (by decide) (fun v hv => by simp only [List.mem_cons, List.not_mem_nil, or_false] at hv; rcases hv with rfl | rfl <;> first | exact pv_1i | exact pv_1r) (Nat.le_of_ble_eq_true rfl) (fun _ h => h) (by decide) rfl k9 dX0_countAhead_46 H (fun r M13 hq hS => ?_)
      obtain ⟨v14, rfl, H⟩ := hq
      have k15 : mm_k M13 a0 = (0, 4) := ks_S k9 (by decide) hS
      have k16 : mm_k M13 (mm_r M a0 1) = (4, 2) := ks_S k10 (by decide) hS
      have k17 : mm_k M13 a1 = (6, 17) := ks_S k11 (by decide) hS
      have k18 : ak_ M13 (mm_r M (mm_r M a0 1) 0) 3 l2 := ak_S k12 hS
      show go_W mt_X0_countAhead fr_C 49 [some (pv_r a0), some (pv_r a1), some (pv_r a2), some (pv_i x3), some (pv_i x4), some (pv_r (mm_r M (mm_r M (mm_r M a0 1) 0) n5))] [pv_i v14] M13 (qi_ P)
      refine go_if_eq (tgt := 55) dX0_countAhead_49 (by decide) (fun hc => ?_) (fun hc => ?_)
      · replace H := H.1 hc
        refine go_iincN (n := n5) (k := 1) hn5 (by decide) rfl rfl dX0_countAhead_55 ?_
        show go_W mt_X0_countAhead fr_C 58 [some (pv_r a0), some (pv_r a1), some (pv_r a2), some (pv_i x3), some (pv_i (nI (n5 + 1))), some (pv_r (mm_r M (mm_r M (mm_r M a0 1) 0) n5))] [] M13 (qi_ P)
        refine go_goto (tgt := 5) dX0_countAhead_58 (by decide) ?_
        exact go_fg (ls' := [some (pv_r a0), some (pv_r a1), some (pv_r a2), some (pv_i x3), some (pv_i (nI (n5 + 1))), none]) ⟨rfl, ⟨rfl, ⟨rfl, ⟨rfl, ⟨rfl, trivial⟩⟩⟩⟩⟩ H
      · replace H := H.2 hc
        refine go_iinc (v := (1 : Int32)) (by decide) rfl rfl dX0_countAhead_52 ?_
        show go_W mt_X0_countAhead fr_C 55 [some (pv_r a0), some (pv_r a1), some (pv_r a2), some (pv_i (x3 + (1 : Int32))), some (pv_i x4), some (pv_r (mm_r M (mm_r M (mm_r M a0 1) 0) n5))] [] M13 (qi_ P)
        refine go_iincN (n := n5) (k := 1) hn5 (by decide) rfl rfl dX0_countAhead_55 ?_
        show go_W mt_X0_countAhead fr_C 58 [some (pv_r a0), some (pv_r a1), some (pv_r a2), some (pv_i (x3 + (1 : Int32))), some (pv_i (nI (n5 + 1))), some (pv_r (mm_r M (mm_r M (mm_r M a0 1) 0) n5))] [] M13 (qi_ P)
        refine go_goto (tgt := 5) dX0_countAhead_58 (by decide) ?_
        exact go_fg (ls' := [some (pv_r a0), some (pv_r a1), some (pv_r a2), some (pv_i (x3 + (1 : Int32))), some (pv_i (nI (n5 + 1))), none]) ⟨rfl, ⟨rfl, ⟨rfl, ⟨rfl, ⟨rfl, trivial⟩⟩⟩⟩⟩ H
set_option maxRecDepth 20000 in
theorem wc_X0_withNumber_0 {M : mm_T} {a0 : Nat} {x1 : Int32} {P : Nat → mm_T → Prop} (K0 : mm_k M a0 = (0, 4)) (H : cw_r mt_X0_withNumber 2 [some (pv_r a0), some (pv_i x1), some (pv_i (0 : Int32))] [] M P) : cw_r mt_X0_withNumber 0 [some (pv_r a0), some (pv_i x1), none] [] M P := by
  refine go_iconst (v := (0 : Int32)) rfl dX0_withNumber_0 ?_
  refine go_istore_n (by decide) dX0_withNumber_1 ?_
  show go_W mt_X0_withNumber fr_C 2 [some (pv_r a0), some (pv_i x1), some (pv_i (0 : Int32))] [] M (qr_ P)
  exact H
set_option maxRecDepth 20000 in
theorem wc_X0_withNumber_2 {M : mm_T} {a0 : Nat} {x1 x2 : Int32} {P : Nat → mm_T → Prop} (K0 : mm_k M a0 = (0, 4)) (H : mm_k M (mm_r M a0 1) = (4, 2) ∧ ((((mm_i M (mm_r M a0 1) 1 ≤ x2) → P 0 M) ∧ ((¬ mm_i M (mm_r M a0 1) 1 ≤ x2) → ∃ l2, ak_ M (mm_r M (mm_r M a0 1) 0) 3 l2 ∧ (∃ n5, (x2 = nI n5 ∧ n5 < l2) ∧ (mm_k M (mm_r M (mm_r M (mm_r M a0 1) 0) n5) = (6, 17) ∧ ((((¬ mm_i M (mm_r M (mm_r M (mm_r M a0 1) 0) n5) 0 = x1) → cw_r mt_X0_withNumber 2 [some (pv_r a0), some (pv_i x1), some (pv_i (nI (n5 + 1)))] [] M P) ∧ ((mm_i M (mm_r M (mm_r M (mm_r M a0 1) 0) n5) 0 = x1) → n5 < l2 ∧ (P (mm_r M (mm_r M (mm_r M a0 1) 0) n5) M)))))))))) : cw_r mt_X0_withNumber 2 [some (pv_r a0), some (pv_i x1), some (pv_i x2)] [] M P := by
  refine go_iload_n dX0_withNumber_2 rfl ?_
  refine go_aload_n dX0_withNumber_3 rfl ?_
  refine go_getR (k := 1) ⟨by decide, rfl, by decide, Or.inl ⟨_, rfl⟩⟩ K0 fl_X0_22 dX0_withNumber_4 ?_
  obtain ⟨k1, H⟩ := H
  refine go_getI (k := 1) ⟨by decide, rfl, by decide, rfl⟩ k1 fl_X0_46 dX0_withNumber_7 ?_
  refine go_icmp_ge (tgt := 45) dX0_withNumber_10 (by decide) (fun hc => ?_) (fun hc => ?_)
  · replace H := H.1 hc
    refine go_null dX0_withNumber_45 ?_
    exact go_aret rfl (Or.inl ⟨_, rfl⟩) dX0_withNumber_46 ⟨_, rfl, H⟩
  · replace H := H.2 hc
    refine go_aload_n dX0_withNumber_13 rfl ?_
    refine go_getR (k := 1) ⟨by decide, rfl, by decide, Or.inl ⟨_, rfl⟩⟩ K0 fl_X0_22 dX0_withNumber_14 ?_
    refine go_getR (k := 0) ⟨by decide, rfl, by decide, Or.inr ⟨_, rfl⟩⟩ k1 fl_X0_142 dX0_withNumber_17 ?_
    refine go_iload_n dX0_withNumber_20 rfl ?_
    obtain ⟨l2, k3, H⟩ := H
    obtain ⟨n5, ⟨hn5, hn5b⟩, H⟩ := H
    refine go_aaldA (j := n5) k3 (by decide) hn5 hn5b dX0_withNumber_21 ?_
    obtain ⟨k6, H⟩ := H
    refine go_getI (k := 0) ⟨by decide, rfl, by decide, rfl⟩ k6 fl_X0_139 dX0_withNumber_22 ?_
    refine go_iload_n dX0_withNumber_25 rfl ?_
    refine go_icmp_ne (tgt := 39) dX0_withNumber_26 (by decide) (fun hc => ?_) (fun hc => ?_)
    · replace H := H.1 hc
      refine go_iincN (n := n5) (k := 1) hn5 (by decide) rfl rfl dX0_withNumber_39 ?_
      show go_W mt_X0_withNumber fr_C 42 [some (pv_r a0), some (pv_i x1), some (pv_i (nI (n5 + 1)))] [] M (qr_ P)
      refine go_goto (tgt := 2) dX0_withNumber_42 (by decide) ?_
      exact H
    · replace H := H.2 hc
      refine go_aload_n dX0_withNumber_29 rfl ?_
      refine go_getR (k := 1) ⟨by decide, rfl, by decide, Or.inl ⟨_, rfl⟩⟩ K0 fl_X0_22 dX0_withNumber_30 ?_
      refine go_getR (k := 0) ⟨by decide, rfl, by decide, Or.inr ⟨_, rfl⟩⟩ k1 fl_X0_142 dX0_withNumber_33 ?_
      refine go_iload_n dX0_withNumber_36 rfl ?_
      obtain ⟨hb7, H⟩ := H
      refine go_aaldA (j := n5) k3 (by decide) hn5 hb7 dX0_withNumber_37 ?_
      exact go_aret rfl (Or.inl ⟨_, rfl⟩) dX0_withNumber_38 ⟨_, rfl, H⟩
set_option maxRecDepth 20000 in
theorem wc_X0_withKey_0 {M : mm_T} {a0 : Nat} {x1 : Int32} {P : Nat → mm_T → Prop} (K0 : mm_k M a0 = (0, 4)) (H : cw_r mt_X0_withKey 2 [some (pv_r a0), some (pv_i x1), some (pv_i (0 : Int32))] [] M P) : cw_r mt_X0_withKey 0 [some (pv_r a0), some (pv_i x1), none] [] M P := by
  refine go_iconst (v := (0 : Int32)) rfl dX0_withKey_0 ?_
  refine go_istore_n (by decide) dX0_withKey_1 ?_
  show go_W mt_X0_withKey fr_C 2 [some (pv_r a0), some (pv_i x1), some (pv_i (0 : Int32))] [] M (qr_ P)
  exact H
set_option maxRecDepth 20000 in
theorem wc_X0_withKey_2 {M : mm_T} {a0 : Nat} {x1 x2 : Int32} {P : Nat → mm_T → Prop} (K0 : mm_k M a0 = (0, 4)) (H : mm_k M (mm_r M a0 1) = (4, 2) ∧ ((((mm_i M (mm_r M a0 1) 1 ≤ x2) → P 0 M) ∧ ((¬ mm_i M (mm_r M a0 1) 1 ≤ x2) → ∃ l2, ak_ M (mm_r M (mm_r M a0 1) 0) 3 l2 ∧ (∃ n5, (x2 = nI n5 ∧ n5 < l2) ∧ (mm_k M (mm_r M (mm_r M (mm_r M a0 1) 0) n5) = (6, 17) ∧ ((((¬ mm_i M (mm_r M (mm_r M (mm_r M a0 1) 0) n5) 5 = x1) → cw_r mt_X0_withKey 2 [some (pv_r a0), some (pv_i x1), some (pv_i (nI (n5 + 1)))] [] M P) ∧ ((mm_i M (mm_r M (mm_r M (mm_r M a0 1) 0) n5) 5 = x1) → n5 < l2 ∧ (P (mm_r M (mm_r M (mm_r M a0 1) 0) n5) M)))))))))) : cw_r mt_X0_withKey 2 [some (pv_r a0), some (pv_i x1), some (pv_i x2)] [] M P := by
  refine go_iload_n dX0_withKey_2 rfl ?_
  refine go_aload_n dX0_withKey_3 rfl ?_
  refine go_getR (k := 1) ⟨by decide, rfl, by decide, Or.inl ⟨_, rfl⟩⟩ K0 fl_X0_22 dX0_withKey_4 ?_
  obtain ⟨k1, H⟩ := H
  refine go_getI (k := 1) ⟨by decide, rfl, by decide, rfl⟩ k1 fl_X0_46 dX0_withKey_7 ?_
  refine go_icmp_ge (tgt := 45) dX0_withKey_10 (by decide) (fun hc => ?_) (fun hc => ?_)
  · replace H := H.1 hc
    refine go_null dX0_withKey_45 ?_
    exact go_aret rfl (Or.inl ⟨_, rfl⟩) dX0_withKey_46 ⟨_, rfl, H⟩
  · replace H := H.2 hc
    refine go_aload_n dX0_withKey_13 rfl ?_
    refine go_getR (k := 1) ⟨by decide, rfl, by decide, Or.inl ⟨_, rfl⟩⟩ K0 fl_X0_22 dX0_withKey_14 ?_
    refine go_getR (k := 0) ⟨by decide, rfl, by decide, Or.inr ⟨_, rfl⟩⟩ k1 fl_X0_142 dX0_withKey_17 ?_
    refine go_iload_n dX0_withKey_20 rfl ?_
    obtain ⟨l2, k3, H⟩ := H
    obtain ⟨n5, ⟨hn5, hn5b⟩, H⟩ := H
    refine go_aaldA (j := n5) k3 (by decide) hn5 hn5b dX0_withKey_21 ?_
    obtain ⟨k6, H⟩ := H
    refine go_getI (k := 5) ⟨by decide, rfl, by decide, rfl⟩ k6 fl_X0_158 dX0_withKey_22 ?_
    refine go_iload_n dX0_withKey_25 rfl ?_
    refine go_icmp_ne (tgt := 39) dX0_withKey_26 (by decide) (fun hc => ?_) (fun hc => ?_)
    · replace H := H.1 hc
      refine go_iincN (n := n5) (k := 1) hn5 (by decide) rfl rfl dX0_withKey_39 ?_
      show go_W mt_X0_withKey fr_C 42 [some (pv_r a0), some (pv_i x1), some (pv_i (nI (n5 + 1)))] [] M (qr_ P)
      refine go_goto (tgt := 2) dX0_withKey_42 (by decide) ?_
      exact H
    · replace H := H.2 hc
      refine go_aload_n dX0_withKey_29 rfl ?_
      refine go_getR (k := 1) ⟨by decide, rfl, by decide, Or.inl ⟨_, rfl⟩⟩ K0 fl_X0_22 dX0_withKey_30 ?_
      refine go_getR (k := 0) ⟨by decide, rfl, by decide, Or.inr ⟨_, rfl⟩⟩ k1 fl_X0_142 dX0_withKey_33 ?_
      refine go_iload_n dX0_withKey_36 rfl ?_
      obtain ⟨hb7, H⟩ := H
      refine go_aaldA (j := n5) k3 (by decide) hn5 hb7 dX0_withKey_37 ?_
      exact go_aret rfl (Or.inl ⟨_, rfl⟩) dX0_withKey_38 ⟨_, rfl, H⟩
set_option maxRecDepth 20000 in
theorem wc_X0_heldBehind_0 {M : mm_T} {a0 a1 : Nat} {P : Nat → mm_T → Prop} (K0 : mm_k M a0 = (0, 4)) (H : cw_r mt_X0_heldBehind 2 [some (pv_r a0), some (pv_r a1), some (pv_i (0 : Int32)), none] [] M P) : cw_r mt_X0_heldBehind 0 [some (pv_r a0), some (pv_r a1), none, none] [] M P := by
  refine go_iconst (v := (0 : Int32)) rfl dX0_heldBehind_0 ?_
  refine go_istore_n (by decide) dX0_heldBehind_1 ?_
  show go_W mt_X0_heldBehind fr_C 2 [some (pv_r a0), some (pv_r a1), some (pv_i (0 : Int32)), none] [] M (qr_ P)
  exact H
set_option maxRecDepth 20000 in
theorem wc_X0_heldBehind_2 {M : mm_T} {a0 a1 : Nat} {x2 : Int32} {P : Nat → mm_T → Prop} (K0 : mm_k M a0 = (0, 4)) (H : mm_k M (mm_r M a0 1) = (4, 2) ∧ ((((mm_i M (mm_r M a0 1) 1 ≤ x2) → P 0 M) ∧ ((¬ mm_i M (mm_r M a0 1) 1 ≤ x2) → ∃ l2, ak_ M (mm_r M (mm_r M a0 1) 0) 3 l2 ∧ (∃ n5, (x2 = nI n5 ∧ n5 < l2) ∧ (mm_k M (mm_r M (mm_r M (mm_r M a0 1) 0) n5) = (6, 17) ∧ ((((¬ mm_i M (mm_r M (mm_r M (mm_r M a0 1) 0) n5) 7 = (1 : Int32)) → cw_r mt_X0_heldBehind 2 [some (pv_r a0), some (pv_r a1), some (pv_i (nI (n5 + 1))), none] [] M P) ∧ ((mm_i M (mm_r M (mm_r M (mm_r M a0 1) 0) n5) 7 = (1 : Int32)) → (((mm_r M (mm_r M (mm_r M (mm_r M a0 1) 0) n5) 1 = 0) → cw_r mt_X0_heldBehind 2 [some (pv_r a0), some (pv_r a1), some (pv_i (nI (n5 + 1))), none] [] M P) ∧ ((¬ mm_r M (mm_r M (mm_r M (mm_r M a0 1) 0) n5) 1 = 0) → mm_k M (mm_r M (mm_r M (mm_r M (mm_r M a0 1) 0) n5) 1) = (6, 17) ∧ (mm_k M a1 = (6, 17) ∧ ((((¬ mm_i M (mm_r M (mm_r M (mm_r M (mm_r M a0 1) 0) n5) 1) 0 = mm_i M a1 0) → cw_r mt_X0_heldBehind 2 [some (pv_r a0), some (pv_r a1), some (pv_i (nI (n5 + 1))), none] [] M P) ∧ ((mm_i M (mm_r M (mm_r M (mm_r M (mm_r M a0 1) 0) n5) 1) 0 = mm_i M a1 0) → P (mm_r M (mm_r M (mm_r M a0 1) 0) n5) M))))))))))))))) : cw_r mt_X0_heldBehind 2 [some (pv_r a0), some (pv_r a1), some (pv_i x2), none] [] M P := by
  refine go_iload_n dX0_heldBehind_2 rfl ?_
  refine go_aload_n dX0_heldBehind_3 rfl ?_
  refine go_getR (k := 1) ⟨by decide, rfl, by decide, Or.inl ⟨_, rfl⟩⟩ K0 fl_X0_22 dX0_heldBehind_4 ?_
  obtain ⟨k1, H⟩ := H
  refine go_getI (k := 1) ⟨by decide, rfl, by decide, rfl⟩ k1 fl_X0_46 dX0_heldBehind_7 ?_
  refine go_icmp_ge (tgt := 60) dX0_heldBehind_10 (by decide) (fun hc => ?_) (fun hc => ?_)
  · replace H := H.1 hc
    refine go_null dX0_heldBehind_60 ?_
    exact go_aret rfl (Or.inl ⟨_, rfl⟩) dX0_heldBehind_61 ⟨_, rfl, H⟩
  · replace H := H.2 hc
    refine go_aload_n dX0_heldBehind_13 rfl ?_
    refine go_getR (k := 1) ⟨by decide, rfl, by decide, Or.inl ⟨_, rfl⟩⟩ K0 fl_X0_22 dX0_heldBehind_14 ?_
    refine go_getR (k := 0) ⟨by decide, rfl, by decide, Or.inr ⟨_, rfl⟩⟩ k1 fl_X0_142 dX0_heldBehind_17 ?_
    refine go_iload_n dX0_heldBehind_20 rfl ?_
    obtain ⟨l2, k3, H⟩ := H
    obtain ⟨n5, ⟨hn5, hn5b⟩, H⟩ := H
    refine go_aaldA (j := n5) k3 (by decide) hn5 hn5b dX0_heldBehind_21 ?_
    refine go_astore_n (by decide) dX0_heldBehind_22 ?_
    show go_W mt_X0_heldBehind fr_C 23 [some (pv_r a0), some (pv_r a1), some (pv_i x2), some (pv_r (mm_r M (mm_r M (mm_r M a0 1) 0) n5))] [] M (qr_ P)
    refine go_aload_n dX0_heldBehind_23 rfl ?_
    obtain ⟨k6, H⟩ := H
    refine go_getI (k := 7) ⟨by decide, rfl, by decide, rfl⟩ k6 fl_X0_77 dX0_heldBehind_24 ?_
    refine go_iconst (v := (1 : Int32)) rfl dX0_heldBehind_27 ?_
    refine go_icmp_ne (tgt := 54) dX0_heldBehind_28 (by decide) (fun hc => ?_) (fun hc => ?_)
    · replace H := H.1 hc
      refine go_iincN (n := n5) (k := 1) hn5 (by decide) rfl rfl dX0_heldBehind_54 ?_
      show go_W mt_X0_heldBehind fr_C 57 [some (pv_r a0), some (pv_r a1), some (pv_i (nI (n5 + 1))), some (pv_r (mm_r M (mm_r M (mm_r M a0 1) 0) n5))] [] M (qr_ P)
      refine go_goto (tgt := 2) dX0_heldBehind_57 (by decide) ?_
      exact go_fg (ls' := [some (pv_r a0), some (pv_r a1), some (pv_i (nI (n5 + 1))), none]) ⟨rfl, ⟨rfl, ⟨rfl, trivial⟩⟩⟩ H
    · replace H := H.2 hc
      refine go_aload_n dX0_heldBehind_31 rfl ?_
      refine go_getR (k := 1) ⟨by decide, rfl, by decide, Or.inl ⟨_, rfl⟩⟩ k6 fl_X0_96 dX0_heldBehind_32 ?_
      refine go_ifnull (tgt := 54) dX0_heldBehind_35 (by decide) (fun hc => ?_) (fun hc => ?_)
      · replace H := H.1 hc
        refine go_iincN (n := n5) (k := 1) hn5 (by decide) rfl rfl dX0_heldBehind_54 ?_
        show go_W mt_X0_heldBehind fr_C 57 [some (pv_r a0), some (pv_r a1), some (pv_i (nI (n5 + 1))), some (pv_r (mm_r M (mm_r M (mm_r M a0 1) 0) n5))] [] M (qr_ P)
        refine go_goto (tgt := 2) dX0_heldBehind_57 (by decide) ?_
        exact go_fg (ls' := [some (pv_r a0), some (pv_r a1), some (pv_i (nI (n5 + 1))), none]) ⟨rfl, ⟨rfl, ⟨rfl, trivial⟩⟩⟩ H
      · replace H := H.2 hc
        refine go_aload_n dX0_heldBehind_38 rfl ?_
        refine go_getR (k := 1) ⟨by decide, rfl, by decide, Or.inl ⟨_, rfl⟩⟩ k6 fl_X0_96 dX0_heldBehind_39 ?_
        obtain ⟨k7, H⟩ := H
        refine go_getI (k := 0) ⟨by decide, rfl, by decide, rfl⟩ k7 fl_X0_139 dX0_heldBehind_42 ?_
        refine go_aload_n dX0_heldBehind_45 rfl ?_
        obtain ⟨k8, H⟩ := H
        refine go_getI (k := 0) ⟨by decide, rfl, by decide, rfl⟩ k8 fl_X0_139 dX0_heldBehind_46 ?_
        refine go_icmp_ne (tgt := 54) dX0_heldBehind_49 (by decide) (fun hc => ?_) (fun hc => ?_)
        · replace H := H.1 hc
          refine go_iincN (n := n5) (k := 1) hn5 (by decide) rfl rfl dX0_heldBehind_54 ?_
          show go_W mt_X0_heldBehind fr_C 57 [some (pv_r a0), some (pv_r a1), some (pv_i (nI (n5 + 1))), some (pv_r (mm_r M (mm_r M (mm_r M a0 1) 0) n5))] [] M (qr_ P)
          refine go_goto (tgt := 2) dX0_heldBehind_57 (by decide) ?_
          exact go_fg (ls' := [some (pv_r a0), some (pv_r a1), some (pv_i (nI (n5 + 1))), none]) ⟨rfl, ⟨rfl, ⟨rfl, trivial⟩⟩⟩ H
        · replace H := H.2 hc
          refine go_aload_n dX0_heldBehind_52 rfl ?_
          exact go_aret rfl (Or.inl ⟨_, rfl⟩) dX0_heldBehind_53 ⟨_, rfl, H⟩
set_option maxRecDepth 20000 in
theorem wc_X0_firstEnding_0 {M : mm_T} {a0 : Nat} {x1 : Int32} {P : Nat → mm_T → Prop} (K0 : mm_k M a0 = (0, 4)) (H : cw_r mt_X0_firstEnding 2 [some (pv_r a0), some (pv_i x1), some (pv_i (0 : Int32))] [] M P) : cw_r mt_X0_firstEnding 0 [some (pv_r a0), some (pv_i x1), none] [] M P := by
  refine go_iconst (v := (0 : Int32)) rfl dX0_firstEnding_0 ?_
  refine go_istore_n (by decide) dX0_firstEnding_1 ?_
  show go_W mt_X0_firstEnding fr_C 2 [some (pv_r a0), some (pv_i x1), some (pv_i (0 : Int32))] [] M (qr_ P)
  exact H
set_option maxRecDepth 20000 in
theorem wc_X0_firstEnding_2 {M : mm_T} {a0 : Nat} {x1 x2 : Int32} {P : Nat → mm_T → Prop} (K0 : mm_k M a0 = (0, 4)) (H : mm_k M (mm_r M a0 1) = (4, 2) ∧ ((((mm_i M (mm_r M a0 1) 1 ≤ x2) → P 0 M) ∧ ((¬ mm_i M (mm_r M a0 1) 1 ≤ x2) → ∃ l2, ak_ M (mm_r M (mm_r M a0 1) 0) 3 l2 ∧ (∃ n5, (x2 = nI n5 ∧ n5 < l2) ∧ (mm_k M (mm_r M (mm_r M (mm_r M a0 1) 0) n5) = (6, 17) ∧ (cs_i mt_X6_endsBy [pv_r (mm_r M (mm_r M (mm_r M a0 1) 0) n5), pv_i x1] M (fun v8 M7 => (((v8 = 0) → cw_r mt_X0_firstEnding 2 [some (pv_r a0), some (pv_i x1), some (pv_i (nI (n5 + 1)))] [] M7 P) ∧ ((¬ v8 = 0) → mm_k M7 (mm_r M7 a0 1) = (4, 2) ∧ (∃ l14, ak_ M7 (mm_r M7 (mm_r M7 a0 1) 0) 3 l14 ∧ (n5 < l14 ∧ (P (mm_r M7 (mm_r M7 (mm_r M7 a0 1) 0) n5) M7))))))))))))) : cw_r mt_X0_firstEnding 2 [some (pv_r a0), some (pv_i x1), some (pv_i x2)] [] M P := by
  refine go_iload_n dX0_firstEnding_2 rfl ?_
  refine go_aload_n dX0_firstEnding_3 rfl ?_
  refine go_getR (k := 1) ⟨by decide, rfl, by decide, Or.inl ⟨_, rfl⟩⟩ K0 fl_X0_22 dX0_firstEnding_4 ?_
  obtain ⟨k1, H⟩ := H
  refine go_getI (k := 1) ⟨by decide, rfl, by decide, rfl⟩ k1 fl_X0_46 dX0_firstEnding_7 ?_
  refine go_icmp_ge (tgt := 45) dX0_firstEnding_10 (by decide) (fun hc => ?_) (fun hc => ?_)
  · replace H := H.1 hc
    refine go_null dX0_firstEnding_45 ?_
    exact go_aret rfl (Or.inl ⟨_, rfl⟩) dX0_firstEnding_46 ⟨_, rfl, H⟩
  · replace H := H.2 hc
    refine go_aload_n dX0_firstEnding_13 rfl ?_
    refine go_getR (k := 1) ⟨by decide, rfl, by decide, Or.inl ⟨_, rfl⟩⟩ K0 fl_X0_22 dX0_firstEnding_14 ?_
    refine go_getR (k := 0) ⟨by decide, rfl, by decide, Or.inr ⟨_, rfl⟩⟩ k1 fl_X0_142 dX0_firstEnding_17 ?_
    refine go_iload_n dX0_firstEnding_20 rfl ?_
    obtain ⟨l2, k3, H⟩ := H
    obtain ⟨n5, ⟨hn5, hn5b⟩, H⟩ := H
    refine go_aaldA (j := n5) k3 (by decide) hn5 hn5b dX0_firstEnding_21 ?_
    refine go_iload_n dX0_firstEnding_22 rfl ?_
    obtain ⟨k6, H⟩ := H
    refine go_V (av := [pv_i x1]) (st := []) (ci := 6) ok_X6_endsBy ⟨by decide, by decide⟩ ml_X0_161 rfl (by decide) (fun v hv => by simp only [List.mem_cons, List.not_mem_nil, or_false] at hv; rcases hv with rfl <;> first | exact pv_1i | exact pv_1r) (Nat.le_of_ble_eq_true rfl) (fun _ h => h) (by decide) rfl k6 dX0_firstEnding_23 H (fun r M7 hq hS => ?_)
    obtain ⟨v8, rfl, H⟩ := hq
    have k9 : mm_k M7 a0 = (0, 4) := ks_S K0 (by decide) hS
    have k10 : mm_k M7 (mm_r M a0 1) = (4, 2) := ks_S k1 (by decide) hS
    have k11 : mm_k M7 (mm_r M (mm_r M (mm_r M a0 1) 0) n5) = (6, 17) := ks_S k6 (by decide) hS
    have k12 : ak_ M7 (mm_r M (mm_r M a0 1) 0) 3 l2 := ak_S k3 hS
    show go_W mt_X0_firstEnding fr_C 26 [some (pv_r a0), some (pv_i x1), some (pv_i x2)] [pv_i v8] M7 (qr_ P)
    refine go_if_eq (tgt := 39) dX0_firstEnding_26 (by decide) (fun hc => ?_) (fun hc => ?_)
    · replace H := H.1 hc
      refine go_iincN (n := n5) (k := 1) hn5 (by decide) rfl rfl dX0_firstEnding_39 ?_
      show go_W mt_X0_firstEnding fr_C 42 [some (pv_r a0), some (pv_i x1), some (pv_i (nI (n5 + 1)))] [] M7 (qr_ P)
      refine go_goto (tgt := 2) dX0_firstEnding_42 (by decide) ?_
      exact H
    · replace H := H.2 hc
      refine go_aload_n dX0_firstEnding_29 rfl ?_
      refine go_getR (k := 1) ⟨by decide, rfl, by decide, Or.inl ⟨_, rfl⟩⟩ k9 fl_X0_22 dX0_firstEnding_30 ?_
      obtain ⟨k13, H⟩ := H
      refine go_getR (k := 0) ⟨by decide, rfl, by decide, Or.inr ⟨_, rfl⟩⟩ k13 fl_X0_142 dX0_firstEnding_33 ?_
      refine go_iload_n dX0_firstEnding_36 rfl ?_
      obtain ⟨l14, k15, H⟩ := H
      obtain ⟨hb16, H⟩ := H
      refine go_aaldA (j := n5) k15 (by decide) hn5 hb16 dX0_firstEnding_37 ?_
      exact go_aret rfl (Or.inl ⟨_, rfl⟩) dX0_firstEnding_38 ⟨_, rfl, H⟩
set_option maxRecDepth 20000 in
theorem wc_X0_firstDue_0 {M : mm_T} {a0 : Nat} {x1 : Int32} {P : Nat → mm_T → Prop} (K0 : mm_k M a0 = (0, 4)) (H : cs_r mt_X0_least [pv_r a0, pv_i (2 : Int32), pv_r 0] M (fun v2 M1 => (((v2 = 0) → P 0 M1) ∧ ((¬ v2 = 0) → mm_k M1 v2 = (6, 17) ∧ (cs_i mt_X6_dueBy [pv_r v2, pv_i x1] M1 (fun v6 M5 => (((v6 = 0) → P 0 M5) ∧ ((¬ v6 = 0) → P v2 M5)))))))) : cw_r mt_X0_firstDue 0 [some (pv_r a0), some (pv_i x1), none] [] M P := by
  refine go_aload_n dX0_firstDue_0 rfl ?_
  refine go_iconst (v := (2 : Int32)) rfl dX0_firstDue_1 ?_
  refine go_null dX0_firstDue_2 ?_
  refine go_V (av := [pv_i (2 : Int32), pv_r 0]) (st := []) (ci := 0) ok_X0_least ⟨by decide, by decide⟩ ml_X0_117 rfl (by decide) (fun v hv => by simp only [List.mem_cons, List.not_mem_nil, or_false] at hv; rcases hv with rfl | rfl <;> first | exact pv_1i | exact pv_1r) (Nat.le_of_ble_eq_true rfl) (fun _ h => h) (by decide) rfl K0 dX0_firstDue_3 H (fun r M1 hq hS => ?_)
  obtain ⟨v2, rfl, H⟩ := hq
  have k3 : mm_k M1 a0 = (0, 4) := ks_S K0 (by decide) hS
  show go_W mt_X0_firstDue fr_C 6 [some (pv_r a0), some (pv_i x1), none] [pv_r v2] M1 (qr_ P)
  refine go_astore_n (by decide) dX0_firstDue_6 ?_
  show go_W mt_X0_firstDue fr_C 7 [some (pv_r a0), some (pv_i x1), some (pv_r v2)] [] M1 (qr_ P)
  refine go_aload_n dX0_firstDue_7 rfl ?_
  refine go_ifnull (tgt := 23) dX0_firstDue_8 (by decide) (fun hc => ?_) (fun hc => ?_)
  · replace H := H.1 hc
    refine go_null dX0_firstDue_23 ?_
    exact go_aret rfl (Or.inl ⟨_, rfl⟩) dX0_firstDue_24 ⟨_, rfl, H⟩
  · replace H := H.2 hc
    refine go_aload_n dX0_firstDue_11 rfl ?_
    refine go_iload_n dX0_firstDue_12 rfl ?_
    obtain ⟨k4, H⟩ := H
    refine go_V (av := [pv_i x1]) (st := []) (ci := 6) ok_X6_dueBy ⟨by decide, by decide⟩ ml_X0_165 rfl (by decide) (fun v hv => by simp only [List.mem_cons, List.not_mem_nil, or_false] at hv; rcases hv with rfl <;> first | exact pv_1i | exact pv_1r) (Nat.le_of_ble_eq_true rfl) (fun _ h => h) (by decide) rfl k4 dX0_firstDue_13 H (fun r M5 hq hS => ?_)
    obtain ⟨v6, rfl, H⟩ := hq
    have k7 : mm_k M5 a0 = (0, 4) := ks_S k3 (by decide) hS
    have k8 : mm_k M5 v2 = (6, 17) := ks_S k4 (by decide) hS
    show go_W mt_X0_firstDue fr_C 16 [some (pv_r a0), some (pv_i x1), some (pv_r v2)] [pv_i v6] M5 (qr_ P)
    refine go_if_eq (tgt := 23) dX0_firstDue_16 (by decide) (fun hc => ?_) (fun hc => ?_)
    · replace H := H.1 hc
      refine go_null dX0_firstDue_23 ?_
      exact go_aret rfl (Or.inl ⟨_, rfl⟩) dX0_firstDue_24 ⟨_, rfl, H⟩
    · replace H := H.2 hc
      refine go_aload_n dX0_firstDue_19 rfl ?_
      refine go_goto (tgt := 24) dX0_firstDue_20 (by decide) ?_
      exact go_aret rfl (Or.inl ⟨_, rfl⟩) dX0_firstDue_24 ⟨_, rfl, H⟩
set_option maxRecDepth 20000 in
theorem wc_X0_longestWaiting_0 {M : mm_T} {a0 a1 : Nat} {P : Nat → mm_T → Prop} (K0 : mm_k M a0 = (0, 4)) (H : cw_r mt_X0_longestWaiting 4 [some (pv_r a0), some (pv_r a1), some (pv_r 0), some (pv_i (0 : Int32)), none] [] M P) : cw_r mt_X0_longestWaiting 0 [some (pv_r a0), some (pv_r a1), none, none, none] [] M P := by
  refine go_null dX0_longestWaiting_0 ?_
  refine go_astore_n (by decide) dX0_longestWaiting_1 ?_
  show go_W mt_X0_longestWaiting fr_C 2 [some (pv_r a0), some (pv_r a1), some (pv_r 0), none, none] [] M (qr_ P)
  refine go_iconst (v := (0 : Int32)) rfl dX0_longestWaiting_2 ?_
  refine go_istore_n (by decide) dX0_longestWaiting_3 ?_
  show go_W mt_X0_longestWaiting fr_C 4 [some (pv_r a0), some (pv_r a1), some (pv_r 0), some (pv_i (0 : Int32)), none] [] M (qr_ P)
  exact H
set_option maxRecDepth 20000 in
theorem wc_X0_longestWaiting_4 {M : mm_T} {a0 a1 a2 : Nat} {x3 : Int32} {P : Nat → mm_T → Prop} (K0 : mm_k M a0 = (0, 4)) (H : mm_k M (mm_r M a0 1) = (4, 2) ∧ ((((mm_i M (mm_r M a0 1) 1 ≤ x3) → P a2 M) ∧ ((¬ mm_i M (mm_r M a0 1) 1 ≤ x3) → ∃ l2, ak_ M (mm_r M (mm_r M a0 1) 0) 3 l2 ∧ (∃ n5, (x3 = nI n5 ∧ n5 < l2) ∧ (cs_i mt_X0_isOf [pv_r (mm_r M (mm_r M (mm_r M a0 1) 0) n5), pv_i (0 : Int32), pv_r a1] M (fun v7 M6 => (((v7 = 0) → cw_r mt_X0_longestWaiting 4 [some (pv_r a0), some (pv_r a1), some (pv_r a2), some (pv_i (nI (n5 + 1))), none] [] M6 P) ∧ ((¬ v7 = 0) → (((a2 = 0) → cw_r mt_X0_longestWaiting 4 [some (pv_r a0), some (pv_r a1), some (pv_r (mm_r M (mm_r M (mm_r M a0 1) 0) n5)), some (pv_i (nI (n5 + 1))), none] [] M6 P) ∧ ((¬ a2 = 0) → mm_k M6 (mm_r M (mm_r M (mm_r M a0 1) 0) n5) = (6, 17) ∧ (mm_k M6 a2 = (6, 17) ∧ ((((mm_i M6 a2 6 ≤ mm_i M6 (mm_r M (mm_r M (mm_r M a0 1) 0) n5) 6) → cw_r mt_X0_longestWaiting 4 [some (pv_r a0), some (pv_r a1), some (pv_r a2), some (pv_i (nI (n5 + 1))), none] [] M6 P) ∧ ((¬ mm_i M6 a2 6 ≤ mm_i M6 (mm_r M (mm_r M (mm_r M a0 1) 0) n5) 6) → cw_r mt_X0_longestWaiting 4 [some (pv_r a0), some (pv_r a1), some (pv_r (mm_r M (mm_r M (mm_r M a0 1) 0) n5)), some (pv_i (nI (n5 + 1))), none] [] M6 P))))))))))))))) : cw_r mt_X0_longestWaiting 4 [some (pv_r a0), some (pv_r a1), some (pv_r a2), some (pv_i x3), none] [] M P := by
  refine go_iload_n dX0_longestWaiting_4 rfl ?_
  refine go_aload_n dX0_longestWaiting_5 rfl ?_
  refine go_getR (k := 1) ⟨by decide, rfl, by decide, Or.inl ⟨_, rfl⟩⟩ K0 fl_X0_22 dX0_longestWaiting_6 ?_
  obtain ⟨k1, H⟩ := H
  refine go_getI (k := 1) ⟨by decide, rfl, by decide, rfl⟩ k1 fl_X0_46 dX0_longestWaiting_9 ?_
  refine go_icmp_ge (tgt := 61) dX0_longestWaiting_12 (by decide) (fun hc => ?_) (fun hc => ?_)
  · replace H := H.1 hc
    refine go_aload_n dX0_longestWaiting_61 rfl ?_
    exact go_aret rfl (Or.inl ⟨_, rfl⟩) dX0_longestWaiting_62 ⟨_, rfl, H⟩
  · replace H := H.2 hc
    refine go_aload_n dX0_longestWaiting_15 rfl ?_
    refine go_getR (k := 1) ⟨by decide, rfl, by decide, Or.inl ⟨_, rfl⟩⟩ K0 fl_X0_22 dX0_longestWaiting_16 ?_
    refine go_getR (k := 0) ⟨by decide, rfl, by decide, Or.inr ⟨_, rfl⟩⟩ k1 fl_X0_142 dX0_longestWaiting_19 ?_
    refine go_iload_n dX0_longestWaiting_22 rfl ?_
    obtain ⟨l2, k3, H⟩ := H
    obtain ⟨n5, ⟨hn5, hn5b⟩, H⟩ := H
    refine go_aaldA (j := n5) k3 (by decide) hn5 hn5b dX0_longestWaiting_23 ?_
    refine go_astore (by decide) dX0_longestWaiting_24 ?_
    show go_W mt_X0_longestWaiting fr_C 26 [some (pv_r a0), some (pv_r a1), some (pv_r a2), some (pv_i x3), some (pv_r (mm_r M (mm_r M (mm_r M a0 1) 0) n5))] [] M (qr_ P)
    refine go_aload dX0_longestWaiting_26 rfl ?_
    refine go_iconst (v := (0 : Int32)) rfl dX0_longestWaiting_28 ?_
    refine go_aload_n dX0_longestWaiting_29 rfl ?_
    refine go_St (av := [pv_r (mm_r M (mm_r M (mm_r M a0 1) 0) n5), pv_i (0 : Int32), pv_r a1]) (st := []) ok_X0_isOf ⟨by decide, by decide⟩ ml_X0_146 rfl (by decide) (fun v hv => by simp only [List.mem_cons, List.not_mem_nil, or_false] at hv; rcases hv with rfl | rfl | rfl <;> first | exact pv_1i | exact pv_1r) (Nat.le_of_ble_eq_true rfl) (fun _ h => h) dX0_longestWaiting_30 H (fun r M6 hq hS => ?_)
    obtain ⟨v7, rfl, H⟩ := hq
    have k8 : mm_k M6 a0 = (0, 4) := ks_S K0 (by decide) hS
    have k9 : mm_k M6 (mm_r M a0 1) = (4, 2) := ks_S k1 (by decide) hS
    have k10 : ak_ M6 (mm_r M (mm_r M a0 1) 0) 3 l2 := ak_S k3 hS
    show go_W mt_X0_longestWaiting fr_C 33 [some (pv_r a0), some (pv_r a1), some (pv_r a2), some (pv_i x3), some (pv_r (mm_r M (mm_r M (mm_r M a0 1) 0) n5))] [pv_i v7] M6 (qr_ P)
    refine go_if_eq (tgt := 55) dX0_longestWaiting_33 (by decide) (fun hc => ?_) (fun hc => ?_)
    · replace H := H.1 hc
      refine go_iincN (n := n5) (k := 1) hn5 (by decide) rfl rfl dX0_longestWaiting_55 ?_
      show go_W mt_X0_longestWaiting fr_C 58 [some (pv_r a0), some (pv_r a1), some (pv_r a2), some (pv_i (nI (n5 + 1))), some (pv_r (mm_r M (mm_r M (mm_r M a0 1) 0) n5))] [] M6 (qr_ P)
      refine go_goto (tgt := 4) dX0_longestWaiting_58 (by decide) ?_
      exact go_fg (ls' := [some (pv_r a0), some (pv_r a1), some (pv_r a2), some (pv_i (nI (n5 + 1))), none]) ⟨rfl, ⟨rfl, ⟨rfl, ⟨rfl, trivial⟩⟩⟩⟩ H
    · replace H := H.2 hc
      refine go_aload_n dX0_longestWaiting_36 rfl ?_
      refine go_ifnull (tgt := 52) dX0_longestWaiting_37 (by decide) (fun hc => ?_) (fun hc => ?_)
      · replace H := H.1 hc
        refine go_aload dX0_longestWaiting_52 rfl ?_
        refine go_astore_n (by decide) dX0_longestWaiting_54 ?_
        show go_W mt_X0_longestWaiting fr_C 55 [some (pv_r a0), some (pv_r a1), some (pv_r (mm_r M (mm_r M (mm_r M a0 1) 0) n5)), some (pv_i x3), some (pv_r (mm_r M (mm_r M (mm_r M a0 1) 0) n5))] [] M6 (qr_ P)
        refine go_iincN (n := n5) (k := 1) hn5 (by decide) rfl rfl dX0_longestWaiting_55 ?_
        show go_W mt_X0_longestWaiting fr_C 58 [some (pv_r a0), some (pv_r a1), some (pv_r (mm_r M (mm_r M (mm_r M a0 1) 0) n5)), some (pv_i (nI (n5 + 1))), some (pv_r (mm_r M (mm_r M (mm_r M a0 1) 0) n5))] [] M6 (qr_ P)
        refine go_goto (tgt := 4) dX0_longestWaiting_58 (by decide) ?_
        exact go_fg (ls' := [some (pv_r a0), some (pv_r a1), some (pv_r (mm_r M (mm_r M (mm_r M a0 1) 0) n5)), some (pv_i (nI (n5 + 1))), none]) ⟨rfl, ⟨rfl, ⟨rfl, ⟨rfl, trivial⟩⟩⟩⟩ H
      · replace H := H.2 hc
        refine go_aload dX0_longestWaiting_40 rfl ?_
        obtain ⟨k11, H⟩ := H
        refine go_getI (k := 6) ⟨by decide, rfl, by decide, rfl⟩ k11 fl_X0_168 dX0_longestWaiting_42 ?_
        refine go_aload_n dX0_longestWaiting_45 rfl ?_
        obtain ⟨k12, H⟩ := H
        refine go_getI (k := 6) ⟨by decide, rfl, by decide, rfl⟩ k12 fl_X0_168 dX0_longestWaiting_46 ?_
        refine go_icmp_ge (tgt := 55) dX0_longestWaiting_49 (by decide) (fun hc => ?_) (fun hc => ?_)
        · replace H := H.1 hc
          refine go_iincN (n := n5) (k := 1) hn5 (by decide) rfl rfl dX0_longestWaiting_55 ?_
          show go_W mt_X0_longestWaiting fr_C 58 [some (pv_r a0), some (pv_r a1), some (pv_r a2), some (pv_i (nI (n5 + 1))), some (pv_r (mm_r M (mm_r M (mm_r M a0 1) 0) n5))] [] M6 (qr_ P)
          refine go_goto (tgt := 4) dX0_longestWaiting_58 (by decide) ?_
          exact go_fg (ls' := [some (pv_r a0), some (pv_r a1), some (pv_r a2), some (pv_i (nI (n5 + 1))), none]) ⟨rfl, ⟨rfl, ⟨rfl, ⟨rfl, trivial⟩⟩⟩⟩ H
        · replace H := H.2 hc
          refine go_aload dX0_longestWaiting_52 rfl ?_
          refine go_astore_n (by decide) dX0_longestWaiting_54 ?_
          show go_W mt_X0_longestWaiting fr_C 55 [some (pv_r a0), some (pv_r a1), some (pv_r (mm_r M (mm_r M (mm_r M a0 1) 0) n5)), some (pv_i x3), some (pv_r (mm_r M (mm_r M (mm_r M a0 1) 0) n5))] [] M6 (qr_ P)
          refine go_iincN (n := n5) (k := 1) hn5 (by decide) rfl rfl dX0_longestWaiting_55 ?_
          show go_W mt_X0_longestWaiting fr_C 58 [some (pv_r a0), some (pv_r a1), some (pv_r (mm_r M (mm_r M (mm_r M a0 1) 0) n5)), some (pv_i (nI (n5 + 1))), some (pv_r (mm_r M (mm_r M (mm_r M a0 1) 0) n5))] [] M6 (qr_ P)
          refine go_goto (tgt := 4) dX0_longestWaiting_58 (by decide) ?_
          exact go_fg (ls' := [some (pv_r a0), some (pv_r a1), some (pv_r (mm_r M (mm_r M (mm_r M a0 1) 0) n5)), some (pv_i (nI (n5 + 1))), none]) ⟨rfl, ⟨rfl, ⟨rfl, ⟨rfl, trivial⟩⟩⟩⟩ H
set_option maxRecDepth 20000 in
theorem wc_X0_waitingSizes_0 {M : mm_T} {a0 a1 : Nat} {P : Int32 → mm_T → Prop} (K0 : mm_k M a0 = (0, 4)) (H : cw_i mt_X0_waitingSizes 4 [some (pv_r a0), some (pv_r a1), some (pv_i (0 : Int32)), some (pv_i (0 : Int32))] [] M P) : cw_i mt_X0_waitingSizes 0 [some (pv_r a0), some (pv_r a1), none, none] [] M P := by
  refine go_iconst (v := (0 : Int32)) rfl dX0_waitingSizes_0 ?_
  refine go_istore_n (by decide) dX0_waitingSizes_1 ?_
  show go_W mt_X0_waitingSizes fr_C 2 [some (pv_r a0), some (pv_r a1), some (pv_i (0 : Int32)), none] [] M (qi_ P)
  refine go_iconst (v := (0 : Int32)) rfl dX0_waitingSizes_2 ?_
  refine go_istore_n (by decide) dX0_waitingSizes_3 ?_
  show go_W mt_X0_waitingSizes fr_C 4 [some (pv_r a0), some (pv_r a1), some (pv_i (0 : Int32)), some (pv_i (0 : Int32))] [] M (qi_ P)
  exact H
set_option maxRecDepth 20000 in
theorem wc_X0_waitingSizes_4 {M : mm_T} {a0 a1 : Nat} {x2 x3 : Int32} {P : Int32 → mm_T → Prop} (K0 : mm_k M a0 = (0, 4)) (H : mm_k M (mm_r M a0 1) = (4, 2) ∧ ((((mm_i M (mm_r M a0 1) 1 ≤ x3) → P x2 M) ∧ ((¬ mm_i M (mm_r M a0 1) 1 ≤ x3) → ∃ l2, ak_ M (mm_r M (mm_r M a0 1) 0) 3 l2 ∧ (∃ n5, (x3 = nI n5 ∧ n5 < l2) ∧ (cs_i mt_X0_isOf [pv_r (mm_r M (mm_r M (mm_r M a0 1) 0) n5), pv_i (0 : Int32), pv_r a1] M (fun v7 M6 => (((v7 = 0) → cw_i mt_X0_waitingSizes 4 [some (pv_r a0), some (pv_r a1), some (pv_i x2), some (pv_i (nI (n5 + 1)))] [] M6 P) ∧ ((¬ v7 = 0) → mm_k M6 (mm_r M6 a0 1) = (4, 2) ∧ (∃ l12, ak_ M6 (mm_r M6 (mm_r M6 a0 1) 0) 3 l12 ∧ (n5 < l12 ∧ (mm_k M6 (mm_r M6 (mm_r M6 (mm_r M6 a0 1) 0) n5) = (6, 17) ∧ (cw_i mt_X0_waitingSizes 4 [some (pv_r a0), some (pv_r a1), some (pv_i (x2 + mm_i M6 (mm_r M6 (mm_r M6 (mm_r M6 a0 1) 0) n5) 4)), some (pv_i (nI (n5 + 1)))] [] M6 P))))))))))))) : cw_i mt_X0_waitingSizes 4 [some (pv_r a0), some (pv_r a1), some (pv_i x2), some (pv_i x3)] [] M P := by
  refine go_iload_n dX0_waitingSizes_4 rfl ?_
  refine go_aload_n dX0_waitingSizes_5 rfl ?_
  refine go_getR (k := 1) ⟨by decide, rfl, by decide, Or.inl ⟨_, rfl⟩⟩ K0 fl_X0_22 dX0_waitingSizes_6 ?_
  obtain ⟨k1, H⟩ := H
  refine go_getI (k := 1) ⟨by decide, rfl, by decide, rfl⟩ k1 fl_X0_46 dX0_waitingSizes_9 ?_
  refine go_icmp_ge (tgt := 53) dX0_waitingSizes_12 (by decide) (fun hc => ?_) (fun hc => ?_)
  · replace H := H.1 hc
    refine go_iload_n dX0_waitingSizes_53 rfl ?_
    exact go_iret rfl rfl dX0_waitingSizes_54 ⟨_, rfl, H⟩
  · replace H := H.2 hc
    refine go_aload_n dX0_waitingSizes_15 rfl ?_
    refine go_getR (k := 1) ⟨by decide, rfl, by decide, Or.inl ⟨_, rfl⟩⟩ K0 fl_X0_22 dX0_waitingSizes_16 ?_
    refine go_getR (k := 0) ⟨by decide, rfl, by decide, Or.inr ⟨_, rfl⟩⟩ k1 fl_X0_142 dX0_waitingSizes_19 ?_
    refine go_iload_n dX0_waitingSizes_22 rfl ?_
    obtain ⟨l2, k3, H⟩ := H
    obtain ⟨n5, ⟨hn5, hn5b⟩, H⟩ := H
    refine go_aaldA (j := n5) k3 (by decide) hn5 hn5b dX0_waitingSizes_23 ?_
    refine go_iconst (v := (0 : Int32)) rfl dX0_waitingSizes_24 ?_
    refine go_aload_n dX0_waitingSizes_25 rfl ?_
    refine go_St (av := [pv_r (mm_r M (mm_r M (mm_r M a0 1) 0) n5), pv_i (0 : Int32), pv_r a1]) (st := []) ok_X0_isOf ⟨by decide, by decide⟩ ml_X0_146 rfl (by decide) (fun v hv => by simp only [List.mem_cons, List.not_mem_nil, or_false] at hv; rcases hv with rfl | rfl | rfl <;> first | exact pv_1i | exact pv_1r) (Nat.le_of_ble_eq_true rfl) (fun _ h => h) dX0_waitingSizes_26 H (fun r M6 hq hS => ?_)
    obtain ⟨v7, rfl, H⟩ := hq
    have k8 : mm_k M6 a0 = (0, 4) := ks_S K0 (by decide) hS
    have k9 : mm_k M6 (mm_r M a0 1) = (4, 2) := ks_S k1 (by decide) hS
    have k10 : ak_ M6 (mm_r M (mm_r M a0 1) 0) 3 l2 := ak_S k3 hS
    show go_W mt_X0_waitingSizes fr_C 29 [some (pv_r a0), some (pv_r a1), some (pv_i x2), some (pv_i x3)] [pv_i v7] M6 (qi_ P)
    refine go_if_eq (tgt := 47) dX0_waitingSizes_29 (by decide) (fun hc => ?_) (fun hc => ?_)
    · replace H := H.1 hc
      refine go_iincN (n := n5) (k := 1) hn5 (by decide) rfl rfl dX0_waitingSizes_47 ?_
      show go_W mt_X0_waitingSizes fr_C 50 [some (pv_r a0), some (pv_r a1), some (pv_i x2), some (pv_i (nI (n5 + 1)))] [] M6 (qi_ P)
      refine go_goto (tgt := 4) dX0_waitingSizes_50 (by decide) ?_
      exact H
    · replace H := H.2 hc
      refine go_iload_n dX0_waitingSizes_32 rfl ?_
      refine go_aload_n dX0_waitingSizes_33 rfl ?_
      refine go_getR (k := 1) ⟨by decide, rfl, by decide, Or.inl ⟨_, rfl⟩⟩ k8 fl_X0_22 dX0_waitingSizes_34 ?_
      obtain ⟨k11, H⟩ := H
      refine go_getR (k := 0) ⟨by decide, rfl, by decide, Or.inr ⟨_, rfl⟩⟩ k11 fl_X0_142 dX0_waitingSizes_37 ?_
      refine go_iload_n dX0_waitingSizes_40 rfl ?_
      obtain ⟨l12, k13, H⟩ := H
      obtain ⟨hb14, H⟩ := H
      refine go_aaldA (j := n5) k13 (by decide) hn5 hb14 dX0_waitingSizes_41 ?_
      obtain ⟨k15, H⟩ := H
      refine go_getI (k := 4) ⟨by decide, rfl, by decide, rfl⟩ k15 fl_X0_121 dX0_waitingSizes_42 ?_
      refine go_iadd dX0_waitingSizes_45 ?_
      refine go_istore_n (by decide) dX0_waitingSizes_46 ?_
      show go_W mt_X0_waitingSizes fr_C 47 [some (pv_r a0), some (pv_r a1), some (pv_i (x2 + mm_i M6 (mm_r M6 (mm_r M6 (mm_r M6 a0 1) 0) n5) 4)), some (pv_i x3)] [] M6 (qi_ P)
      refine go_iincN (n := n5) (k := 1) hn5 (by decide) rfl rfl dX0_waitingSizes_47 ?_
      show go_W mt_X0_waitingSizes fr_C 50 [some (pv_r a0), some (pv_r a1), some (pv_i (x2 + mm_i M6 (mm_r M6 (mm_r M6 (mm_r M6 a0 1) 0) n5) 4)), some (pv_i (nI (n5 + 1)))] [] M6 (qi_ P)
      refine go_goto (tgt := 4) dX0_waitingSizes_50 (by decide) ?_
      exact H
set_option maxRecDepth 20000 in
theorem wc_X1_init_0 {M : mm_T} {a0 : Nat} {P : mm_T → Prop} (K0 : mm_k M a0 = (1, 3)) (H : (mm_n M + 1 ≤ nb_ ∧ mm_t M (mm_n M) + 384 ≤ sb_) ∧ (∀ M1, M1 = mm_w M 21 384 → ∀ M4, M4 = mm_pr M1 a0 0 (mm_n M) → P M4)) : cw_v mt_X1_init 0 [some (pv_r a0)] [] M P := by
  refine go_aload_n dX1_init_0 rfl ?_
  refine go_objInitK (by decide) K0 (Nat.le_of_ble_eq_true rfl) ⟨by decide, by decide⟩ ml_X1_3 im_J_Object_init cd_J_Object_init dX1_init_1 ?_
  refine go_aload_n dX1_init_4 rfl ?_
  refine go_sipush (v := (384 : Int32)) rfl dX1_init_5 ?_
  obtain ⟨hr, H⟩ := H
  refine go_newIA 21 ⟨by decide, by decide⟩ rfl (by decide) ac_int hr.1 hr.2 dX1_init_8 ?_
  show go_W mt_X1_init fr_C 10 [some (pv_r a0)] [pv_r (mm_n M), pv_r a0] (mm_w M 21 384) (qv_ P)
  obtain ⟨M1, hM1⟩ : ∃ M', M' = mm_w M 21 384 := ⟨_, rfl⟩
  have k2 : mm_k M1 a0 = (1, 3) := (by rw [hM1]; exact ks_S K0 (by decide) (mm_S_w (fr := fr_C)))
  have k3 : ak_ M1 (mm_n M) 0 384 := by rw [hM1]; exact ⟨_, mm_k_w, by decide, by decide, by omega, rfl⟩
  rw [← hM1]
  replace H := H M1 hM1
  refine go_putR (k := 0) ⟨by decide, rfl, by decide, Or.inr ⟨_, rfl⟩⟩ k2 rfl (Or.inr ⟨rfl, rfl⟩) fl_X1_11 dX1_init_10 ?_
  show go_W mt_X1_init fr_C 13 [some (pv_r a0)] [] (mm_pr M1 a0 0 (mm_n M)) (qv_ P)
  obtain ⟨M4, hM4⟩ : ∃ M', M' = mm_pr M1 a0 0 (mm_n M) := ⟨_, rfl⟩
  have k5 : mm_k M4 a0 = (1, 3) := (by rw [hM4]; exact k2)
  have k6 : ak_ M4 (mm_n M) 0 384 := (by rw [hM4]; exact k3)
  rw [← hM4]
  replace H := H M4 hM4
  exact go_vret rfl dX1_init_13 ⟨rfl, H⟩
set_option maxRecDepth 20000 in
theorem wc_X1_write_0 {M : mm_T} {a0 a3 : Nat} {x1 x2 x4 x5 : Int32} {P : mm_T → Prop} (K0 : mm_k M a0 = (1, 3)) (H : ∃ l1, ak_ M (mm_r M a0 0) 0 l1 ∧ (∃ n4, ((mm_i M a0 1 * (6 : Int32)) = nI n4 ∧ n4 < l1) ∧ (∀ M5, M5 = mm_pi M (mm_r M a0 0) n4 x1 → ∃ l8, ak_ M5 (mm_r M5 a0 0) 0 l8 ∧ ((n4 + 1) < l8 ∧ (∀ M11, M11 = mm_pi M5 (mm_r M5 a0 0) (n4 + 1) x2 → mm_k M11 a3 = (6, 17) ∧ (∃ l16, ak_ M11 (mm_r M11 a0 0) 0 l16 ∧ ((n4 + 2) < l16 ∧ (∀ M19, M19 = mm_pi M11 (mm_r M11 a0 0) (n4 + 2) (mm_i M11 a3 0) → mm_k M19 (mm_r M19 a3 2) = (3, 14) ∧ (∃ l26, ak_ M19 (mm_r M19 a0 0) 0 l26 ∧ ((n4 + 3) < l26 ∧ (∀ M29, M29 = mm_pi M19 (mm_r M19 a0 0) (n4 + 3) (mm_i M19 (mm_r M19 a3 2) 0) → ∃ l37, ak_ M29 (mm_r M29 a0 0) 0 l37 ∧ ((n4 + 4) < l37 ∧ (∀ M40, M40 = mm_pi M29 (mm_r M29 a0 0) (n4 + 4) x4 → ∃ l49, ak_ M40 (mm_r M40 a0 0) 0 l49 ∧ ((n4 + 5) < l49 ∧ (∀ M52, M52 = mm_pi M40 (mm_r M40 a0 0) (n4 + 5) x5 → ((((64 : Int32) ≤ (mm_i M52 a0 1 + (1 : Int32))) → ∀ M62, M62 = mm_pi M52 a0 1 (0 : Int32) → ∀ M72, M72 = mm_pi M62 a0 2 (if (64 : Int32) < (mm_i M62 a0 2 + (1 : Int32)) then (64 : Int32) else (mm_i M62 a0 2 + (1 : Int32))) → P M72) ∧ ((¬ (64 : Int32) ≤ (mm_i M52 a0 1 + (1 : Int32))) → ∀ M82, M82 = mm_pi M52 a0 1 (mm_i M52 a0 1 + (1 : Int32)) → ∀ M92, M92 = mm_pi M82 a0 2 (if (64 : Int32) < (mm_i M82 a0 2 + (1 : Int32)) then (64 : Int32) else (mm_i M82 a0 2 + (1 : Int32))) → P M92))))))))))))))))) : cw_v mt_X1_write 0 [some (pv_r a0), some (pv_i x1), some (pv_i x2), some (pv_r a3), some (pv_i x4), some (pv_i x5), none] [] M P := by
  refine go_aload_n dX1_write_0 rfl ?_
  refine go_getI (k := 1) ⟨by decide, rfl, by decide, rfl⟩ K0 fl_X1_15 dX1_write_1 ?_
  refine go_bipush (v := (6 : Int32)) rfl dX1_write_4 ?_
  refine go_imul dX1_write_6 ?_
  refine go_istore (by decide) dX1_write_7 ?_
  show go_W mt_X1_write fr_C 9 [some (pv_r a0), some (pv_i x1), some (pv_i x2), some (pv_r a3), some (pv_i x4), some (pv_i x5), some (pv_i (mm_i M a0 1 * (6 : Int32)))] [] M (qv_ P)
  refine go_aload_n dX1_write_9 rfl ?_
  refine go_getR (k := 0) ⟨by decide, rfl, by decide, Or.inr ⟨_, rfl⟩⟩ K0 fl_X1_11 dX1_write_10 ?_
  refine go_iload dX1_write_13 rfl ?_
  refine go_iload_n dX1_write_15 rfl ?_
  obtain ⟨l1, k2, H⟩ := H
  obtain ⟨n4, ⟨hn4, hn4b⟩, H⟩ := H
  refine go_iastA (j := n4) k2 hn4 hn4b dX1_write_16 ?_
  show go_W mt_X1_write fr_C 17 [some (pv_r a0), some (pv_i x1), some (pv_i x2), some (pv_r a3), some (pv_i x4), some (pv_i x5), some (pv_i (mm_i M a0 1 * (6 : Int32)))] [] (mm_pi M (mm_r M a0 0) n4 x1) (qv_ P)
  obtain ⟨M5, hM5⟩ : ∃ M', M' = mm_pi M (mm_r M a0 0) n4 x1 := ⟨_, rfl⟩
  have k6 : mm_k M5 a0 = (1, 3) := (by rw [hM5]; exact K0)
  have k7 : ak_ M5 (mm_r M a0 0) 0 l1 := (by rw [hM5]; exact k2)
  rw [← hM5]
  replace H := H M5 hM5
  refine go_aload_n dX1_write_17 rfl ?_
  refine go_getR (k := 0) ⟨by decide, rfl, by decide, Or.inr ⟨_, rfl⟩⟩ k6 fl_X1_11 dX1_write_18 ?_
  refine go_iload dX1_write_21 rfl ?_
  refine go_iconst (v := (1 : Int32)) rfl dX1_write_23 ?_
  refine go_iadd dX1_write_24 ?_
  refine go_iload_n dX1_write_25 rfl ?_
  obtain ⟨l8, k9, H⟩ := H
  obtain ⟨hb10, H⟩ := H
  refine go_iastA (j := (n4 + 1)) k9 (nI_ae hn4 rfl) hb10 dX1_write_26 ?_
  show go_W mt_X1_write fr_C 27 [some (pv_r a0), some (pv_i x1), some (pv_i x2), some (pv_r a3), some (pv_i x4), some (pv_i x5), some (pv_i (mm_i M a0 1 * (6 : Int32)))] [] (mm_pi M5 (mm_r M5 a0 0) (n4 + 1) x2) (qv_ P)
  obtain ⟨M11, hM11⟩ : ∃ M', M' = mm_pi M5 (mm_r M5 a0 0) (n4 + 1) x2 := ⟨_, rfl⟩
  have k12 : mm_k M11 a0 = (1, 3) := (by rw [hM11]; exact k6)
  have k13 : ak_ M11 (mm_r M a0 0) 0 l1 := (by rw [hM11]; exact k7)
  have k14 : ak_ M11 (mm_r M5 a0 0) 0 l8 := (by rw [hM11]; exact k9)
  rw [← hM11]
  replace H := H M11 hM11
  refine go_aload_n dX1_write_27 rfl ?_
  refine go_getR (k := 0) ⟨by decide, rfl, by decide, Or.inr ⟨_, rfl⟩⟩ k12 fl_X1_11 dX1_write_28 ?_
  refine go_iload dX1_write_31 rfl ?_
  refine go_iconst (v := (2 : Int32)) rfl dX1_write_33 ?_
  refine go_iadd dX1_write_34 ?_
  refine go_aload_n dX1_write_35 rfl ?_
  obtain ⟨k15, H⟩ := H
  refine go_getI (k := 0) ⟨by decide, rfl, by decide, rfl⟩ k15 fl_X1_19 dX1_write_36 ?_
  obtain ⟨l16, k17, H⟩ := H
  obtain ⟨hb18, H⟩ := H
  refine go_iastA (j := (n4 + 2)) k17 (nI_ae hn4 rfl) hb18 dX1_write_39 ?_
  show go_W mt_X1_write fr_C 40 [some (pv_r a0), some (pv_i x1), some (pv_i x2), some (pv_r a3), some (pv_i x4), some (pv_i x5), some (pv_i (mm_i M a0 1 * (6 : Int32)))] [] (mm_pi M11 (mm_r M11 a0 0) (n4 + 2) (mm_i M11 a3 0)) (qv_ P)
  obtain ⟨M19, hM19⟩ : ∃ M', M' = mm_pi M11 (mm_r M11 a0 0) (n4 + 2) (mm_i M11 a3 0) := ⟨_, rfl⟩
  have k20 : mm_k M19 a0 = (1, 3) := (by rw [hM19]; exact k12)
  have k21 : mm_k M19 a3 = (6, 17) := (by rw [hM19]; exact k15)
  have k22 : ak_ M19 (mm_r M a0 0) 0 l1 := (by rw [hM19]; exact k13)
  have k23 : ak_ M19 (mm_r M5 a0 0) 0 l8 := (by rw [hM19]; exact k14)
  have k24 : ak_ M19 (mm_r M11 a0 0) 0 l16 := (by rw [hM19]; exact k17)
  rw [← hM19]
  replace H := H M19 hM19
  refine go_aload_n dX1_write_40 rfl ?_
  refine go_getR (k := 0) ⟨by decide, rfl, by decide, Or.inr ⟨_, rfl⟩⟩ k20 fl_X1_11 dX1_write_41 ?_
  refine go_iload dX1_write_44 rfl ?_
  refine go_iconst (v := (3 : Int32)) rfl dX1_write_46 ?_
  refine go_iadd dX1_write_47 ?_
  refine go_aload_n dX1_write_48 rfl ?_
  refine go_getR (k := 2) ⟨by decide, rfl, by decide, Or.inl ⟨_, rfl⟩⟩ k21 fl_X1_24 dX1_write_49 ?_
  obtain ⟨k25, H⟩ := H
  refine go_getI (k := 0) ⟨by decide, rfl, by decide, rfl⟩ k25 fl_X1_28 dX1_write_52 ?_
  obtain ⟨l26, k27, H⟩ := H
  obtain ⟨hb28, H⟩ := H
  refine go_iastA (j := (n4 + 3)) k27 (nI_ae hn4 rfl) hb28 dX1_write_55 ?_
  show go_W mt_X1_write fr_C 56 [some (pv_r a0), some (pv_i x1), some (pv_i x2), some (pv_r a3), some (pv_i x4), some (pv_i x5), some (pv_i (mm_i M a0 1 * (6 : Int32)))] [] (mm_pi M19 (mm_r M19 a0 0) (n4 + 3) (mm_i M19 (mm_r M19 a3 2) 0)) (qv_ P)
  obtain ⟨M29, hM29⟩ : ∃ M', M' = mm_pi M19 (mm_r M19 a0 0) (n4 + 3) (mm_i M19 (mm_r M19 a3 2) 0) := ⟨_, rfl⟩
  have k30 : mm_k M29 a0 = (1, 3) := (by rw [hM29]; exact k20)
  have k31 : mm_k M29 a3 = (6, 17) := (by rw [hM29]; exact k21)
  have k32 : mm_k M29 (mm_r M19 a3 2) = (3, 14) := (by rw [hM29]; exact k25)
  have k33 : ak_ M29 (mm_r M a0 0) 0 l1 := (by rw [hM29]; exact k22)
  have k34 : ak_ M29 (mm_r M5 a0 0) 0 l8 := (by rw [hM29]; exact k23)
  have k35 : ak_ M29 (mm_r M11 a0 0) 0 l16 := (by rw [hM29]; exact k24)
  have k36 : ak_ M29 (mm_r M19 a0 0) 0 l26 := (by rw [hM29]; exact k27)
  rw [← hM29]
  replace H := H M29 hM29
  refine go_aload_n dX1_write_56 rfl ?_
  refine go_getR (k := 0) ⟨by decide, rfl, by decide, Or.inr ⟨_, rfl⟩⟩ k30 fl_X1_11 dX1_write_57 ?_
  refine go_iload dX1_write_60 rfl ?_
  refine go_iconst (v := (4 : Int32)) rfl dX1_write_62 ?_
  refine go_iadd dX1_write_63 ?_
  refine go_iload dX1_write_64 rfl ?_
  obtain ⟨l37, k38, H⟩ := H
  obtain ⟨hb39, H⟩ := H
  refine go_iastA (j := (n4 + 4)) k38 (nI_ae hn4 rfl) hb39 dX1_write_66 ?_
  show go_W mt_X1_write fr_C 67 [some (pv_r a0), some (pv_i x1), some (pv_i x2), some (pv_r a3), some (pv_i x4), some (pv_i x5), some (pv_i (mm_i M a0 1 * (6 : Int32)))] [] (mm_pi M29 (mm_r M29 a0 0) (n4 + 4) x4) (qv_ P)
  obtain ⟨M40, hM40⟩ : ∃ M', M' = mm_pi M29 (mm_r M29 a0 0) (n4 + 4) x4 := ⟨_, rfl⟩
  have k41 : mm_k M40 a0 = (1, 3) := (by rw [hM40]; exact k30)
  have k42 : mm_k M40 a3 = (6, 17) := (by rw [hM40]; exact k31)
  have k43 : mm_k M40 (mm_r M19 a3 2) = (3, 14) := (by rw [hM40]; exact k32)
  have k44 : ak_ M40 (mm_r M a0 0) 0 l1 := (by rw [hM40]; exact k33)
  have k45 : ak_ M40 (mm_r M5 a0 0) 0 l8 := (by rw [hM40]; exact k34)
  have k46 : ak_ M40 (mm_r M11 a0 0) 0 l16 := (by rw [hM40]; exact k35)
  have k47 : ak_ M40 (mm_r M19 a0 0) 0 l26 := (by rw [hM40]; exact k36)
  have k48 : ak_ M40 (mm_r M29 a0 0) 0 l37 := (by rw [hM40]; exact k38)
  rw [← hM40]
  replace H := H M40 hM40
  refine go_aload_n dX1_write_67 rfl ?_
  refine go_getR (k := 0) ⟨by decide, rfl, by decide, Or.inr ⟨_, rfl⟩⟩ k41 fl_X1_11 dX1_write_68 ?_
  refine go_iload dX1_write_71 rfl ?_
  refine go_iconst (v := (5 : Int32)) rfl dX1_write_73 ?_
  refine go_iadd dX1_write_74 ?_
  refine go_iload dX1_write_75 rfl ?_
  obtain ⟨l49, k50, H⟩ := H
  obtain ⟨hb51, H⟩ := H
  refine go_iastA (j := (n4 + 5)) k50 (nI_ae hn4 rfl) hb51 dX1_write_77 ?_
  show go_W mt_X1_write fr_C 78 [some (pv_r a0), some (pv_i x1), some (pv_i x2), some (pv_r a3), some (pv_i x4), some (pv_i x5), some (pv_i (mm_i M a0 1 * (6 : Int32)))] [] (mm_pi M40 (mm_r M40 a0 0) (n4 + 5) x5) (qv_ P)
  obtain ⟨M52, hM52⟩ : ∃ M', M' = mm_pi M40 (mm_r M40 a0 0) (n4 + 5) x5 := ⟨_, rfl⟩
  have k53 : mm_k M52 a0 = (1, 3) := (by rw [hM52]; exact k41)
  have k54 : mm_k M52 a3 = (6, 17) := (by rw [hM52]; exact k42)
  have k55 : mm_k M52 (mm_r M19 a3 2) = (3, 14) := (by rw [hM52]; exact k43)
  have k56 : ak_ M52 (mm_r M a0 0) 0 l1 := (by rw [hM52]; exact k44)
  have k57 : ak_ M52 (mm_r M5 a0 0) 0 l8 := (by rw [hM52]; exact k45)
  have k58 : ak_ M52 (mm_r M11 a0 0) 0 l16 := (by rw [hM52]; exact k46)
  have k59 : ak_ M52 (mm_r M19 a0 0) 0 l26 := (by rw [hM52]; exact k47)
  have k60 : ak_ M52 (mm_r M29 a0 0) 0 l37 := (by rw [hM52]; exact k48)
  have k61 : ak_ M52 (mm_r M40 a0 0) 0 l49 := (by rw [hM52]; exact k50)
  rw [← hM52]
  replace H := H M52 hM52
  refine go_aload_n dX1_write_78 rfl ?_
  refine go_aload_n dX1_write_79 rfl ?_
  refine go_getI (k := 1) ⟨by decide, rfl, by decide, rfl⟩ k53 fl_X1_15 dX1_write_80 ?_
  refine go_iconst (v := (1 : Int32)) rfl dX1_write_83 ?_
  refine go_iadd dX1_write_84 ?_
  refine go_bipush (v := (64 : Int32)) rfl dX1_write_85 ?_
  refine go_icmp_ge (tgt := 99) dX1_write_87 (by decide) (fun hc => ?_) (fun hc => ?_)
  · replace H := H.1 hc
    refine go_iconst (v := (0 : Int32)) rfl dX1_write_99 ?_
    refine go_putI (k := 1) ⟨by decide, rfl, by decide, rfl⟩ k53 rfl (Or.inl rfl) fl_X1_15 dX1_write_100 ?_
    show go_W mt_X1_write fr_C 103 [some (pv_r a0), some (pv_i x1), some (pv_i x2), some (pv_r a3), some (pv_i x4), some (pv_i x5), some (pv_i (mm_i M a0 1 * (6 : Int32)))] [] (mm_pi M52 a0 1 (0 : Int32)) (qv_ P)
    obtain ⟨M62, hM62⟩ : ∃ M', M' = mm_pi M52 a0 1 (0 : Int32) := ⟨_, rfl⟩
    have k63 : mm_k M62 a0 = (1, 3) := (by rw [hM62]; exact k53)
    have k64 : mm_k M62 a3 = (6, 17) := (by rw [hM62]; exact k54)
    have k65 : mm_k M62 (mm_r M19 a3 2) = (3, 14) := (by rw [hM62]; exact k55)
    have k66 : ak_ M62 (mm_r M a0 0) 0 l1 := (by rw [hM62]; exact k56)
    have k67 : ak_ M62 (mm_r M5 a0 0) 0 l8 := (by rw [hM62]; exact k57)
    have k68 : ak_ M62 (mm_r M11 a0 0) 0 l16 := (by rw [hM62]; exact k58)
    have k69 : ak_ M62 (mm_r M19 a0 0) 0 l26 := (by rw [hM62]; exact k59)
    have k70 : ak_ M62 (mm_r M29 a0 0) 0 l37 := (by rw [hM62]; exact k60)
    have k71 : ak_ M62 (mm_r M40 a0 0) 0 l49 := (by rw [hM62]; exact k61)
    rw [← hM62]
    replace H := H M62 hM62
    refine go_aload_n dX1_write_103 rfl ?_
    refine go_aload_n dX1_write_104 rfl ?_
    refine go_getI (k := 2) ⟨by decide, rfl, by decide, rfl⟩ k63 fl_X1_31 dX1_write_105 ?_
    refine go_iconst (v := (1 : Int32)) rfl dX1_write_108 ?_
    refine go_iadd dX1_write_109 ?_
    refine go_bipush (v := (64 : Int32)) rfl dX1_write_110 ?_
    refine go_mmin ml_X1_34 (Nat.le_of_ble_eq_true rfl) ⟨by decide, by decide⟩ dX1_write_112 ?_
    refine go_putI (k := 2) ⟨by decide, rfl, by decide, rfl⟩ k63 rfl (Or.inl rfl) fl_X1_31 dX1_write_115 ?_
    show go_W mt_X1_write fr_C 118 [some (pv_r a0), some (pv_i x1), some (pv_i x2), some (pv_r a3), some (pv_i x4), some (pv_i x5), some (pv_i (mm_i M a0 1 * (6 : Int32)))] [] (mm_pi M62 a0 2 (if (64 : Int32) < (mm_i M62 a0 2 + (1 : Int32)) then (64 : Int32) else (mm_i M62 a0 2 + (1 : Int32)))) (qv_ P)
    obtain ⟨M72, hM72⟩ : ∃ M', M' = mm_pi M62 a0 2 (if (64 : Int32) < (mm_i M62 a0 2 + (1 : Int32)) then (64 : Int32) else (mm_i M62 a0 2 + (1 : Int32))) := ⟨_, rfl⟩
    have k73 : mm_k M72 a0 = (1, 3) := (by rw [hM72]; exact k63)
    have k74 : mm_k M72 a3 = (6, 17) := (by rw [hM72]; exact k64)
    have k75 : mm_k M72 (mm_r M19 a3 2) = (3, 14) := (by rw [hM72]; exact k65)
    have k76 : ak_ M72 (mm_r M a0 0) 0 l1 := (by rw [hM72]; exact k66)
    have k77 : ak_ M72 (mm_r M5 a0 0) 0 l8 := (by rw [hM72]; exact k67)
    have k78 : ak_ M72 (mm_r M11 a0 0) 0 l16 := (by rw [hM72]; exact k68)
    have k79 : ak_ M72 (mm_r M19 a0 0) 0 l26 := (by rw [hM72]; exact k69)
    have k80 : ak_ M72 (mm_r M29 a0 0) 0 l37 := (by rw [hM72]; exact k70)
    have k81 : ak_ M72 (mm_r M40 a0 0) 0 l49 := (by rw [hM72]; exact k71)
    rw [← hM72]
    replace H := H M72 hM72
    exact go_vret rfl dX1_write_118 ⟨rfl, H⟩
  · replace H := H.2 hc
    refine go_aload_n dX1_write_90 rfl ?_
    refine go_getI (k := 1) ⟨by decide, rfl, by decide, rfl⟩ k53 fl_X1_15 dX1_write_91 ?_
    refine go_iconst (v := (1 : Int32)) rfl dX1_write_94 ?_
    refine go_iadd dX1_write_95 ?_
    refine go_goto (tgt := 100) dX1_write_96 (by decide) ?_
    refine go_putI (k := 1) ⟨by decide, rfl, by decide, rfl⟩ k53 rfl (Or.inl rfl) fl_X1_15 dX1_write_100 ?_
    show go_W mt_X1_write fr_C 103 [some (pv_r a0), some (pv_i x1), some (pv_i x2), some (pv_r a3), some (pv_i x4), some (pv_i x5), some (pv_i (mm_i M a0 1 * (6 : Int32)))] [] (mm_pi M52 a0 1 (mm_i M52 a0 1 + (1 : Int32))) (qv_ P)
    obtain ⟨M82, hM82⟩ : ∃ M', M' = mm_pi M52 a0 1 (mm_i M52 a0 1 + (1 : Int32)) := ⟨_, rfl⟩
    have k83 : mm_k M82 a0 = (1, 3) := (by rw [hM82]; exact k53)
    have k84 : mm_k M82 a3 = (6, 17) := (by rw [hM82]; exact k54)
    have k85 : mm_k M82 (mm_r M19 a3 2) = (3, 14) := (by rw [hM82]; exact k55)
    have k86 : ak_ M82 (mm_r M a0 0) 0 l1 := (by rw [hM82]; exact k56)
    have k87 : ak_ M82 (mm_r M5 a0 0) 0 l8 := (by rw [hM82]; exact k57)
    have k88 : ak_ M82 (mm_r M11 a0 0) 0 l16 := (by rw [hM82]; exact k58)
    have k89 : ak_ M82 (mm_r M19 a0 0) 0 l26 := (by rw [hM82]; exact k59)
    have k90 : ak_ M82 (mm_r M29 a0 0) 0 l37 := (by rw [hM82]; exact k60)
    have k91 : ak_ M82 (mm_r M40 a0 0) 0 l49 := (by rw [hM82]; exact k61)
    rw [← hM82]
    replace H := H M82 hM82
    refine go_aload_n dX1_write_103 rfl ?_
    refine go_aload_n dX1_write_104 rfl ?_
    refine go_getI (k := 2) ⟨by decide, rfl, by decide, rfl⟩ k83 fl_X1_31 dX1_write_105 ?_
    refine go_iconst (v := (1 : Int32)) rfl dX1_write_108 ?_
    refine go_iadd dX1_write_109 ?_
    refine go_bipush (v := (64 : Int32)) rfl dX1_write_110 ?_
    refine go_mmin ml_X1_34 (Nat.le_of_ble_eq_true rfl) ⟨by decide, by decide⟩ dX1_write_112 ?_
    refine go_putI (k := 2) ⟨by decide, rfl, by decide, rfl⟩ k83 rfl (Or.inl rfl) fl_X1_31 dX1_write_115 ?_
    show go_W mt_X1_write fr_C 118 [some (pv_r a0), some (pv_i x1), some (pv_i x2), some (pv_r a3), some (pv_i x4), some (pv_i x5), some (pv_i (mm_i M a0 1 * (6 : Int32)))] [] (mm_pi M82 a0 2 (if (64 : Int32) < (mm_i M82 a0 2 + (1 : Int32)) then (64 : Int32) else (mm_i M82 a0 2 + (1 : Int32)))) (qv_ P)
    obtain ⟨M92, hM92⟩ : ∃ M', M' = mm_pi M82 a0 2 (if (64 : Int32) < (mm_i M82 a0 2 + (1 : Int32)) then (64 : Int32) else (mm_i M82 a0 2 + (1 : Int32))) := ⟨_, rfl⟩
    have k93 : mm_k M92 a0 = (1, 3) := (by rw [hM92]; exact k83)
    have k94 : mm_k M92 a3 = (6, 17) := (by rw [hM92]; exact k84)
    have k95 : mm_k M92 (mm_r M19 a3 2) = (3, 14) := (by rw [hM92]; exact k85)
    have k96 : ak_ M92 (mm_r M a0 0) 0 l1 := (by rw [hM92]; exact k86)
    have k97 : ak_ M92 (mm_r M5 a0 0) 0 l8 := (by rw [hM92]; exact k87)
    have k98 : ak_ M92 (mm_r M11 a0 0) 0 l16 := (by rw [hM92]; exact k88)
    have k99 : ak_ M92 (mm_r M19 a0 0) 0 l26 := (by rw [hM92]; exact k89)
    have k100 : ak_ M92 (mm_r M29 a0 0) 0 l37 := (by rw [hM92]; exact k90)
    have k101 : ak_ M92 (mm_r M40 a0 0) 0 l49 := (by rw [hM92]; exact k91)
    rw [← hM92]
    replace H := H M92 hM92
    exact go_vret rfl dX1_write_118 ⟨rfl, H⟩
