/-! load and finish, by program (wip/whole/walk3e.py) -/
section LookE
variable {t : mt_T} {fr : Nat → Bool} {pc : Nat} {ls : List (Option pv_T)} {st : List pv_T} {M : mm_T} {Q : Option pv_T → mm_T → Prop}
theorem go_look {dflt : Int} {ps : Array (Int × Int)} {len : Nat} {x : Int32} {off : Int} {tgt : Nat} (hp : (ps.toList.zip (ps.toList.drop 1)).all (fun (a, next) => a.1 < next.1) = true) (ho : Op.lookupswitch.offset ps.toList dflt x.toInt = off) (ht : (pc : Int) + off = (tgt : Int)) (d : decode (mt_b t) pc = .ok (.lookupswitch dflt ps, len)) (k : go_W t fr tgt ls st M Q) : go_W t fr pc ls (pv_i x :: st) M Q := by
  intro cx l p e s m args below meth c H locs cells slots n0 s0 L F I N hl
  exact lv_lookup F.1 F.2.1 d hp ho ht (k cx l p e s m args below meth c H locs cells slots n0 s0 L F I N hl)
theorem go_lookIn {dflt : Int} {ps : Array (Int × Int)} {len : Nat} {x v : Int32} {off : Int} {tgt : Nat} (hx : x = v) (hp : (ps.toList.zip (ps.toList.drop 1)).all (fun (a, next) => a.1 < next.1) = true) (ho : Op.lookupswitch.offset ps.toList dflt v.toInt = off) (ht : (pc : Int) + off = (tgt : Int)) (d : decode (mt_b t) pc = .ok (.lookupswitch dflt ps, len)) (k : go_W t fr tgt ls st M Q) : go_W t fr pc ls (pv_i x :: st) M Q := by
  subst hx
  exact go_look hp ho ht d k
end LookE
set_option maxRecDepth 20000 in
theorem wc_X8_load_0 {M : mm_T} {a0 a1 : Nat} {P : mm_T → Prop} (K0 : mm_k M a0 = (8, 8)) (H : cw_v mt_X8_load 2 [some (pv_r a0), some (pv_r a1), some (pv_i (0 : Int32)), none] [] M P) : cw_v mt_X8_load 0 [some (pv_r a0), some (pv_r a1), none, none] [] M P := by
  refine go_iconst (v := (0 : Int32)) rfl dX8_load_0 ?_
  refine go_istore_n (by decide) dX8_load_1 ?_
  show go_W mt_X8_load fr_C 2 [some (pv_r a0), some (pv_r a1), some (pv_i (0 : Int32)), none] [] M (qv_ P)
  exact H
set_option maxRecDepth 20000 in
theorem wc_X8_load_2 {M : mm_T} {a0 a1 : Nat} {x2 : Int32} {P : mm_T → Prop} (K0 : mm_k M a0 = (8, 8)) (H : ((((5 : Int32) ≤ x2) → mm_k M a1 = (0, 4) ∧ (mm_k M (mm_r M a0 0) = (0, 4) ∧ (∃ l3, ak_ M (mm_r M (mm_r M a0 0) 3) 0 l3 ∧ (∃ l5, ak_ M (mm_r M a1 3) 0 l5 ∧ (l3 ≤ l5 ∧ l3 ≤ l3 ∧ (∀ M9, M9 = mm_ws M (mm_r M (mm_r M a0 0) 3) (va_cpy (mm_i M (mm_r M a1 3)) (mm_i M (mm_r M (mm_r M a0 0) 3)) 0 0 l3) → mm_k M9 (mm_r M9 a0 0) = (0, 4) ∧ (∃ l16, ak_ M9 (mm_r M9 a1 2) 0 l16 ∧ (∃ l18, ak_ M9 (mm_r M9 (mm_r M9 a0 0) 2) 0 l18 ∧ (7 ≤ l16 ∧ 7 ≤ l18 ∧ (∀ M22, M22 = mm_ws M9 (mm_r M9 (mm_r M9 a0 0) 2) (va_cpy (mm_i M9 (mm_r M9 a1 2)) (mm_i M9 (mm_r M9 (mm_r M9 a0 0) 2)) 0 0 7) → mm_k M22 (mm_r M22 a0 0) = (0, 4) ∧ (mm_k M22 (mm_r M22 (mm_r M22 a0 0) 1) = (4, 2) ∧ (cs_v mt_X4_clear [pv_r (mm_r M22 (mm_r M22 a0 0) 1)] M22 (fun M33 => cw_v mt_X8_load 85 [some (pv_r a0), some (pv_r a1), some (pv_i (0 : Int32)), none] [] M33 P))))))))))))) ∧ ((¬ (5 : Int32) ≤ x2) → mm_k M (mm_r M a0 0) = (0, 4) ∧ (∃ l45, ak_ M (mm_r M (mm_r M a0 0) 0) 2 l45 ∧ (∃ n48, (x2 = nI n48 ∧ n48 < l45) ∧ (mm_k M a1 = (0, 4) ∧ (∃ l50, ak_ M (mm_r M a1 0) 2 l50 ∧ (n48 < l50 ∧ (mm_k M (mm_r M (mm_r M (mm_r M a0 0) 0) n48) = (3, 14) ∧ (cs_v mt_X3_copyFrom [pv_r (mm_r M (mm_r M (mm_r M a0 0) 0) n48), pv_r (mm_r M (mm_r M a1 0) n48)] M (fun M54 => cw_v mt_X8_load 2 [some (pv_r a0), some (pv_r a1), some (pv_i (nI (n48 + 1))), none] [] M54 P))))))))))) : cw_v mt_X8_load 2 [some (pv_r a0), some (pv_r a1), some (pv_i x2), none] [] M P := by
  refine go_iload_n dX8_load_2 rfl ?_
  refine go_iconst (v := (5 : Int32)) rfl dX8_load_3 ?_
  refine go_icmp_ge (tgt := 31) dX8_load_4 (by decide) (fun hc => ?_) (fun hc => ?_)
  · replace H := H.1 hc
    refine go_aload_n dX8_load_31 rfl ?_
    obtain ⟨k1, H⟩ := H
    refine go_getR (k := 3) ⟨by decide, rfl, by decide, Or.inr ⟨_, rfl⟩⟩ k1 fl_X8_41 dX8_load_32 ?_
    refine go_iconst (v := (0 : Int32)) rfl dX8_load_35 ?_
    refine go_aload_n dX8_load_36 rfl ?_
    refine go_getR (k := 0) ⟨by decide, rfl, by decide, Or.inl ⟨_, rfl⟩⟩ K0 fl_X8_12 dX8_load_37 ?_
    obtain ⟨k2, H⟩ := H
    refine go_getR (k := 3) ⟨by decide, rfl, by decide, Or.inr ⟨_, rfl⟩⟩ k2 fl_X8_41 dX8_load_40 ?_
    refine go_iconst (v := (0 : Int32)) rfl dX8_load_43 ?_
    refine go_aload_n dX8_load_44 rfl ?_
    refine go_getR (k := 0) ⟨by decide, rfl, by decide, Or.inl ⟨_, rfl⟩⟩ K0 fl_X8_12 dX8_load_45 ?_
    refine go_getR (k := 3) ⟨by decide, rfl, by decide, Or.inr ⟨_, rfl⟩⟩ k2 fl_X8_41 dX8_load_48 ?_
    obtain ⟨l3, k4, H⟩ := H
    refine go_alenA k4 dX8_load_51 ?_
    obtain ⟨l5, k6, H⟩ := H
    obtain ⟨hl7, hl8, H⟩ := H
    refine go_copy (k := l3) k6 k4 rfl rfl rfl hl7 hl8 (Nat.le_of_ble_eq_true rfl) ⟨by decide, by decide⟩ ml_X8_44 nv_J_System_arraycopy sm_J_System_arraycopy ni_J10 dX8_load_52 ?_
    show go_W mt_X8_load fr_C 55 [some (pv_r a0), some (pv_r a1), some (pv_i x2), none] [] (mm_ws M (mm_r M (mm_r M a0 0) 3) (va_cpy (mm_i M (mm_r M a1 3)) (mm_i M (mm_r M (mm_r M a0 0) 3)) 0 0 l3)) (qv_ P)
    obtain ⟨M9, hM9⟩ : ∃ M', M' = mm_ws M (mm_r M (mm_r M a0 0) 3) (va_cpy (mm_i M (mm_r M a1 3)) (mm_i M (mm_r M (mm_r M a0 0) 3)) 0 0 l3) := ⟨_, rfl⟩
    have k10 : mm_k M9 a0 = (8, 8) := (by rw [hM9]; exact K0)
    have k11 : mm_k M9 a1 = (0, 4) := (by rw [hM9]; exact k1)
    have k12 : mm_k M9 (mm_r M a0 0) = (0, 4) := (by rw [hM9]; exact k2)
    have k13 : ak_ M9 (mm_r M (mm_r M a0 0) 3) 0 l3 := (by rw [hM9]; exact k4)
    have k14 : ak_ M9 (mm_r M a1 3) 0 l5 := (by rw [hM9]; exact k6)
    rw [← hM9]
    replace H := H M9 hM9
    refine go_aload_n dX8_load_55 rfl ?_
    refine go_getR (k := 2) ⟨by decide, rfl, by decide, Or.inr ⟨_, rfl⟩⟩ k11 fl_X8_50 dX8_load_56 ?_
    refine go_iconst (v := (0 : Int32)) rfl dX8_load_59 ?_
    refine go_aload_n dX8_load_60 rfl ?_
    refine go_getR (k := 0) ⟨by decide, rfl, by decide, Or.inl ⟨_, rfl⟩⟩ k10 fl_X8_12 dX8_load_61 ?_
    obtain ⟨k15, H⟩ := H
    refine go_getR (k := 2) ⟨by decide, rfl, by decide, Or.inr ⟨_, rfl⟩⟩ k15 fl_X8_50 dX8_load_64 ?_
    refine go_iconst (v := (0 : Int32)) rfl dX8_load_67 ?_
    refine go_bipush (v := (7 : Int32)) rfl dX8_load_68 ?_
    obtain ⟨l16, k17, H⟩ := H
    obtain ⟨l18, k19, H⟩ := H
    obtain ⟨hl20, hl21, H⟩ := H
    refine go_copy (k := 7) k17 k19 rfl rfl rfl hl20 hl21 (Nat.le_of_ble_eq_true rfl) ⟨by decide, by decide⟩ ml_X8_44 nv_J_System_arraycopy sm_J_System_arraycopy ni_J10 dX8_load_70 ?_
    show go_W mt_X8_load fr_C 73 [some (pv_r a0), some (pv_r a1), some (pv_i x2), none] [] (mm_ws M9 (mm_r M9 (mm_r M9 a0 0) 2) (va_cpy (mm_i M9 (mm_r M9 a1 2)) (mm_i M9 (mm_r M9 (mm_r M9 a0 0) 2)) 0 0 7)) (qv_ P)
    obtain ⟨M22, hM22⟩ : ∃ M', M' = mm_ws M9 (mm_r M9 (mm_r M9 a0 0) 2) (va_cpy (mm_i M9 (mm_r M9 a1 2)) (mm_i M9 (mm_r M9 (mm_r M9 a0 0) 2)) 0 0 7) := ⟨_, rfl⟩
    have k23 : mm_k M22 a0 = (8, 8) := (by rw [hM22]; exact k10)
    have k24 : mm_k M22 a1 = (0, 4) := (by rw [hM22]; exact k11)
    have k25 : mm_k M22 (mm_r M a0 0) = (0, 4) := (by rw [hM22]; exact k12)
    have k26 : mm_k M22 (mm_r M9 a0 0) = (0, 4) := (by rw [hM22]; exact k15)
    have k27 : ak_ M22 (mm_r M (mm_r M a0 0) 3) 0 l3 := (by rw [hM22]; exact k13)
    have k28 : ak_ M22 (mm_r M a1 3) 0 l5 := (by rw [hM22]; exact k14)
    have k29 : ak_ M22 (mm_r M9 a1 2) 0 l16 := (by rw [hM22]; exact k17)
    have k30 : ak_ M22 (mm_r M9 (mm_r M9 a0 0) 2) 0 l18 := (by rw [hM22]; exact k19)
    rw [← hM22]
    replace H := H M22 hM22
    refine go_aload_n dX8_load_73 rfl ?_
    refine go_getR (k := 0) ⟨by decide, rfl, by decide, Or.inl ⟨_, rfl⟩⟩ k23 fl_X8_12 dX8_load_74 ?_
    obtain ⟨k31, H⟩ := H
    refine go_getR (k := 1) ⟨by decide, rfl, by decide, Or.inl ⟨_, rfl⟩⟩ k31 fl_X8_53 dX8_load_77 ?_
    obtain ⟨k32, H⟩ := H
    refine go_V (av := []) (st := []) (ci := 4) ok_X4_clear ⟨by decide, by decide⟩ ml_X8_57 rfl (by decide) (fun v hv => absurd hv List.not_mem_nil) (Nat.le_of_ble_eq_true rfl) (fun _ h => h) (by decide) rfl k32 dX8_load_80 H (fun r M33 hq hS => ?_)
    obtain ⟨rfl, H⟩ := hq
    have k34 : mm_k M33 a0 = (8, 8) := ks_S k23 (by decide) hS
    have k35 : mm_k M33 a1 = (0, 4) := ks_S k24 (by decide) hS
    have k36 : mm_k M33 (mm_r M a0 0) = (0, 4) := ks_S k25 (by decide) hS
    have k37 : mm_k M33 (mm_r M9 a0 0) = (0, 4) := ks_S k26 (by decide) hS
    have k38 : mm_k M33 (mm_r M22 a0 0) = (0, 4) := ks_S k31 (by decide) hS
    have k39 : mm_k M33 (mm_r M22 (mm_r M22 a0 0) 1) = (4, 2) := ks_S k32 (by decide) hS
    have k40 : ak_ M33 (mm_r M (mm_r M a0 0) 3) 0 l3 := ak_S k27 hS
    have k41 : ak_ M33 (mm_r M a1 3) 0 l5 := ak_S k28 hS
    have k42 : ak_ M33 (mm_r M9 a1 2) 0 l16 := ak_S k29 hS
    have k43 : ak_ M33 (mm_r M9 (mm_r M9 a0 0) 2) 0 l18 := ak_S k30 hS
    show go_W mt_X8_load fr_C 83 [some (pv_r a0), some (pv_r a1), some (pv_i x2), none] [] M33 (qv_ P)
    refine go_iconst (v := (0 : Int32)) rfl dX8_load_83 ?_
    refine go_istore_n (by decide) dX8_load_84 ?_
    show go_W mt_X8_load fr_C 85 [some (pv_r a0), some (pv_r a1), some (pv_i (0 : Int32)), none] [] M33 (qv_ P)
    exact H
  · replace H := H.2 hc
    refine go_aload_n dX8_load_7 rfl ?_
    refine go_getR (k := 0) ⟨by decide, rfl, by decide, Or.inl ⟨_, rfl⟩⟩ K0 fl_X8_12 dX8_load_8 ?_
    obtain ⟨k44, H⟩ := H
    refine go_getR (k := 0) ⟨by decide, rfl, by decide, Or.inr ⟨_, rfl⟩⟩ k44 fl_X8_31 dX8_load_11 ?_
    refine go_iload_n dX8_load_14 rfl ?_
    obtain ⟨l45, k46, H⟩ := H
    obtain ⟨n48, ⟨hn48, hn48b⟩, H⟩ := H
    refine go_aaldA (j := n48) k46 (by decide) hn48 hn48b dX8_load_15 ?_
    refine go_aload_n dX8_load_16 rfl ?_
    obtain ⟨k49, H⟩ := H
    refine go_getR (k := 0) ⟨by decide, rfl, by decide, Or.inr ⟨_, rfl⟩⟩ k49 fl_X8_31 dX8_load_17 ?_
    refine go_iload_n dX8_load_20 rfl ?_
    obtain ⟨l50, k51, H⟩ := H
    obtain ⟨hb52, H⟩ := H
    refine go_aaldA (j := n48) k51 (by decide) hn48 hb52 dX8_load_21 ?_
    obtain ⟨k53, H⟩ := H
    refine go_V (av := [pv_r (mm_r M (mm_r M a1 0) n48)]) (st := []) (ci := 3) ok_X3_copyFrom ⟨by decide, by decide⟩ ml_X8_35 rfl (by decide) (fun v hv => by simp only [List.mem_cons, List.not_mem_nil, or_false] at hv; rcases hv with rfl <;> first | exact pv_1i | exact pv_1r) (Nat.le_of_ble_eq_true rfl) (fun _ h => h) (by decide) rfl k53 dX8_load_22 H (fun r M54 hq hS => ?_)
    obtain ⟨rfl, H⟩ := hq
    have k55 : mm_k M54 a0 = (8, 8) := ks_S K0 (by decide) hS
    have k56 : mm_k M54 (mm_r M a0 0) = (0, 4) := ks_S k44 (by decide) hS
    have k57 : mm_k M54 a1 = (0, 4) := ks_S k49 (by decide) hS
    have k58 : mm_k M54 (mm_r M (mm_r M (mm_r M a0 0) 0) n48) = (3, 14) := ks_S k53 (by decide) hS
    have k59 : ak_ M54 (mm_r M (mm_r M a0 0) 0) 2 l45 := ak_S k46 hS
    have k60 : ak_ M54 (mm_r M a1 0) 2 l50 := ak_S k51 hS
    show go_W mt_X8_load fr_C 25 [some (pv_r a0), some (pv_r a1), some (pv_i x2), none] [] M54 (qv_ P)
    refine go_iincN (n := n48) (k := 1) hn48 (by decide) rfl rfl dX8_load_25 ?_
    show go_W mt_X8_load fr_C 28 [some (pv_r a0), some (pv_r a1), some (pv_i (nI (n48 + 1))), none] [] M54 (qv_ P)
    refine go_goto (tgt := 2) dX8_load_28 (by decide) ?_
    exact H
set_option maxRecDepth 20000 in
theorem wc_X8_load_85 {M : mm_T} {a0 a1 : Nat} {x2 : Int32} {P : mm_T → Prop} (K0 : mm_k M a0 = (8, 8)) (H : mm_k M a1 = (0, 4) ∧ (mm_k M (mm_r M a1 1) = (4, 2) ∧ ((((mm_i M (mm_r M a1 1) 1 ≤ x2) → P M) ∧ ((¬ mm_i M (mm_r M a1 1) 1 ≤ x2) → ∃ l3, ak_ M (mm_r M (mm_r M a1 1) 0) 3 l3 ∧ (∃ n6, (x2 = nI n6 ∧ n6 < l3) ∧ (∃ l7, ak_ M (mm_r M a0 1) 3 l7 ∧ (n6 < l7 ∧ (mm_k M (mm_r M (mm_r M (mm_r M a1 1) 0) n6) = (6, 17) ∧ (mm_k M (mm_r M (mm_r M (mm_r M (mm_r M a1 1) 0) n6) 2) = (3, 14) ∧ (mm_k M (mm_r M a0 0) = (0, 4) ∧ (cs_r mt_X0_laneAt [pv_r (mm_r M a0 0), pv_i (mm_i M (mm_r M (mm_r M (mm_r M (mm_r M a1 1) 0) n6) 2) 0)] M (fun v14 M13 => mm_k M13 (mm_r M (mm_r M a0 1) n6) = (6, 17) ∧ (cs_v mt_X6_copyFrom [pv_r (mm_r M (mm_r M a0 1) n6), pv_r (mm_r M (mm_r M (mm_r M a1 1) 0) n6), pv_r v14] M13 (fun M24 => mm_k M24 (mm_r M24 a0 0) = (0, 4) ∧ (∃ l35, ak_ M24 (mm_r M24 a0 1) 3 l35 ∧ (n6 < l35 ∧ (mm_k M24 (mm_r M24 (mm_r M24 a0 0) 1) = (4, 2) ∧ (cs_v mt_X4_append [pv_r (mm_r M24 (mm_r M24 a0 0) 1), pv_r (mm_r M24 (mm_r M24 a0 1) n6)] M24 (fun M39 => cw_v mt_X8_load 85 [some (pv_r a0), some (pv_r a1), some (pv_i (nI (n6 + 1))), none] [] M39 P)))))))))))))))))))) : cw_v mt_X8_load 85 [some (pv_r a0), some (pv_r a1), some (pv_i x2), none] [] M P := by
  refine go_iload_n dX8_load_85 rfl ?_
  refine go_aload_n dX8_load_86 rfl ?_
  obtain ⟨k1, H⟩ := H
  refine go_getR (k := 1) ⟨by decide, rfl, by decide, Or.inl ⟨_, rfl⟩⟩ k1 fl_X8_53 dX8_load_87 ?_
  obtain ⟨k2, H⟩ := H
  refine go_getI (k := 1) ⟨by decide, rfl, by decide, rfl⟩ k2 fl_X8_62 dX8_load_90 ?_
  refine go_icmp_ge (tgt := 152) dX8_load_93 (by decide) (fun hc => ?_) (fun hc => ?_)
  · replace H := H.1 hc
    exact go_vret rfl dX8_load_152 ⟨rfl, H⟩
  · replace H := H.2 hc
    refine go_aload_n dX8_load_96 rfl ?_
    refine go_getR (k := 1) ⟨by decide, rfl, by decide, Or.inl ⟨_, rfl⟩⟩ k1 fl_X8_53 dX8_load_97 ?_
    refine go_getR (k := 0) ⟨by decide, rfl, by decide, Or.inr ⟨_, rfl⟩⟩ k2 fl_X8_66 dX8_load_100 ?_
    refine go_iload_n dX8_load_103 rfl ?_
    obtain ⟨l3, k4, H⟩ := H
    obtain ⟨n6, ⟨hn6, hn6b⟩, H⟩ := H
    refine go_aaldA (j := n6) k4 (by decide) hn6 hn6b dX8_load_104 ?_
    refine go_astore_n (by decide) dX8_load_105 ?_
    show go_W mt_X8_load fr_C 106 [some (pv_r a0), some (pv_r a1), some (pv_i x2), some (pv_r (mm_r M (mm_r M (mm_r M a1 1) 0) n6))] [] M (qv_ P)
    refine go_aload_n dX8_load_106 rfl ?_
    refine go_getR (k := 1) ⟨by decide, rfl, by decide, Or.inr ⟨_, rfl⟩⟩ K0 fl_X8_20 dX8_load_107 ?_
    refine go_iload_n dX8_load_110 rfl ?_
    obtain ⟨l7, k8, H⟩ := H
    obtain ⟨hb9, H⟩ := H
    refine go_aaldA (j := n6) k8 (by decide) hn6 hb9 dX8_load_111 ?_
    refine go_aload_n dX8_load_112 rfl ?_
    refine go_aload_n dX8_load_113 rfl ?_
    refine go_getR (k := 0) ⟨by decide, rfl, by decide, Or.inl ⟨_, rfl⟩⟩ K0 fl_X8_12 dX8_load_114 ?_
    refine go_aload_n dX8_load_117 rfl ?_
    obtain ⟨k10, H⟩ := H
    refine go_getR (k := 2) ⟨by decide, rfl, by decide, Or.inl ⟨_, rfl⟩⟩ k10 fl_X8_69 dX8_load_118 ?_
    obtain ⟨k11, H⟩ := H
    refine go_getI (k := 0) ⟨by decide, rfl, by decide, rfl⟩ k11 fl_X8_73 dX8_load_121 ?_
    obtain ⟨k12, H⟩ := H
    refine go_V (av := [pv_i (mm_i M (mm_r M (mm_r M (mm_r M (mm_r M a1 1) 0) n6) 2) 0)]) (st := [pv_r (mm_r M (mm_r M (mm_r M a1 1) 0) n6), pv_r (mm_r M (mm_r M a0 1) n6)]) (ci := 0) ok_X0_laneAt ⟨by decide, by decide⟩ ml_X8_76 rfl (by decide) (fun v hv => by simp only [List.mem_cons, List.not_mem_nil, or_false] at hv; rcases hv with rfl <;> first | exact pv_1i | exact pv_1r) (Nat.le_of_ble_eq_true rfl) (fun _ h => h) (by decide) rfl k12 dX8_load_124 H (fun r M13 hq hS => ?_)
    obtain ⟨v14, rfl, H⟩ := hq
    have k15 : mm_k M13 a0 = (8, 8) := ks_S K0 (by decide) hS
    have k16 : mm_k M13 a1 = (0, 4) := ks_S k1 (by decide) hS
    have k17 : mm_k M13 (mm_r M a1 1) = (4, 2) := ks_S k2 (by decide) hS
    have k18 : mm_k M13 (mm_r M (mm_r M (mm_r M a1 1) 0) n6) = (6, 17) := ks_S k10 (by decide) hS
    have k19 : mm_k M13 (mm_r M (mm_r M (mm_r M (mm_r M a1 1) 0) n6) 2) = (3, 14) := ks_S k11 (by decide) hS
    have k20 : mm_k M13 (mm_r M a0 0) = (0, 4) := ks_S k12 (by decide) hS
    have k21 : ak_ M13 (mm_r M (mm_r M a1 1) 0) 3 l3 := ak_S k4 hS
    have k22 : ak_ M13 (mm_r M a0 1) 3 l7 := ak_S k8 hS
    show go_W mt_X8_load fr_C 127 [some (pv_r a0), some (pv_r a1), some (pv_i x2), some (pv_r (mm_r M (mm_r M (mm_r M a1 1) 0) n6))] [pv_r v14, pv_r (mm_r M (mm_r M (mm_r M a1 1) 0) n6), pv_r (mm_r M (mm_r M a0 1) n6)] M13 (qv_ P)
    obtain ⟨k23, H⟩ := H
    refine go_V (av := [pv_r (mm_r M (mm_r M (mm_r M a1 1) 0) n6), pv_r v14]) (st := []) (ci := 6) ok_X6_copyFrom ⟨by decide, by decide⟩ ml_X8_80 rfl (by decide) (fun v hv => by simp only [List.mem_cons, List.not_mem_nil, or_false] at hv; rcases hv with rfl | rfl <;> first | exact pv_1i | exact pv_1r) (Nat.le_of_ble_eq_true rfl) (fun _ h => h) (by decide) rfl k23 dX8_load_127 H (fun r M24 hq hS => ?_)
    obtain ⟨rfl, H⟩ := hq
    have k25 : mm_k M24 a0 = (8, 8) := ks_S k15 (by decide) hS
    have k26 : mm_k M24 a1 = (0, 4) := ks_S k16 (by decide) hS
    have k27 : mm_k M24 (mm_r M a1 1) = (4, 2) := ks_S k17 (by decide) hS
    have k28 : mm_k M24 (mm_r M (mm_r M (mm_r M a1 1) 0) n6) = (6, 17) := ks_S k18 (by decide) hS
    have k29 : mm_k M24 (mm_r M (mm_r M (mm_r M (mm_r M a1 1) 0) n6) 2) = (3, 14) := ks_S k19 (by decide) hS
    have k30 : mm_k M24 (mm_r M a0 0) = (0, 4) := ks_S k20 (by decide) hS
    have k31 : mm_k M24 (mm_r M (mm_r M a0 1) n6) = (6, 17) := ks_S k23 (by decide) hS
    have k32 : ak_ M24 (mm_r M (mm_r M a1 1) 0) 3 l3 := ak_S k21 hS
    have k33 : ak_ M24 (mm_r M a0 1) 3 l7 := ak_S k22 hS
    show go_W mt_X8_load fr_C 130 [some (pv_r a0), some (pv_r a1), some (pv_i x2), some (pv_r (mm_r M (mm_r M (mm_r M a1 1) 0) n6))] [] M24 (qv_ P)
    refine go_aload_n dX8_load_130 rfl ?_
    refine go_getR (k := 0) ⟨by decide, rfl, by decide, Or.inl ⟨_, rfl⟩⟩ k25 fl_X8_12 dX8_load_131 ?_
    obtain ⟨k34, H⟩ := H
    refine go_getR (k := 1) ⟨by decide, rfl, by decide, Or.inl ⟨_, rfl⟩⟩ k34 fl_X8_53 dX8_load_134 ?_
    refine go_aload_n dX8_load_137 rfl ?_
    refine go_getR (k := 1) ⟨by decide, rfl, by decide, Or.inr ⟨_, rfl⟩⟩ k25 fl_X8_20 dX8_load_138 ?_
    refine go_iload_n dX8_load_141 rfl ?_
    obtain ⟨l35, k36, H⟩ := H
    obtain ⟨hb37, H⟩ := H
    refine go_aaldA (j := n6) k36 (by decide) hn6 hb37 dX8_load_142 ?_
    obtain ⟨k38, H⟩ := H
    refine go_V (av := [pv_r (mm_r M24 (mm_r M24 a0 1) n6)]) (st := []) (ci := 4) ok_X4_append ⟨by decide, by decide⟩ ml_X8_83 rfl (by decide) (fun v hv => by simp only [List.mem_cons, List.not_mem_nil, or_false] at hv; rcases hv with rfl <;> first | exact pv_1i | exact pv_1r) (Nat.le_of_ble_eq_true rfl) (fun _ h => h) (by decide) rfl k38 dX8_load_143 H (fun r M39 hq hS => ?_)
    obtain ⟨rfl, H⟩ := hq
    have k40 : mm_k M39 a0 = (8, 8) := ks_S k25 (by decide) hS
    have k41 : mm_k M39 a1 = (0, 4) := ks_S k26 (by decide) hS
    have k42 : mm_k M39 (mm_r M a1 1) = (4, 2) := ks_S k27 (by decide) hS
    have k43 : mm_k M39 (mm_r M (mm_r M (mm_r M a1 1) 0) n6) = (6, 17) := ks_S k28 (by decide) hS
    have k44 : mm_k M39 (mm_r M (mm_r M (mm_r M (mm_r M a1 1) 0) n6) 2) = (3, 14) := ks_S k29 (by decide) hS
    have k45 : mm_k M39 (mm_r M a0 0) = (0, 4) := ks_S k30 (by decide) hS
    have k46 : mm_k M39 (mm_r M (mm_r M a0 1) n6) = (6, 17) := ks_S k31 (by decide) hS
    have k47 : mm_k M39 (mm_r M24 a0 0) = (0, 4) := ks_S k34 (by decide) hS
    have k48 : mm_k M39 (mm_r M24 (mm_r M24 a0 0) 1) = (4, 2) := ks_S k38 (by decide) hS
    have k49 : ak_ M39 (mm_r M (mm_r M a1 1) 0) 3 l3 := ak_S k32 hS
    have k50 : ak_ M39 (mm_r M a0 1) 3 l7 := ak_S k33 hS
    have k51 : ak_ M39 (mm_r M24 a0 1) 3 l35 := ak_S k36 hS
    show go_W mt_X8_load fr_C 146 [some (pv_r a0), some (pv_r a1), some (pv_i x2), some (pv_r (mm_r M (mm_r M (mm_r M a1 1) 0) n6))] [] M39 (qv_ P)
    refine go_iincN (n := n6) (k := 1) hn6 (by decide) rfl rfl dX8_load_146 ?_
    show go_W mt_X8_load fr_C 149 [some (pv_r a0), some (pv_r a1), some (pv_i (nI (n6 + 1))), some (pv_r (mm_r M (mm_r M (mm_r M a1 1) 0) n6))] [] M39 (qv_ P)
    refine go_goto (tgt := 85) dX8_load_149 (by decide) ?_
    exact go_fg (ls' := [some (pv_r a0), some (pv_r a1), some (pv_i (nI (n6 + 1))), none]) ⟨rfl, ⟨rfl, ⟨rfl, trivial⟩⟩⟩ H
set_option maxRecDepth 20000 in
theorem wc_X10_finish_0 {M : mm_T} {a0 : Nat} {x1 x2 : Int32} {P : Int32 → mm_T → Prop} (K0 : mm_k M a0 = (10, 14)) (H : cs_i mt_X10_isCrew [pv_i x1] M (fun v2 M1 => (((v2 = 0) → P (-1 : Int32) M1) ∧ ((¬ v2 = 0) → (((x2 < 0) → P (-1 : Int32) M1) ∧ ((¬ x2 < 0) → (((x2 ≤ (2 : Int32)) → mm_k M1 (mm_r M1 a0 1) = (8, 8) ∧ (cs_v mt_X8_run [pv_r (mm_r M1 a0 1), pv_r (mm_r M1 a0 0), pv_i x1, pv_i (mm_i M1 a0 11)] M1 (fun M5 => ((x2 = (0 : Int32)) → mm_k M5 (mm_r M5 a0 1) = (8, 8) ∧ (P (mm_i M5 (mm_r M5 a0 1) 4) M5)) ∧ ((x2 = (1 : Int32)) → mm_k M5 (mm_r M5 a0 1) = (8, 8) ∧ (P (mm_i M5 (mm_r M5 a0 1) 7) M5)) ∧ ((¬ x2 = (0 : Int32) ∧ ¬ x2 = (1 : Int32)) → mm_k M5 (mm_r M5 a0 1) = (8, 8) ∧ (P (mm_i M5 (mm_r M5 a0 1) 6) M5))))) ∧ ((¬ x2 ≤ (2 : Int32)) → P (-1 : Int32) M1)))))))) : cw_i mt_X10_finish 0 [some (pv_r a0), some (pv_i x1), some (pv_i x2)] [] M P := by
  refine go_iload_n dX10_finish_0 rfl ?_
  refine go_St (av := [pv_i x1]) (st := []) ok_X10_isCrew ⟨by decide, by decide⟩ ml_X10_361 rfl (by decide) (fun v hv => by simp only [List.mem_cons, List.not_mem_nil, or_false] at hv; rcases hv with rfl <;> first | exact pv_1i | exact pv_1r) (Nat.le_of_ble_eq_true rfl) (fun _ h => h) dX10_finish_1 H (fun r M1 hq hS => ?_)
  obtain ⟨v2, rfl, H⟩ := hq
  have k3 : mm_k M1 a0 = (10, 14) := ks_S K0 (by decide) hS
  show go_W mt_X10_finish fr_C 4 [some (pv_r a0), some (pv_i x1), some (pv_i x2)] [pv_i v2] M1 (qi_ P)
  refine go_if_eq (tgt := 16) dX10_finish_4 (by decide) (fun hc => ?_) (fun hc => ?_)
  · replace H := H.1 hc
    refine go_iconst (v := (-1 : Int32)) rfl dX10_finish_16 ?_
    exact go_iret rfl rfl dX10_finish_17 ⟨_, rfl, H⟩
  · replace H := H.2 hc
    refine go_iload_n dX10_finish_7 rfl ?_
    refine go_if_lt (tgt := 16) dX10_finish_8 (by decide) (fun hc => ?_) (fun hc => ?_)
    · replace H := H.1 hc
      refine go_iconst (v := (-1 : Int32)) rfl dX10_finish_16 ?_
      exact go_iret rfl rfl dX10_finish_17 ⟨_, rfl, H⟩
    · replace H := H.2 hc
      refine go_iload_n dX10_finish_11 rfl ?_
      refine go_iconst (v := (2 : Int32)) rfl dX10_finish_12 ?_
      refine go_icmp_le (tgt := 18) dX10_finish_13 (by decide) (fun hc => ?_) (fun hc => ?_)
      · replace H := H.1 hc
        refine go_aload_n dX10_finish_18 rfl ?_
        refine go_getR (k := 1) ⟨by decide, rfl, by decide, Or.inl ⟨_, rfl⟩⟩ k3 fl_X10_19 dX10_finish_19 ?_
        refine go_aload_n dX10_finish_22 rfl ?_
        refine go_getR (k := 0) ⟨by decide, rfl, by decide, Or.inl ⟨_, rfl⟩⟩ k3 fl_X10_10 dX10_finish_23 ?_
        refine go_iload_n dX10_finish_26 rfl ?_
        refine go_aload_n dX10_finish_27 rfl ?_
        refine go_getI (k := 11) ⟨by decide, rfl, by decide, rfl⟩ k3 fl_X10_108 dX10_finish_28 ?_
        obtain ⟨k4, H⟩ := H
        refine go_V (av := [pv_r (mm_r M1 a0 0), pv_i x1, pv_i (mm_i M1 a0 11)]) (st := []) (ci := 8) ok_X8_run ⟨by decide, by decide⟩ ml_X10_364 rfl (by decide) (fun v hv => by simp only [List.mem_cons, List.not_mem_nil, or_false] at hv; rcases hv with rfl | rfl | rfl <;> first | exact pv_1i | exact pv_1r) (Nat.le_of_ble_eq_true rfl) (fun _ h => h) (by decide) rfl k4 dX10_finish_31 H (fun r M5 hq hS => ?_)
        obtain ⟨rfl, H⟩ := hq
        have k6 : mm_k M5 a0 = (10, 14) := ks_S k3 (by decide) hS
        have k7 : mm_k M5 (mm_r M1 a0 1) = (8, 8) := ks_S k4 (by decide) hS
        show go_W mt_X10_finish fr_C 34 [some (pv_r a0), some (pv_i x1), some (pv_i x2)] [] M5 (qi_ P)
        refine go_iload_n dX10_finish_34 rfl ?_
        by_cases hc0 : x2 = (0 : Int32)
        · replace H := H.1 hc0
          refine go_lookIn (tgt := 60) (off := 25) hc0 (by decide) (by first | rfl | decide) (by decide) dX10_finish_35 ?_
          refine go_aload_n dX10_finish_60 rfl ?_
          refine go_getR (k := 1) ⟨by decide, rfl, by decide, Or.inl ⟨_, rfl⟩⟩ k6 fl_X10_19 dX10_finish_61 ?_
          obtain ⟨k8, H⟩ := H
          refine go_getI (k := 4) ⟨by decide, rfl, by decide, rfl⟩ k8 fl_X10_368 dX10_finish_64 ?_
          exact go_iret rfl rfl dX10_finish_67 ⟨_, rfl, H⟩
        replace H := H.2
        by_cases hc1 : x2 = (1 : Int32)
        · replace H := H.1 hc1
          refine go_lookIn (tgt := 68) (off := 33) hc1 (by decide) (by first | rfl | decide) (by decide) dX10_finish_35 ?_
          refine go_aload_n dX10_finish_68 rfl ?_
          refine go_getR (k := 1) ⟨by decide, rfl, by decide, Or.inl ⟨_, rfl⟩⟩ k6 fl_X10_19 dX10_finish_69 ?_
          obtain ⟨k9, H⟩ := H
          refine go_getI (k := 7) ⟨by decide, rfl, by decide, rfl⟩ k9 fl_X10_371 dX10_finish_72 ?_
          exact go_iret rfl rfl dX10_finish_75 ⟨_, rfl, H⟩
        replace H := H.2
        replace H := H ⟨hc0, hc1⟩
        refine go_look (tgt := 76) (off := 41) (by decide) (by rw [lv_osw hc0 (show (0 : Int32).toInt = 0 by decide), lv_osw hc1 (show (1 : Int32).toInt = 1 by decide)]; try rfl) (by decide) dX10_finish_35 ?_
        refine go_aload_n dX10_finish_76 rfl ?_
        refine go_getR (k := 1) ⟨by decide, rfl, by decide, Or.inl ⟨_, rfl⟩⟩ k6 fl_X10_19 dX10_finish_77 ?_
        obtain ⟨k10, H⟩ := H
        refine go_getI (k := 6) ⟨by decide, rfl, by decide, rfl⟩ k10 fl_X10_374 dX10_finish_80 ?_
        exact go_iret rfl rfl dX10_finish_83 ⟨_, rfl, H⟩
      · replace H := H.2 hc
        refine go_iconst (v := (-1 : Int32)) rfl dX10_finish_16 ?_
        exact go_iret rfl rfl dX10_finish_17 ⟨_, rfl, H⟩
