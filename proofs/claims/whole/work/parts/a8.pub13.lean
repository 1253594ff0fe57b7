/-! worker, cause, aside, safe -/
section Pub13
variable {B M M' : mm_T} {I J E : Nat → Nat → Int32} {m n T W P L : Nat} {ta tm : Nat → Nat} {S : Nat → Nat → Bool}
def wkv_ (I : fI) (m w j : Nat) : Int32 := if j ≤ 2 then (if ra_W I m w 0 = -1 then -1 else if j = 0 then ra_W I m w 0 else if j = 1 then ra_T I m (ra_W I m w 0).toNatClampNeg 10 else ra_T I m (ra_W I m w 0).toNatClampNeg 11) else ra_W I m w (j - 2)
theorem sm_worker (h : ix_ I m n T W P L) {x1 x2 : Int32} : ∃ v, sm_ I m n T W P L (v, I) (fun M Q => cs_i mt_X10_worker [pv_r 5, pv_i x1, pv_i x2] M Q) (fun B J Q => rs_i mt_X11_worker [pv_r m, pv_i x1, pv_i x2] B J Q) := by
  have h4 := ix_4 h
  refine qu_ (v := if (0 ≤ x1 ∧ x1 ≤ 5) ∧ (0 ≤ x2 ∧ x2 ≤ 5) then wkv_ I m x1.toNatClampNeg x2.toNatClampNeg else -1) h (fun M ta tm Q hr K => ?_) (fun S E B Q hS RK hJ K => ?_)
  · refine wc_X10_worker_0 (re_m5 hr) (ce_workerAt hr (fun w hw e => ⟨fun _ => ⟨(hr.1.1.2.2.1.2.1 w hw).2.1, wc_X9_tell_0 (hr.1.1.2.2.1.2.1 w hw).2.1 ?_⟩, fun q => absurd q (by omega)⟩) (fun q => ⟨fun y => absurd rfl y, fun _ => ?_⟩))
    · have key : ∀ f, f < 6 → x2 = nI f → Q (wkv_ I m w f) M := fun f hf e2 => by
        rw [if_pos ⟨by rw [e]; exact in_5 hw, by rw [e2]; exact in_5 hf⟩, e, e2, nI_clamp (by omega), nI_clamp (by omega)] at K
        exact K
      obtain ⟨r0, r1, r2, r3⟩ := hr.2.1.2.2.1 w hw
      rw [r0, r1, r2, r3]
      have fin : (¬ x2 = 0 ∧ ¬ x2 = 1 ∧ ¬ x2 = 2 ∧ ¬ x2 = 3 ∧ ¬ x2 = 4 ∧ ¬ x2 = 5) → Q (-1) M := fun q => by
        rw [if_neg (fun y => ?_)] at K
        · exact K
        · obtain ⟨f, hf, rfl⟩ := i32_in (N := 5) (by decide) y.2
          obtain ⟨q0, q1, q2, q3, q4, q5⟩ := q
          have : f = 0 ∨ f = 1 ∨ f = 2 ∨ f = 3 ∨ f = 4 ∨ f = 5 := by omega
          rcases this with rfl | rfl | rfl | rfl | rfl | rfl
          · exact q0 rfl
          · exact q1 rfl
          · exact q2 rfl
          · exact q3 rfl
          · exact q4 rfl
          · exact q5 rfl
      rcases h.1.2.2.1.2.2 w hw with z | ⟨t, t1, t2, t3, t4⟩
      · have e0 : rft ta (ra_W I m w 0) = 0 := if_pos z
        rw [e0]
        have k0 : ∀ f, f < 3 → x2 = nI f → Q (-1) M := fun f hf e2 => by
          have K := key f (by omega) e2
          unfold wkv_ at K
          rw [if_pos (by omega), if_pos z] at K
          exact K
        exact ⟨fun e2 => ⟨fun y => absurd rfl y, fun _ => k0 0 (by decide) e2⟩, fun e2 => ⟨fun y => absurd rfl y, fun _ => k0 1 (by decide) e2⟩, fun e2 => ⟨fun y => absurd rfl y, fun _ => k0 2 (by decide) e2⟩, fun e2 => key 3 (by decide) e2, fun e2 => key 4 (by decide) e2, fun e2 => key 5 (by decide) e2, fin⟩
      · have e0 : rft ta (ra_W I m w 0) = ta t := by unfold rft; rw [t2, if_neg (nI_nm (by omega)), nI_clamp (by omega)]
        have g := re_ge hr t1
        obtain ⟨⟨-, -, n0, -⟩, -, ⟨-, n10, n11⟩, -⟩ := hr.1.2.2.1.1 t t1
        have nn : ra_T I m t 10 ≠ -1 ∧ ra_T I m t 11 ≠ -1 := by
          rcases h.1.2.2.1.1 t t1 with ⟨-, w2, k, en, -, -, -, hk, ek, he, ee⟩ | ⟨z, -⟩
          · exact ⟨by rw [ek]; exact nI_nm (by omega), by rw [ee]; exact nI_nm (by omega)⟩
          · exact absurd t3 z
        rw [e0, n0, n10 nn.1, n11 nn.2]
        have nm : ¬ nI t = (-1 : Int32) := nI_nm (by omega)
        refine ⟨fun e2 => ⟨fun _ => ⟨g.2, ?_⟩, fun y => absurd y (by omega)⟩, fun e2 => ⟨fun _ => ⟨g.2, ?_⟩, fun y => absurd y (by omega)⟩, fun e2 => ⟨fun _ => ⟨g.2, ?_⟩, fun y => absurd y (by omega)⟩, fun e2 => key 3 (by decide) e2, fun e2 => key 4 (by decide) e2, fun e2 => key 5 (by decide) e2, fin⟩
        · have K := key 0 (by decide) e2
          unfold wkv_ at K
          rw [t2, if_pos (by omega), if_neg nm, if_pos rfl] at K
          exact K
        · have K := key 1 (by decide) e2
          unfold wkv_ at K
          rw [t2, if_pos (by omega), if_neg nm, if_neg (by omega), if_pos rfl, nI_clamp (by omega)] at K
          exact K
        · have K := key 2 (by decide) e2
          unfold wkv_ at K
          rw [t2, if_pos (by omega), if_neg nm, if_neg (by omega), if_neg (by omega), nI_clamp (by omega)] at K
          exact K
    · rw [if_neg (fun y => q y.1)] at K
      exact K
  · refine wq_X11_worker_0 RK ⟨fun c1 => ⟨fun c2 => ?_, fun c2 => ?_⟩, fun c1 => ?_⟩
    · rw [if_pos ⟨c1, c2⟩] at K
      obtain ⟨w, hw, rfl⟩ := i32_in (N := 5) (by decide) c1
      obtain ⟨f, hf, rfl⟩ := i32_in (N := 5) (by decide) c2
      rw [nI_clamp (by omega), nI_clamp (by omega)] at K
      unfold wkv_ at K
      have uW : pt_ S E I (m + 1) (60 + 4 * w) = ra_W I m w 0 := uf_at hS (by omega) (by omega)
      refine ⟨fun c3 => ⟨w, ⟨rfl, by omega⟩, ?_⟩, fun c3 => ?_⟩
      · have hf2 : f ≤ 2 := (nI_leI (b := 2) (by omega) (by decide)).mp c3
        rw [if_pos hf2] at K
        rw [uW]
        rcases h.1.2.2.1.2.2 w (by omega) with z | ⟨t, t1, t2, t3, t4⟩
        · rw [if_pos z] at K
          refine ⟨fun _ => by rw [z]; exact K, fun y => absurd z y⟩
        · have nm : ¬ nI t = (-1 : Int32) := nI_nm (by omega)
          rw [t2, if_neg nm, nI_clamp (by omega)] at K
          rw [t2]
          refine ⟨fun y => absurd y nm, fun _ => ⟨fun y => ⟨fun y2 => ⟨t, ⟨rfl, by omega⟩, ?_⟩, fun y2 => ⟨t, ⟨rfl, by omega⟩, ?_⟩⟩, fun y => ?_⟩⟩
          · have f0 : f ≠ 0 := fun z => y (by rw [z]; rfl)
            have f1 : f ≠ 1 := fun z => y2 (by rw [z]; rfl)
            rw [if_neg f0, if_neg f1] at K
            rw [uf_at hS (by omega) (by omega)]
            exact K
          · have f1 : f = 1 := (nI_eq (b := 1) (by omega) (by decide)).mp y2
            rw [if_neg (by omega), if_pos f1] at K
            rw [uf_at hS (by omega) (by omega)]
            exact K
          · have f0 : f = 0 := (nI_eq (b := 0) (by omega) (by decide)).mp y
            rw [if_pos f0] at K
            exact K
      · have hf2 : ¬ f ≤ 2 := fun z => c3 (show nI f ≤ nI 2 from nI_le z (by decide))
        rw [if_neg hf2] at K
        refine ⟨w, ⟨rfl, by omega⟩, 60 + 4 * w + (f - 2), ⟨?_, by omega⟩, ?_⟩
        · rw [nI_add, show 60 + 4 * w + f = 60 + 4 * w + (f - 2) + 2 by omega, ← nI_add _ 2]
          exact Int32.add_sub_cancel _ _
        · rw [uf_at hS (by omega) (by omega)]
          exact K
    · rw [if_neg (fun y => c2 y.2)] at K
      exact K
    · rw [if_neg (fun y => c1 y.1)] at K
      exact K
theorem ix_ca (h : ix_ I m n T W P L) {t : Nat} (ht : t < n) : ∃ c, c ≤ 20 ∧ I (m + 4) t = nI c := h.2.2.2.2.2.2.2.2 t ht
theorem sm_cause (h : ix_ I m n T W P L) {x1 x2 : Int32} : ∃ v, sm_ I m n T W P L (v, I) (fun M Q => cs_i mt_X10_cause [pv_r 5, pv_i x1, pv_i x2] M Q) (fun B J Q => rs_i mt_X11_cause [pv_r m, pv_i x1, pv_i x2] B J Q) := by
  have h4 := ix_4 h
  refine qu_ (v := if 0 ≤ x1 ∧ x1 ≤ nI n - 1 then (if x2 = -1 then I (m + 4) x1.toNatClampNeg else if 0 ≤ x2 ∧ x2 ≤ I (m + 4) x1.toNatClampNeg - 1 then I (m + 5) (20 * x1.toNatClampNeg + x2.toNatClampNeg) else -1) else -1) h (fun M ta tm Q hr K => ?_) (fun S E B Q hS RK hJ K => ?_)
  · refine wc_X10_cause_0 (re_m5 hr) (ce_taskAt hr (fun t ht e => ⟨fun _ => ⟨(re_ge hr ht).2, wc_X6_causeAt_0 (re_ge hr ht).2 ?_⟩, fun q => absurd q (by have := (re_ge hr ht).1; omega)⟩) (fun q => ⟨fun y => absurd rfl y, fun _ => by rw [if_neg q] at K; exact K⟩))
    obtain ⟨c, hc, ec⟩ := ix_ca h ht
    obtain ⟨-, -, -, d1, d2⟩ := hr.1.2.2.1.1 t ht
    rw [if_pos ((i32_tk h4).mpr ⟨t, ht, e⟩), e, nI_clamp (by omega), ec] at K
    rw [d1, ec]
    refine ⟨fun q => ?_, fun q => by rw [if_pos q] at K; exact K⟩
    rw [if_neg q] at K
    refine ⟨fun z => ?_, fun z => ⟨fun y => ?_, fun y => ⟨fun y2 => ?_, fun y2 => ?_⟩⟩⟩
    · rcases d2 with ⟨-, d3⟩ | ⟨d3, -⟩
      · have c0 : c = 0 := (nI_eq (b := 0) (by omega) (by decide)).mp (ec.symm.trans d3)
        rw [if_neg (fun y => ?_)] at K
        · exact K
        · obtain ⟨j, hj, -⟩ := (i32_tk (n := c) (by omega)).mp y
          omega
      · omega
    · rw [if_neg (fun y2 => absurd y (Int32.not_lt.mpr y2.1))] at K
      exact K
    · obtain ⟨j, hj, rfl⟩ := nI_of y
      have hjc : j < c := (nI_ltI hj (by omega)).mp y2
      rw [if_pos ((i32_tk (n := c) (by omega)).mpr ⟨j, hjc, rfl⟩), nI_clamp (by omega)] at K
      rcases d2 with ⟨d3, -⟩ | ⟨d3, d4, d5⟩
      · exact absurd d3 z
      · refine ⟨20, d4, j, ⟨rfl, by omega⟩, ?_⟩
        rw [d5 j (by omega) (by rw [ec]; exact nI_lt hjc (by omega))]
        exact K
    · rw [if_neg (fun z2 => ?_)] at K
      · exact K
      · obtain ⟨j, hj, rfl⟩ := (i32_tk (n := c) (by omega)).mp z2
        exact y2 (nI_lt hj (by omega))
  · refine wq_X11_cause_0 RK ?_
    rw [ix_1 hJ]
    refine ⟨fun c1 => ?_, fun c1 => by rw [if_neg c1] at K; exact K⟩
    rw [if_pos c1] at K
    obtain ⟨t, ht, rfl⟩ := (i32_tk h4).mp c1
    obtain ⟨c, hc, ec⟩ := ix_ca h ht
    rw [nI_clamp (by omega)] at K
    refine ⟨fun q => ⟨t, ⟨rfl, by omega⟩, ?_⟩, fun q => ⟨t, ⟨rfl, by omega⟩, ?_⟩⟩
    · rw [if_neg q] at K
      rw [uf_at hS (by omega) (by omega)]
      refine ⟨fun z => ?_, fun z => by rw [if_neg z] at K; exact K⟩
      rw [if_pos z] at K
      rw [ec] at z
      obtain ⟨j, hj, rfl⟩ := (i32_tk (n := c) (by omega)).mp z
      rw [nI_clamp (by omega)] at K
      refine ⟨20 * t + j, ⟨?_, by omega⟩, ?_⟩
      · rw [show (20 : Int32) = nI 20 from rfl, pk_mul, nI_add]
      · rw [uf_at hS (by omega) (by omega)]
        exact K
    · rw [if_pos q] at K
      rw [uf_at hS (by omega) (by omega)]
      exact K
theorem sm_aside (h : ix_ I m n T W P L) {x1 : Int32} : ∃ v, sm_ I m n T W P L (v, I) (fun M Q => cs_i mt_X10_aside [pv_r 5, pv_i x1] M Q) (fun B J Q => rs_i mt_X11_aside [pv_r m, pv_i x1] B J Q) := by
  have h4 := ix_4 h
  obtain ⟨as, s1, s2, s3, s4⟩ := h.2.1.2.1
  have hl : as.length ≤ 400 := by
    have := List.Nodup.length_le_of_subset (l₂ := List.range n) s2 (fun t q => List.mem_range.mpr ((s3 t).mp q).1)
    rw [List.length_range] at this
    omega
  refine qu_ (v := if 0 ≤ x1 ∧ x1 ≤ nI as.length - 1 then I (m + 1) (5800 + x1.toNatClampNeg) else -1) h (fun M ta tm Q hr K => ?_) (fun S E B Q hS RK hJ K => ?_)
  · refine wc_X10_aside_0 (re_m5 hr) ?_
    obtain ⟨as', a1, a2, a3, a4⟩ := hr.2.1.2.1
    have el : as'.length = as.length := (nI_eq (by omega) (by omega)).mp (a1.symm.trans s1)
    rw [hr.1.1.1.2.2.2.2.1]
    refine ⟨a4.1, cc_at a4 (fun i x e hx => ?_) (fun q => ?_)⟩
    · rw [List.getElem?_map] at hx
      cases ho : as'[i]? with
      | none => rw [ho] at hx; cases hx
      | some t =>
        rw [ho] at hx
        have ex : ta t = x := by simpa using hx
        obtain ⟨z1, z2⟩ := a3 i t ho
        have hi : i < as'.length := gl_lt ho
        rw [if_pos ((i32_tk (by omega)).mpr ⟨i, by omega, e⟩), e, nI_clamp (by omega), z1] at K
        rw [← ex]
        exact ce_number hr (o := some t) (fun t' e' => by cases e'; exact z2) K
    · rw [if_neg (fun y => q ?_)] at K
      · exact ce_number hr (o := none) (fun t' e' => by cases e') K
      · obtain ⟨i, hi, e⟩ := (i32_tk (by omega)).mp y
        exact ⟨i, by rw [List.length_map]; omega, e⟩
  · refine wq_X11_aside_0 RK ?_
    rw [show pt_ S E I (m + 1) 3 = nI as.length from (uf_at hS (by omega) (by omega)).trans s1]
    refine ⟨fun c => ?_, fun c => by rw [if_neg c] at K; exact K⟩
    rw [if_pos c] at K
    obtain ⟨i, hi, rfl⟩ := (i32_tk (by omega)).mp c
    rw [nI_clamp (by omega)] at K
    refine ⟨5800 + i, ⟨?_, by omega⟩, ?_⟩
    · rw [show (5800 : Int32) = nI 5800 from rfl, nI_add]
    · rw [uf_at hS (by omega) (by omega)]
      exact K
theorem sm_safe (h : ix_ I m n T W P L) {x1 : Int32} : ∃ v, sm_ I m n T W P L (v, I) (fun M Q => cs_i mt_X10_safe [pv_r 5, pv_i x1] M Q) (fun B J Q => rs_i mt_X11_safe [pv_r m, pv_i x1] B J Q) := by
  have h4 := ix_4 h
  refine qu_ (v := if (0 ≤ x1 ∧ x1 ≤ nI n - 1) ∧ ra_T I m x1.toNatClampNeg 6 = 0 then (if I (m + 1) 0 ≤ 9 * I (m + 1) 4 - ra_rank I m x1.toNatClampNeg then 9 * I (m + 1) 4 - ra_rank I m x1.toNatClampNeg else I (m + 1) 0) else -1) h (fun M ta tm Q hr K => ?_) (fun S E B Q hS RK hJ K => ?_)
  · obtain ⟨b1, b2⟩ := re_bk hr
    obtain ⟨r1, r2, r3⟩ := re_rules hr
    refine wc_X10_safe_0 (re_m5 hr) (ce_taskAt hr (fun t ht e => ⟨fun q => absurd q (by have := (re_ge hr ht).1; omega), fun _ => ⟨(re_ge hr ht).2, ?_⟩⟩) (fun q => ⟨fun _ => by rw [if_neg (fun y => q y.1)] at K; exact K, fun y => absurd rfl y⟩))
    rw [e, nI_clamp (by omega)] at K
    rw [(hr.1.2.2.1.1 t ht).2.1.2.2.2.2.1, b1, r1]
    refine ⟨fun z => ⟨b2, 6, r2, by decide, wc_X6_rankBy_0 (re_ge hr ht).2 ?_⟩, fun z => by rw [if_neg (fun y => z y.2)] at K; exact K⟩
    rw [if_pos ⟨(i32_tk h4).mpr ⟨t, ht, rfl⟩, z⟩] at K
    rw [(hr.1.2.2.1.1 t ht).2.1.1, (hr.1.2.2.1.1 t ht).2.1.2.2.2.1, r3 0 (by decide), hr.2.2.2.2.1.1]
    have mx : ∀ a b : Int32, (if a < b then b else a) = if a ≤ b then b else a := fun a b => by
      by_cases q : a < b
      · rw [if_pos q, if_pos (Int32.le_of_lt q)]
      · rw [if_neg q]
        by_cases q2 : a ≤ b
        · rw [if_pos q2]
          exact Int32.le_antisymm q2 (Int32.not_lt.mp q)
        · rw [if_neg q2]
    rw [mx]
    exact K
  · refine wq_X11_safe_0 RK (wq_X11_doesWait_0 RK ?_)
    rw [ix_1 hJ]
    refine ⟨fun c => ?_, fun c => ⟨fun _ => by rw [if_neg (fun y => c y.1)] at K; exact K, fun q => absurd rfl q⟩⟩
    obtain ⟨t, ht, rfl⟩ := (i32_tk h4).mp c
    rw [nI_clamp (by omega)] at K
    refine ⟨t, ⟨rfl, by omega⟩, ?_⟩
    rw [show pt_ S E I (m + 1) (200 + 14 * t + 6) = ra_T I m t 6 from uf_at hS (by omega) (by omega)]
    refine ⟨fun z => ⟨fun _ => by rw [if_neg (fun y => z y.2)] at K; exact K, fun q => absurd rfl q⟩, fun z => ⟨fun q => absurd q (by decide), fun _ => ⟨t, ⟨rfl, by omega⟩, ?_⟩⟩⟩
    rw [if_pos ⟨c, z⟩] at K
    rw [uf_at hS (by omega) (by omega), uf_at hS (by omega) (by omega), nt_rank (uf_us hS)]
    exact K
end Pub13
