/-! store -/
section Pub14
variable {B M M' : mm_T} {I J E : Nat → Nat → Int32} {m n T W P L : Nat} {ta tm : Nat → Nat} {S : Nat → Nat → Bool}
theorem rc_live4 (RK : rf_ok B m) (hn : I (m + 1) 1 = nI n) (h4 : n ≤ 400) {Q : Int32 → fI → Prop} (K : Q (nI (cn_ (fun l => ra_live I m n (nI l)) 5)) I) : ∀ (j c : Nat), c + j = 5 → rw_i mt_X11_liveMany 4 [some (pv_r m), some (pv_i (nI (cn_ (fun l => ra_live I m n (nI l)) c))), some (pv_i (nI c))] [] B I Q
  | 0, c, hc => by
    have : c = 5 := by omega
    subst this
    exact wq_X11_liveMany_4 RK ⟨fun _ => K, fun q => absurd (by decide) q⟩
  | j + 1, c, hc => by
    have ih := rc_live4 RK hn h4 K j (c + 1) (by omega)
    refine wq_X11_liveMany_4 RK ⟨fun q => absurd q (nI_5 (by omega)), fun _ => rc_isLive RK hn h4 ?_⟩
    rw [nI_1]
    have es : cn_ (fun l => ra_live I m n (nI l)) (c + 1) = cn_ (fun l => ra_live I m n (nI l)) c + if ra_live I m n (nI c) = true then 1 else 0 := rfl
    by_cases z : ra_live I m n (nI c) = true
    · rw [if_pos z]
      rw [es, if_pos z] at ih
      refine ⟨fun q => absurd q (by decide), fun _ => ?_⟩
      rw [nI_1]
      exact ih
    · rw [if_neg z]
      rw [es, if_neg z] at ih
      refine ⟨fun _ => ?_, fun q => absurd rfl q⟩
      rw [nI_a0]
      exact ih
def stv_ (I : fI) (m n : Nat) (x : Int32) : Int32 := if 1 ≤ x ∧ x ≤ 7 then nI (cn_ (ra_many I m (-1) (x - 1)) n) else if 13 ≤ x ∧ x ≤ 18 then I (m + 1) (4 + (x - 13).toNatClampNeg) else if x = 0 then I (m + 1) 0 else if x = 8 then I (m + 1) 1 else if x = 9 then nI (cn_ (ra_st I m (-1)) n) else if x = 10 then I m 7 else if x = 11 then I (m + 1) 2 else if x = 12 then nI (cn_ (fun l => ra_live I m n (nI l)) 5) else -1
theorem sub_nI {a b : Nat} : nI (a + b) - nI b = nI a := by
  rw [← nI_add]
  exact Int32.add_sub_cancel _ _
theorem sm_store (h : ix_ I m n T W P L) {x1 : Int32} : ∃ v, sm_ I m n T W P L (v, I) (fun M Q => cs_i mt_X10_store [pv_r 5, pv_i x1] M Q) (fun B J Q => rs_i mt_X11_store [pv_r m, pv_i x1] B J Q) := by
  have h4 := ix_4 h
  refine qu_ (v := stv_ I m n x1) h (fun M ta tm Q hr K => ?_) (fun S E B Q hS RK hJ K => ?_)
  · obtain ⟨b1, b2⟩ := re_bk hr
    obtain ⟨r1, r2, r3⟩ := re_rules hr
    obtain ⟨s1, s2, s3, s4, s5, s6, s7, s8, s9, -⟩ := br_S hr.1.2.1
    have hO : ro_ M 79 80 400 ((List.range n).map ta) := hr.2.1.1
    have l79 : mm_i M 79 1 = nI n := by
      have := hO.2.2.2.2.2.1
      rwa [List.length_map, List.length_range] at this
    have l8 : mm_i M 8 1 = nI (cn_ (ra_st I m (-1)) n) := by
      have := hr.1.2.1.1.2.2.2.2.1.2.2.2.2.2.1
      rwa [List.length_map, lkS (ix_tv h)] at this
    have blk : (¬ (1 ≤ x1 ∧ x1 ≤ 7)) → (¬ (13 ≤ x1 ∧ x1 ≤ 18)) → ((x1 = (0)) → Q (mm_i M 5 11) M) ∧ ((x1 = (8)) → mm_k M (mm_r M 5 2) = (4, 2) ∧ (Q (mm_i M (mm_r M 5 2) 1) M)) ∧ ((x1 = (9)) → mm_k M (mm_r M 5 0) = (0, 4) ∧ (mm_k M (mm_r M (mm_r M 5 0) 1) = (4, 2) ∧ (Q (mm_i M (mm_r M (mm_r M 5 0) 1) 1) M))) ∧ ((x1 = (10)) → Q (mm_i M 5 13) M) ∧ ((x1 = (11)) → Q (mm_i M 5 12) M) ∧ ((x1 = (12)) → mm_k M (mm_r M 5 0) = (0, 4) ∧ (cs_i mt_X0_liveLanes [pv_r (mm_r M 5 0)] M (fun v6 M5 => Q v6 M5))) ∧ ((¬ x1 = (0) ∧ ¬ x1 = (8) ∧ ¬ x1 = (9) ∧ ¬ x1 = (10) ∧ ¬ x1 = (11) ∧ ¬ x1 = (12)) → Q (-1) M) := fun n1 n13 => by
      unfold stv_ at K
      rw [if_neg n1, if_neg n13] at K
      rw [b1, hr.1.1.1.2.2.2.1, s4, l79, l8, hr.2.2.2.2.1.1, hr.2.2.2.2.1.2.1, hr.2.2.2.2.1.2.2]
      refine ⟨fun e => by rw [e] at K; exact K, fun e => ⟨hO.1, ?_⟩, fun e => ⟨b2, s5, by rw [e] at K; exact K⟩, fun e => by rw [e] at K; exact K, fun e => by rw [e] at K; exact K, fun e => ⟨b2, cb_live hr.1.2.1 (by rw [e] at K; exact K)⟩, fun e => ?_⟩
      · rw [e] at K
        rw [← ix_1 h]
        exact K
      · rw [if_neg e.1, if_neg e.2.1, if_neg e.2.2.1, if_neg e.2.2.2.1, if_neg e.2.2.2.2.1, if_neg e.2.2.2.2.2] at K
        exact K
    refine wc_X10_store_0 (re_m5 hr) ⟨fun c1 => ⟨fun _ => blk (fun z => absurd z.1 (Int32.not_le.mpr c1)) (fun z => absurd (Int32.le_trans (by decide) z.1) (Int32.not_le.mpr c1)), fun c2 => absurd (Int32.lt_of_lt_of_le c1 (by decide)) c2⟩, fun c1 => ⟨fun c7 => ?_, fun c7 => ?_⟩⟩
    · have n7 : ¬ (1 ≤ x1 ∧ x1 ≤ 7) := fun z => absurd z.2 (Int32.not_le.mpr c7)
      refine ⟨fun c13 => blk n7 (fun z => absurd z.1 (Int32.not_le.mpr c13)), fun c13 => ⟨hr.1.1.2.2.2.2.2.2.1.1, fun c19 => blk n7 (fun z => ?_), fun c19 => ?_⟩⟩
      · have : (13 : Int32) + nI 6 ≤ 18 := Int32.le_trans c19 z.2
        exact absurd this (by decide)
      · have hi : x1 ≤ 18 := by
          obtain ⟨j, hj, rfl⟩ := nI_of (x := x1) (fun z => c1 (Int32.lt_of_lt_of_le z (by decide)))
          have : ¬ nI 19 ≤ nI j := c19
          rw [nI_leI (by decide) hj] at this
          exact show nI j ≤ nI 18 from nI_le (by omega) (by decide)
        have lo : 13 ≤ x1 := Int32.not_lt.mp c13
        obtain ⟨j, hj, rfl⟩ := i32_in (N := 18) (by decide) ⟨Int32.le_trans (by decide) lo, hi⟩
        have lo' : 13 ≤ j := (nI_leI (a := 13) (by decide) (by omega)).mp lo
        obtain ⟨k, rfl⟩ : ∃ k, j = k + 13 := ⟨j - 13, by omega⟩
        have es : nI (k + 13) - 13 = nI k := sub_nI
        unfold stv_ at K
        rw [if_neg n7, if_pos ⟨lo, hi⟩, es, nI_clamp (by omega)] at K
        rw [b1, r1]
        refine ⟨b2, 6, r2, k, ⟨es, by omega⟩, ?_⟩
        rw [r3 k (by omega)]
        exact K
    · have lo : 1 ≤ x1 := Int32.not_lt.mp c1
      have hi : x1 ≤ 7 := Int32.not_lt.mp c7
      obtain ⟨j, hj, rfl⟩ := i32_in (N := 7) (by decide) ⟨Int32.le_trans (by decide) lo, hi⟩
      have lo' : 1 ≤ j := (nI_leI (a := 1) (by decide) (by omega)).mp lo
      obtain ⟨k, rfl⟩ : ∃ k, j = k + 1 := ⟨j - 1, by omega⟩
      have es : nI (k + 1) - 1 = nI k := sub_nI
      unfold stv_ at K
      rw [if_pos ⟨lo, hi⟩, es] at K
      rw [b1, s8]
      refine ⟨b2, 7, s9, k, ⟨es, by omega⟩, ?_⟩
      rw [hr.1.2.1.1.2.2.2.1 k (by omega), lkC]
      exact K
  · unfold stv_ at K
    refine wq_X11_store_0 RK ⟨fun c => rc_manyOf RK (ix_1 hJ) h4 (by rw [nt_many (uf_us hS)]; rw [if_pos c] at K; exact K), fun c => ⟨fun c2 => ?_, fun c2 => ?_⟩⟩
    · rw [if_neg c, if_pos c2] at K
      obtain ⟨j, hj, rfl⟩ := i32_in (N := 18) (by decide) ⟨Int32.le_trans (by decide) c2.1, c2.2⟩
      have lo' : 13 ≤ j := (nI_leI (a := 13) (by decide) (by omega)).mp c2.1
      obtain ⟨k, rfl⟩ : ∃ k, j = k + 13 := ⟨j - 13, by omega⟩
      have es : nI (k + 13) - 13 = nI k := sub_nI
      rw [es, nI_clamp (by omega)] at K
      refine ⟨4 + k, ⟨?_, by omega⟩, ?_⟩
      · rw [show (4 : Int32) = nI 4 from rfl, nI_add, show 4 + (k + 13) = 4 + k + 13 by omega]
        exact sub_nI
      · rw [uf_at hS (by omega) (by omega)]
        exact K
    · rw [if_neg c, if_neg c2] at K
      rw [uf_at hS (by omega) (by omega), uf_at hS (by omega) (by omega), uf_at hS (by omega) (by omega), uf_at hS (by omega) (by omega)]
      refine ⟨fun e => by rw [e] at K; exact K, fun e => by rw [e] at K; exact K, fun e => rc_standing RK (ix_1 hJ) h4 (by rw [nt_st (uf_us hS)]; rw [e] at K; exact K), fun e => by rw [e] at K; exact K, fun e => by rw [e] at K; exact K, fun e => wq_X11_liveMany_0 RK (rc_live4 RK (ix_1 hJ) h4 ?_ 5 0 rfl), fun e => ?_⟩
      · rw [show (fun l => ra_live (pt_ S E I) m n (nI l)) = fun l => ra_live I m n (nI l) from funext (fun l => nt_live (uf_us hS))]
        rw [e] at K
        exact K
      · rw [if_neg e.1, if_neg e.2.1, if_neg e.2.2.1, if_neg e.2.2.2.1, if_neg e.2.2.2.2.1, if_neg e.2.2.2.2.2] at K
        exact K
end Pub14
