/-! rule, arrange, raise: class and reference -/
section Pub7
variable {B M M' : mm_T} {I J E : Nat → Nat → Int32} {m n T W P L : Nat} {ta tm : Nat → Nat} {S : Nat → Nat → Bool}
theorem ix_fr (h : ix_ I m n T W P L) (hT : ivT J m n) (hL : ivL J m) (j1 : ∀ j, (j < 4 ∨ 60 ≤ j ∧ j < 84 ∨ 5800 ≤ j) → J (m + 1) j = I (m + 1) j) (jL : ∀ l f, l < 5 → (f = 3 ∨ f = 4) → ra_L J m l f = ra_L I m l f) (jT : ∀ t f, t < n → f < 12 → f ≠ 1 → ra_T J m t f = ra_T I m t f) (jo : ∀ a j, a ≠ m + 1 → J a j = I a j) : ix_ J m n T W P L := by
  obtain ⟨⟨a1, a2, a3, a4⟩, ⟨b1, b2, b3, b4⟩, c⟩ := id h
  have j6 : ∀ t, t < n → ra_T J m t 6 = ra_T I m t 6 := fun t q => jT t 6 q (by decide) (by decide)
  refine ⟨⟨hT, hL, ivW_o a3 (fun t f q _ q2 _ => jT t f q q2 (by omega)) (fun w q => j1 _ (by omega)), ivH_o a4 (fun t q => jT t 4 q (by decide) (by decide)) (fun t q z => by rw [j6 t q] at z; exact z) (fun t q _ _ _ q2 z => by rw [j6 q q2]; exact z)⟩, ⟨ivC_o b1 (fun l q => jL l 3 q (by omega)) (fun t q => jT t 0 q (by decide) (by decide)) (fun t q z => by rw [j6 t q]; exact z), ivS_o b2 (j1 _ (by omega)) (fun j q => j1 _ (by omega)) (fun t q => by rw [j6 t q]), ivR_o b3 (fun t q z => by rw [j6 t q] at z; exact z), fun t q1 q2 => (jo _ _ (by omega)).trans (b4 t q1 q2)⟩, ?_⟩
  obtain ⟨⟨x, x1, x2⟩, c2, c3, c4, c5, c6, c7⟩ := c
  exact ⟨⟨x, by omega, by rw [j1 _ (by omega), x2]⟩, by rw [j1 _ (by omega)]; exact c2, fun l q => by rw [jL l 4 q (by omega)]; exact c3 l q, by rw [jo _ _ (by omega)]; exact c4, (jo _ _ (by omega)).trans c5, fun j => ⟨(jo _ _ (by omega)).trans (c6 j).1, (jo _ _ (by omega)).trans (c6 j).2⟩, fun t q => by rw [jo _ _ (by omega)]; exact c7 t q⟩
/-! rule -/
def most_ (k : Nat) : Nat := if k < 2 then 99 else if k = 2 then 20 else if k = 4 then 48 else 9
theorem rc_most (RK : rf_ok B m) {k : Nat} (hk : k < 6) {Q : Int32 → fI → Prop} (K : Q (nI (most_ k)) I) : rs_i mt_X11_mostOf [pv_i (nI k)] B I Q := by
  have : k = 0 ∨ k = 1 ∨ k = 2 ∨ k = 3 ∨ k = 4 ∨ k = 5 := by omega
  rcases this with rfl | rfl | rfl | rfl | rfl | rfl
  · exact wq_X11_mostOf_0 RK ⟨fun q => absurd q (by decide), fun _ => K⟩
  · exact wq_X11_mostOf_0 RK ⟨fun q => absurd q (by decide), fun _ => K⟩
  · exact wq_X11_mostOf_0 RK ⟨fun _ => ⟨fun q => absurd (by decide) q, fun _ => K⟩, fun q => absurd (by decide) q⟩
  · exact wq_X11_mostOf_0 RK ⟨fun _ => ⟨fun _ => ⟨fun _ => K, fun q => absurd q (by decide)⟩, fun q => absurd q (by decide)⟩, fun q => absurd (by decide) q⟩
  · exact wq_X11_mostOf_0 RK ⟨fun _ => ⟨fun _ => ⟨fun q => absurd (by decide) q, fun _ => K⟩, fun q => absurd q (by decide)⟩, fun q => absurd (by decide) q⟩
  · exact wq_X11_mostOf_0 RK ⟨fun _ => ⟨fun _ => ⟨fun _ => K, fun q => absurd q (by decide)⟩, fun q => absurd q (by decide)⟩, fun q => absurd (by decide) q⟩
theorem ix_ru (h : ix_ I m n T W P L) {k v : Nat} (hk : k < 6) (hv : 1 ≤ v) (hv2 : v ≤ most_ k) : ix_ (i2_u I (m + 1) (4 + k) (nI v)) m n T W P L := by
  have eT : ∀ t f, ra_T (i2_u I (m + 1) (4 + k) (nI v)) m t f = ra_T I m t f := fun t f => i2_uj (by omega)
  obtain ⟨d, e1, e2, e3, e4, e5, e6⟩ := h.1.2.1
  have key : ∀ i b, i < 6 → most_ i < b → (∃ a, a < b ∧ 1 ≤ a ∧ I (m + 1) (4 + i) = nI a) → ∃ a, a < b ∧ 1 ≤ a ∧ i2_u I (m + 1) (4 + k) (nI v) (m + 1) (4 + i) = nI a := fun i b hi hb e => by
    rw [i2_at]
    by_cases z : i = k
    · subst z
      rw [if_pos ⟨rfl, rfl⟩]
      exact ⟨v, by omega, hv, rfl⟩
    · rw [if_neg (by omega)]
      exact e
  refine ix_fr h (ivT_o h.1.1 (i2_uj (by omega)) (fun t f _ _ => eT t f) (fun t q => by rw [eT]; exact ix_s h q) (fun t q z => by rw [eT] at z ⊢; exact ix_7 h q z)) ⟨fun l q => ?_, key 0 100 (by decide) (by decide) e1, key 1 100 (by decide) (by decide) e2, key 2 21 (by decide) (by decide) e3, key 3 10 (by decide) (by decide) e4, key 4 49 (by decide) (by decide) e5, key 5 10 (by decide) (by decide) e6⟩ (fun j q => i2_uj (by omega)) (fun l f _ _ => i2_uj (by omega)) (fun t f _ _ _ => eT t f) (fun a j q => i2_ua q)
  unfold ra_L
  rw [i2_uj (by omega), i2_uj (by omega), i2_uj (by omega), i2_uj (by omega)]
  exact d l q
def ap_rule (I : fI) (m : Nat) (x1 x2 : Int32) : Int32 × fI := if (0 ≤ x1 ∧ x1 ≤ 5) ∧ (1 ≤ x2 ∧ x2 ≤ nI (most_ x1.toNatClampNeg)) then (I (m + 1) (4 + x1.toNatClampNeg), i2_u I (m + 1) (4 + x1.toNatClampNeg) x2) else (-2, sp_ref I m)
theorem most_99 {k : Nat} : most_ k ≤ 99 := by
  unfold most_
  split
  · omega
  · split
    · omega
    · split <;> omega
theorem sm_rule (h : ix_ I m n T W P L) {x1 x2 : Int32} : sm_ I m n T W P L (ap_rule I m x1 x2) (fun M Q => cs_i mt_X10_rule [pv_r 5, pv_i x1, pv_i x2] M Q) (fun B J Q => rs_i mt_X11_rule [pv_r m, pv_i x1, pv_i x2] B J Q) := by
  by_cases c : 0 ≤ x1 ∧ x1 ≤ 5
  · obtain ⟨k, hk, rfl⟩ := i32_in (N := 5) (by decide) c
    have hk6 : k < 6 := by omega
    have hm := most_99 (k := k)
    have n0 : ¬ nI k < 0 := nI_pos (by omega)
    have n6 : ¬ nI 6 ≤ nI k := nI_ge (by omega) (by omega)
    have t3 : ∀ {M : mm_T} {ta tm : Nat → Nat}, re_ M I m n ta tm → mm_k M 3 = (15, 6) ∧ mm_i M 3 k = nI (most_ k) := fun hr => ⟨hr.1.1.2.2.2.2.2.2.1.1, hr.1.1.2.2.2.2.2.2.1.2 k hk6⟩
    by_cases d : 1 ≤ x2 ∧ x2 ≤ nI (most_ k)
    · obtain ⟨v, hv, rfl⟩ := nI_of2 (n := most_ k) (M := nI (most_ k)) (by rw [nI_toInt (by omega)]) (Int32.not_lt.mpr (Int32.le_trans (by decide) d.1)) d.2
      have hv1 : 1 ≤ v := by
        have := (nI_leI (a := 1) (b := v) (by omega) (by omega)).mp d.1
        omega
      rw [show ap_rule I m (nI k) (nI v) = (I (m + 1) (4 + k), i2_u I (m + 1) (4 + k) (nI v)) by unfold ap_rule; rw [nI_clamp (by omega), if_pos ⟨c, d⟩]]
      refine ⟨⟨n, ix_up (ix_ru h hk6 hv1 hv) (by omega) (by omega) (by omega) (by omega)⟩, fun M ta tm Q hr K => ?_, fun S E B Q hS RK K => ?_⟩
      · obtain ⟨r1, r2, r3⟩ := re_rules hr
        obtain ⟨b1, b2⟩ := re_bk hr
        refine wc_X10_rule_0 (re_m5 hr) ⟨fun q => absurd q n0, fun _ => ⟨(t3 hr).1, fun q => absurd q n6, fun _ => ⟨fun q => absurd d.1 (Int32.not_le.mpr q), fun _ => ⟨(t3 hr).1, k, ⟨rfl, hk6⟩, ?_⟩⟩⟩⟩
        rw [(t3 hr).2, b1, r1, r3 k hk6]
        refine ⟨fun _ => ⟨b2, 6, r2, hk6, hk6, fun M1 e1 => ?_⟩, fun q => absurd d.2 q⟩
        have h1 := re_ru (x := nI v) hr hk6
        rw [← e1] at h1
        exact K _ _ _ _ h1
      · refine wq_X11_rule_0 RK ⟨fun _ => rc_most RK hk6 ⟨fun _ => ⟨4 + k, ⟨nI_add 4 k, by omega⟩, fun I4 e4 => ?_⟩, fun q => absurd d q⟩, fun q => absurd c q⟩
        rw [uf_u hS (by omega) (by omega)] at e4
        rw [e4, uf_at hS (by omega) (by omega)]
        exact K
    · rw [show ap_rule I m (nI k) x2 = (-2, sp_ref I m) by unfold ap_rule; rw [nI_clamp (by omega), if_neg (fun z => d z.2)]]
      refine ⟨ix_rx h, fun M ta tm Q hr K => ?_, fun S E B Q hS RK K => ?_⟩
      · refine wc_X10_rule_0 (re_m5 hr) ⟨fun q => absurd q n0, fun _ => ⟨(t3 hr).1, fun q => absurd q n6, fun _ => ⟨fun _ => cr_x hr (by decide) K, fun q1 => ⟨(t3 hr).1, k, ⟨rfl, hk6⟩, ?_⟩⟩⟩⟩
        rw [(t3 hr).2]
        exact ⟨fun q2 => absurd ⟨Int32.not_lt.mp q1, q2⟩ d, fun _ => cr_x hr (by decide) K⟩
      · exact wq_X11_rule_0 RK ⟨fun _ => rc_most RK hk6 ⟨fun q => absurd q d, fun _ => rr_x hS (ix_8 h) K⟩, fun q => absurd c q⟩
  · rw [show ap_rule I m x1 x2 = (-2, sp_ref I m) by unfold ap_rule; rw [if_neg (fun z => c z.1)]]
    refine ⟨ix_rx h, fun M ta tm Q hr K => ?_, fun S E B Q hS RK K => ?_⟩
    · refine wc_X10_rule_0 (re_m5 hr) ⟨fun _ => cr_x hr (by decide) K, fun q1 => ⟨hr.1.1.2.2.2.2.2.2.1.1, fun _ => cr_x hr (by decide) K, fun q2 => absurd ⟨Int32.not_lt.mp q1, ?_⟩ c⟩⟩
      obtain ⟨w, hw, rfl⟩ := nI_of q1
      have := (nI_ltI (b := 6) hw (by decide)).mp (Int32.not_le.mp q2)
      exact (in_5 this).2
    · exact wq_X11_rule_0 RK ⟨fun q => absurd q c, fun _ => rr_x hS (ix_8 h) K⟩
/-! arrange -/
def topl_ (f : Nat) : Nat := if f = 0 then 9 else if f = 1 then 32 else 6
theorem ix_ar (h : ix_ I m n T W P L) {l f v : Nat} (hl : l < 5) (hf : f < 3) (hv : 1 ≤ v) (hv2 : v ≤ topl_ f) : ix_ (i2_u I (m + 1) (10 + 10 * l + f) (nI v)) m n T W P L := by
  have eT : ∀ t g, ra_T (i2_u I (m + 1) (10 + 10 * l + f) (nI v)) m t g = ra_T I m t g := fun t g => i2_uj (by omega)
  obtain ⟨d, e1, e2, e3, e4, e5, e6⟩ := h.1.2.1
  refine ix_fr h (ivT_o h.1.1 (i2_uj (by omega)) (fun t f _ _ => eT t f) (fun t q => by rw [eT]; exact ix_s h q) (fun t q z => by rw [eT] at z ⊢; exact ix_7 h q z)) ⟨fun l' q => ?_, by rw [i2_uj (by omega)]; exact e1, by rw [i2_uj (by omega)]; exact e2, by rw [i2_uj (by omega)]; exact e3, by rw [i2_uj (by omega)]; exact e4, by rw [i2_uj (by omega)]; exact e5, by rw [i2_uj (by omega)]; exact e6⟩ (fun j q => i2_uj (by omega)) (fun l f _ _ => i2_uj (by omega)) (fun t f _ _ _ => eT t f) (fun a j q => i2_ua q)
  have key : ∀ g b, g < 3 → topl_ g < b → (∃ a, a < b ∧ 1 ≤ a ∧ ra_L I m l' g = nI a) → ∃ a, a < b ∧ 1 ≤ a ∧ ra_L (i2_u I (m + 1) (10 + 10 * l + f) (nI v)) m l' g = nI a := fun g b hg hb e => by
    unfold ra_L
    rw [i2_at]
    by_cases z : l' = l ∧ g = f
    · rw [if_pos ⟨rfl, by omega⟩]
      rw [z.2] at hb
      exact ⟨v, by omega, hv, rfl⟩
    · rw [if_neg (by omega)]
      exact e
  obtain ⟨d0, d1, d2, d3⟩ := d l' q
  exact ⟨key 0 10 (by decide) (by decide) d0, key 1 33 (by decide) (by decide) d1, key 2 7 (by decide) (by decide) d2, by unfold ra_L; rw [i2_uj (by omega)]; exact d3⟩
def ap_arr (I : fI) (m : Nat) (x1 x2 x3 : Int32) : Int32 × fI := if (0 ≤ x1 ∧ x1 ≤ 4) ∧ (0 ≤ x2 ∧ x2 ≤ 2) ∧ (1 ≤ x3 ∧ x3 ≤ nI (topl_ x2.toNatClampNeg)) then (ra_L I m x1.toNatClampNeg x2.toNatClampNeg, i2_u I (m + 1) (10 + 10 * x1.toNatClampNeg + x2.toNatClampNeg) x3) else (-2, sp_ref I m)
theorem in_2 {w : Nat} (h : w < 3) : 0 ≤ nI w ∧ nI w ≤ 2 := ⟨Int32.not_lt.mp (nI_pos (by omega)), show nI w ≤ nI 2 from nI_le (by omega) (by decide)⟩
/-- the reference's three ranges -/
theorem rc_arr (RK : rf_ok B m) {l f : Nat} (hl : l < 5) (hf : f < 3) {x3 : Int32} {Q : Int32 → fI → Prop} (K1 : (1 ≤ x3 ∧ x3 ≤ nI (topl_ f)) → Q (ra_L I m l f) (i2_u I (m + 1) (10 + 10 * l + f) x3)) (K2 : ¬ (1 ≤ x3 ∧ x3 ≤ nI (topl_ f)) → I m 8 = 0 ∧ ∀ I3, I3 = i2_u I m 7 (I m 7 + 1) → Q (-2) I3) : rs_i mt_X11_arrange [pv_r m, pv_i (nI l), pv_i (nI f), pv_i x3] B I Q := by
  have W : (1 ≤ x3 ∧ x3 ≤ nI (topl_ f)) → ∃ n9, (nI l = nI n9 ∧ n9 < 5) ∧ (∃ n10, (((nI (10 + 10 * n9)) + nI f) = nI n10 ∧ n10 < 6200) ∧ (∀ I11, I11 = i2_u I (m + 1) n10 x3 → Q (I (m + 1) n10) I11)) := fun q => ⟨l, ⟨rfl, hl⟩, 10 + 10 * l + f, ⟨nI_add _ _, by omega⟩, fun I11 e => by rw [e]; exact K1 q⟩
  have : f = 0 ∨ f = 1 ∨ f = 2 := by omega
  refine wq_X11_arrange_0 RK ⟨fun _ => ⟨fun _ => ?_, fun q => absurd (in_2 hf) q⟩, fun q => absurd (in_4 hl) q⟩
  rcases this with rfl | rfl | rfl
  · exact ⟨fun q => absurd rfl q, fun _ => ⟨W, K2⟩⟩
  · exact ⟨fun _ => ⟨fun q => absurd rfl q, fun _ => ⟨W, K2⟩⟩, fun q => absurd q (by decide)⟩
  · exact ⟨fun _ => ⟨fun _ => ⟨W, K2⟩, fun q => absurd q (by decide)⟩, fun q => absurd q (by decide)⟩
theorem topl_32 {k : Nat} : topl_ k ≤ 32 := by
  unfold topl_
  split
  · omega
  · split <;> omega
theorem ce_rearr (h : re_ M I m n ta tm) {l f : Nat} (hl : l < 5) (hf : f < 3) {x3 : Int32} {Q : Int32 → mm_T → Prop} (K : ∀ M', re_ M' (i2_u I (m + 1) (10 + 10 * l + f) x3) m n ta tm → Q (ra_L I m l f) M') : cs_i mt_X3_rearrange [pv_r (12 + l), pv_i (nI f), pv_i x3] M Q := by
  have W : ∀ M1, M1 = mm_pi M (12 + l) (1 + f) x3 → Q (ra_L I m l f) M1 := fun M1 e => by
    have h1 := re_ar (x := x3) h hl hf
    rw [← e] at h1
    exact K _ h1
  obtain ⟨d1, d2, d3, -⟩ := h.1.2.1.2.2.1 l hl
  have : f = 0 ∨ f = 1 ∨ f = 2 := by omega
  rcases this with rfl | rfl | rfl
  · refine wc_X3_rearrange_0 (br_ln h.1.2.1 hl).1 ⟨fun q => absurd rfl q, fun _ => ?_⟩
    rw [show mm_i M (12 + l) 1 = ra_L I m l 0 from d1]
    exact W
  · refine wc_X3_rearrange_0 (br_ln h.1.2.1 hl).1 ⟨fun _ => ⟨fun q => absurd rfl q, fun _ => ?_⟩, fun q => absurd q (by decide)⟩
    rw [show mm_i M (12 + l) 2 = ra_L I m l 1 from d2]
    exact W
  · refine wc_X3_rearrange_0 (br_ln h.1.2.1 hl).1 ⟨fun _ => ⟨fun _ => ?_, fun q => absurd q (by decide)⟩, fun q => absurd q (by decide)⟩
    rw [show mm_i M (12 + l) 3 = ra_L I m l 2 from d3]
    exact W
theorem sm_arr (h : ix_ I m n T W P L) {x1 x2 x3 : Int32} : sm_ I m n T W P L (ap_arr I m x1 x2 x3) (fun M Q => cs_i mt_X10_arrange [pv_r 5, pv_i x1, pv_i x2, pv_i x3] M Q) (fun B J Q => rs_i mt_X11_arrange [pv_r m, pv_i x1, pv_i x2, pv_i x3] B J Q) := by
  by_cases c1 : 0 ≤ x1 ∧ x1 ≤ 4
  · obtain ⟨l, hl, rfl⟩ := i32_in (N := 4) (by decide) c1
    have hl5 : l < 5 := by omega
    by_cases c2 : 0 ≤ x2 ∧ x2 ≤ 2
    · obtain ⟨f, hf, rfl⟩ := i32_in (N := 2) (by decide) c2
      have hf3 : f < 3 := by omega
      have ht := topl_32 (k := f)
      have n0 : ¬ nI f < 0 := nI_pos (by omega)
      have n3 : ¬ nI 3 ≤ nI f := nI_ge (by omega) (by omega)
      have t4 : ∀ {M : mm_T} {ta tm : Nat → Nat}, re_ M I m n ta tm → mm_k M 4 = (15, 3) ∧ mm_i M 4 f = nI (topl_ f) := fun hr => ⟨hr.1.1.2.2.2.2.2.2.2.1, hr.1.1.2.2.2.2.2.2.2.2 f hf3⟩
      by_cases d : 1 ≤ x3 ∧ x3 ≤ nI (topl_ f)
      · obtain ⟨v, hv, rfl⟩ := nI_of2 (n := topl_ f) (M := nI (topl_ f)) (by rw [nI_toInt (by omega)]) (Int32.not_lt.mpr (Int32.le_trans (by decide) d.1)) d.2
        have hv1 : 1 ≤ v := by
          have := (nI_leI (a := 1) (b := v) (by omega) (by omega)).mp d.1
          omega
        rw [show ap_arr I m (nI l) (nI f) (nI v) = (ra_L I m l f, i2_u I (m + 1) (10 + 10 * l + f) (nI v)) by unfold ap_arr; rw [nI_clamp (by omega), nI_clamp (by omega), if_pos ⟨c1, c2, d⟩]]
        refine ⟨⟨n, ix_up (ix_ar h hl5 hf3 hv1 hv) (by omega) (by omega) (by omega) (by omega)⟩, fun M ta tm Q hr K => ?_, fun S E B Q hS RK K => ?_⟩
        · refine wc_X10_arrange_0 (re_m5 hr) ?_
          rw [(re_bk hr).1]
          refine ⟨(re_bk hr).2, cb_laneAt (br_S hr.1.2.1) (fun l' q e => ?_) (fun q => absurd c1 q)⟩
          rw [show l' = l from ((nI_eq (by omega) (by omega)).mp e).symm, show 6 + 6 + l = 12 + l from rfl]
          refine ⟨fun q => absurd q (by omega), fun _ => ⟨fun q => absurd q n0, fun _ => ⟨(t4 hr).1, fun q => absurd q n3, fun _ => ⟨fun q => absurd d.1 (Int32.not_le.mpr q), fun _ => ⟨(t4 hr).1, f, ⟨rfl, hf3⟩, ?_⟩⟩⟩⟩⟩
          rw [(t4 hr).2]
          exact ⟨fun _ => ⟨(br_ln hr.1.2.1 hl5).1, ce_rearr hr hl5 hf3 (fun M' h' => K _ _ _ _ h')⟩, fun q => absurd d.2 q⟩
        · refine rc_arr RK hl5 hf3 (fun _ => ?_) (fun q => absurd d q)
          rw [show ra_L (pt_ S E I) m l f = ra_L I m l f from uf_at hS (by omega) (by omega), uf_u hS (by omega) (by omega)]
          exact K
      · rw [show ap_arr I m (nI l) (nI f) x3 = (-2, sp_ref I m) by unfold ap_arr; rw [nI_clamp (by omega), nI_clamp (by omega), if_neg (fun z => d z.2.2)]]
        refine ⟨ix_rx h, fun M ta tm Q hr K => ?_, fun S E B Q hS RK K => ?_⟩
        · refine wc_X10_arrange_0 (re_m5 hr) ?_
          rw [(re_bk hr).1]
          refine ⟨(re_bk hr).2, cb_laneAt (br_S hr.1.2.1) (fun l' q e => ?_) (fun q => absurd c1 q)⟩
          refine ⟨fun q => absurd q (by omega), fun _ => ⟨fun q => absurd q n0, fun _ => ⟨(t4 hr).1, fun q => absurd q n3, fun _ => ⟨fun _ => cr_x hr (by decide) K, fun q1 => ⟨(t4 hr).1, f, ⟨rfl, hf3⟩, ?_⟩⟩⟩⟩⟩
          rw [(t4 hr).2]
          exact ⟨fun q2 => absurd ⟨Int32.not_lt.mp q1, q2⟩ d, fun _ => cr_x hr (by decide) K⟩
        · exact rc_arr RK hl5 hf3 (fun q => absurd q d) (fun _ => rr_x hS (ix_8 h) K)
    · rw [show ap_arr I m (nI l) x2 x3 = (-2, sp_ref I m) by unfold ap_arr; rw [if_neg (fun z => c2 z.2.1)]]
      refine ⟨ix_rx h, fun M ta tm Q hr K => ?_, fun S E B Q hS RK K => ?_⟩
      · refine wc_X10_arrange_0 (re_m5 hr) ?_
        rw [(re_bk hr).1]
        refine ⟨(re_bk hr).2, cb_laneAt (br_S hr.1.2.1) (fun l' q e => ⟨fun q => absurd q (by omega), fun _ => ⟨fun _ => cr_x hr (by decide) K, fun q1 => ⟨hr.1.1.2.2.2.2.2.2.2.1, fun _ => cr_x hr (by decide) K, fun q2 => absurd ⟨Int32.not_lt.mp q1, ?_⟩ c2⟩⟩⟩) (fun q => absurd c1 q)⟩
        obtain ⟨w, hw, rfl⟩ := nI_of q1
        have := (nI_ltI (b := 3) hw (by decide)).mp (Int32.not_le.mp q2)
        exact (in_2 this).2
      · exact wq_X11_arrange_0 RK ⟨fun _ => ⟨fun q => absurd q c2, fun _ => rr_x hS (ix_8 h) K⟩, fun q => absurd c1 q⟩
  · rw [show ap_arr I m x1 x2 x3 = (-2, sp_ref I m) by unfold ap_arr; rw [if_neg (fun z => c1 z.1)]]
    refine ⟨ix_rx h, fun M ta tm Q hr K => ?_, fun S E B Q hS RK K => ?_⟩
    · refine wc_X10_arrange_0 (re_m5 hr) ?_
      rw [(re_bk hr).1]
      exact ⟨(re_bk hr).2, cb_laneAt (br_S hr.1.2.1) (fun l' q e => absurd (by rw [e]; exact in_4 q) c1) (fun _ => ⟨fun _ => cr_x hr (by decide) K, fun q => absurd rfl q⟩)⟩
    · exact wq_X11_arrange_0 RK ⟨fun q => absurd q c1, fun _ => rr_x hS (ix_8 h) K⟩
end Pub7
