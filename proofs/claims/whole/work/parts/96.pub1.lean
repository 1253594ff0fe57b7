/-! the public calls, class and reference side by side -/
section Pub1
variable {B M M' : mm_T} {I J E : Nat → Nat → Int32} {m n T W P L : Nat} {ta tm : Nat → Nat} {S : Nat → Nat → Bool}
def uf_ (S : Nat → Nat → Bool) (m : Nat) : Prop := ∀ a j, m ≤ a → a ≤ m + 12 → S a j = false
theorem uf_us (h : uf_ S m) : us_ S m := fun a j q => h a j (by unfold U_ at q; omega) (by unfold U_ at q; omega)
theorem uf_at (h : uf_ S m) {a j : Nat} (h1 : m ≤ a) (h2 : a ≤ m + 12) : pt_ S E I a j = I a j := if_neg (by rw [h a j h1 h2]; decide)
theorem uf_u (h : uf_ S m) {a j : Nat} {x : Int32} (h1 : m ≤ a) (h2 : a ≤ m + 12) : i2_u (pt_ S E I) a j x = pt_ S E (i2_u I a j x) := by
  funext b k
  unfold pt_
  rw [i2_at, i2_at]
  by_cases q : b = a ∧ k = j
  · rw [if_pos q, if_pos q, q.1, q.2, if_neg (by rw [h a j h1 h2]; decide)]
  · rw [if_neg q, if_neg q]
theorem ix_eq (h : ix_ I m n T W P L) (jo : ∀ a j, m ≤ a → a ≤ m + 12 → J a j = I a j) : ix_ J m n T W P L := by
  obtain ⟨⟨a1, a2, a3, a4⟩, ⟨b1, b2, b3, b4⟩, c⟩ := id h
  have j1 : ∀ j, J (m + 1) j = I (m + 1) j := fun j => jo _ _ (by omega) (by omega)
  have jT : ∀ t f, ra_T J m t f = ra_T I m t f := fun t f => j1 _
  refine ⟨⟨ivT_o a1 (j1 _) (fun t f _ _ => jT t f) (fun t q => by rw [jT]; exact ix_s h q) (fun t q z => by rw [jT] at z ⊢; exact ix_7 h q z), ivL_o a2 (fun l f _ _ => j1 _) (fun j q1 q2 => j1 _), ivW_o a3 (fun t f _ _ _ _ => jT t f) (fun w _ => j1 _), ivH_o a4 (fun t _ => jT t 4) (fun t _ z => by rw [jT] at z; exact z) (fun t q _ _ _ _ z => by rw [jT]; exact z)⟩, ⟨ivC_o b1 (fun l _ => j1 _) (fun t _ => jT t 0) (fun t _ z => by rw [jT]; exact z), ivS_o b2 (j1 _) (fun j q => j1 _) (fun t _ => by rw [jT]), ivR_o b3 (fun t _ z => by rw [jT] at z; exact z), fun t q1 q2 => (jo _ _ (by omega) (by omega)).trans (b4 t q1 q2)⟩, ?_⟩
  obtain ⟨⟨x, x1, x2⟩, c2, c3, c4, c5, c6, c7⟩ := c
  exact ⟨⟨x, by omega, by rw [j1, x2]⟩, by rw [j1]; exact c2, fun l q => by rw [show ra_L J m l 4 = ra_L I m l 4 from j1 _]; exact c3 l q, by rw [jo _ _ (by omega) (by omega)]; exact c4, (jo _ _ (by omega) (by omega)).trans c5, fun j => ⟨(jo _ _ (by omega) (by omega)).trans (c6 j).1, (jo _ _ (by omega) (by omega)).trans (c6 j).2⟩, fun t q => by rw [jo _ _ (by omega) (by omega)]; exact c7 t q⟩
theorem ix_pt (h : ix_ I m n T W P L) (hS : uf_ S m) : ix_ (pt_ S E I) m n T W P L := ix_eq h (fun _ _ q1 q2 => uf_at hS q1 q2)
def lim_ (T W P L : Nat) : Prop := T < 90000 ∧ W < 90000000 ∧ P + 3100000 < 2147483648 ∧ L + 2100000 < 1990000000
abbrev fI : Type := Nat → Nat → Int32
def sm_ {α : Type} (I : fI) (m n T W P L : Nat) (a : α × fI) (c : mm_T → (α → mm_T → Prop) → Prop) (r : mm_T → fI → (α → fI → Prop) → Prop) : Prop :=
  (∃ n', ix_ a.2 m n' (T + 99) (W + 60) (P + 3024000) (L + 2000000)) ∧ (∀ M ta tm Q, re_ M I m n ta tm → (∀ M' n' ta' tn, re_ M' a.2 m n' ta' tn → Q a.1 M') → c M Q) ∧ ∀ S E B Q, uf_ S m → rf_ok B m → Q a.1 (pt_ S E a.2) → r B (pt_ S E I) Q
/-! a refusal -/
theorem pt_rf (hS : uf_ S m) : i2_u (pt_ S E I) m 7 (pt_ S E I m 7 + 1) = pt_ S E (sp_ref I m) := by
  rw [uf_at hS (by omega) (by omega), uf_u hS (by omega) (by omega)]
  rfl
theorem rr_x {α : Type} {v : α} {Q : α → fI → Prop} (hS : uf_ S m) (h8 : I m 8 = 0) (K : Q v (pt_ S E (sp_ref I m))) : pt_ S E I m 8 = 0 ∧ ∀ I3, I3 = i2_u (pt_ S E I) m 7 (pt_ S E I m 7 + 1) → Q v I3 := ⟨(uf_at hS (by omega) (by omega)).trans h8, fun I3 e => by rw [e, pt_rf hS]; exact K⟩
theorem cr_x {v : Int32} {Q : Int32 → mm_T → Prop} (h : re_ M I m n ta tm) (hv : ¬ -1 ≤ v) (K : ∀ M' n' ta' tn, re_ M' (sp_ref I m) m n' ta' tn → Q v M') : cs_i mt_X10_counted [pv_r 5, pv_i v] M Q := ce_counted h (fun q => absurd q hv) (fun _ M' h' => K M' n ta tm h')
theorem ix_rx (h : ix_ I m n T W P L) {T' W' P' L' : Nat} : ∃ n', ix_ (sp_ref I m) m n' (T + T') (W + W') (P + P') (L + L') := ⟨n, ix_up (ix_ref h) (by omega) (by omega) (by omega) (by omega)⟩
/-! put -/
theorem why_2 {x1 x2 x3 x4 x5 : Int32} (h : ¬ sp_why I m n x1 x2 x3 x4 x5 = 0) : ¬ -1 ≤ sp_why I m n x1 x2 x3 x4 x5 := by
  have w4 : ∀ l k, sp_why4 I m n l k = 0 ∨ ¬ -1 ≤ sp_why4 I m n l k := fun l k => by
    unfold sp_why4
    split
    · exact Or.inr (by decide)
    · split
      · exact Or.inr (by decide)
      · split
        · exact Or.inr (by decide)
        · split
          · exact Or.inl rfl
          · exact Or.inr (by decide)
  have : sp_why I m n x1 x2 x3 x4 x5 = 0 ∨ ¬ -1 ≤ sp_why I m n x1 x2 x3 x4 x5 := by
    unfold sp_why
    split
    · exact Or.inr (by decide)
    · split
      · exact Or.inr (by decide)
      · split
        · exact Or.inr (by decide)
        · exact w4 _ _
  exact this.resolve_left h
def ap_put (I : fI) (m n : Nat) (x1 x2 x3 x4 x5 : Int32) : Int32 × fI := if sp_why I m n x1 x2 x3 x4 x5 = 0 then (nI n, sp_com I m n x1 x2 x3 x4 x5) else (sp_why I m n x1 x2 x3 x4 x5, sp_ref I m)
theorem sm_put (h : ix_ I m n T W P L) (hl : lim_ T W P L) {x1 x2 x3 x4 x5 : Int32} : sm_ I m n T W P L (ap_put I m n x1 x2 x3 x4 x5) (fun M Q => cs_i mt_X10_put [pv_r 5, pv_i x1, pv_i x2, pv_i x3, pv_i x4, pv_i x5] M Q) (fun B J Q => rs_i mt_X11_put [pv_r m, pv_i x1, pv_i x2, pv_i x3, pv_i x4, pv_i x5] B J Q) := by
  obtain ⟨l1, l2, l3, l4⟩ := hl
  have h4 := ix_4 h
  by_cases z : sp_why I m n x1 x2 x3 x4 x5 = 0
  · rw [show ap_put I m n x1 x2 x3 x4 x5 = (nI n, sp_com I m n x1 x2 x3 x4 x5) from if_pos z]
    refine ⟨⟨n + 1, ix_up (ix_com h (by omega) (by omega) (by omega) z) (by omega) (by omega) (by omega) (by omega)⟩, fun M ta tm Q hr K => ?_, fun S E B Q hS RK K => ?_⟩
    · obtain ⟨x, y1, y2⟩ := ix_log h
      obtain ⟨rm, hrm, -, erm⟩ := h.1.2.1.2.2.2.2.2.1
      refine wc_X10_put_0 (re_m5 hr) (ce_come hr (ix_8 h) y2 (by omega) (ix_bl h) (ix_hW h) h.2.1.1 (fun q => h.2.1.2.2.2 n (Nat.le_refl _) q) erm (by omega) (fun z' => absurd z z') (fun _ M1 ta1 h1 => ?_))
      exact ce_counted h1 (fun _ => K _ _ _ _ h1) (fun q => absurd (Int32.le_trans (by decide) (Int32.not_lt.mp (nI_pos (by omega)))) q)
    · have hJ := ix_pt (E := E) h hS
      refine wq_X11_put_0 RK (rc_comes RK (ix_rb hJ (by omega)) (ix_lb hJ) (by omega) ?_)
      rw [nt_comes (uf_us hS) h4, show sp_comes I m n x1 x2 x3 x4 x5 = (nI n, sp_com I m n x1 x2 x3 x4 x5) by unfold sp_comes; rw [if_pos z]]
      exact ⟨fun _ => K, fun q => absurd (Int32.not_lt.mp (nI_pos (by omega))) q⟩
  · rw [show ap_put I m n x1 x2 x3 x4 x5 = (sp_why I m n x1 x2 x3 x4 x5, sp_ref I m) from if_neg z]
    refine ⟨ix_rx h, fun M ta tm Q hr K => ?_, fun S E B Q hS RK K => ?_⟩
    · obtain ⟨x, y1, y2⟩ := ix_log h
      obtain ⟨rm, hrm, -, erm⟩ := h.1.2.1.2.2.2.2.2.1
      exact wc_X10_put_0 (re_m5 hr) (ce_come hr (ix_8 h) y2 (by omega) (ix_bl h) (ix_hW h) h.2.1.1 (fun q => h.2.1.2.2.2 n (Nat.le_refl _) q) erm (by omega) (fun _ => cr_x hr (why_2 z) K) (fun z' => absurd z' z))
    · have hJ := ix_pt (E := E) h hS
      refine wq_X11_put_0 RK (rc_comes RK (ix_rb hJ (by omega)) (ix_lb hJ) (by omega) ?_)
      rw [nt_comes (uf_us hS) h4, show sp_comes I m n x1 x2 x3 x4 x5 = (sp_why I m n x1 x2 x3 x4 x5, I) by unfold sp_comes; rw [if_neg z]]
      exact ⟨fun q => absurd q (Int32.not_le.mpr (why_lt h4 z)), fun _ => rr_x hS (ix_8 h) K⟩
/-! take -/
theorem in_5 {w : Nat} (h : w < 6) : 0 ≤ nI w ∧ nI w ≤ 5 := ⟨Int32.not_lt.mp (nI_pos (by omega)), show nI w ≤ nI 5 from nI_le (by omega) (by decide)⟩
theorem tkby_3 (h : ix_ I m n T W P L) {w : Nat} : sp_tkby I m n w = (-1, I) ∨ ∃ t l, t < n ∧ l < 5 ∧ ra_T I m t 0 = nI l ∧ ra_T I m t 6 = 0 ∧ sp_tkby I m n w = (nI t, sp_tk I m t w l) := by
  unfold sp_tkby
  cases hl : ra_lane I m n 1 with
  | none => exact Or.inl rfl
  | some l =>
    have l5 := ra_lane_5 hl
    cases hf : ra_first I m n (nI l) with
    | none => exact Or.inl (by simp only [hf])
    | some t =>
      have hb := bs_lt hf
      have hb2 := of_decide_eq_true hb.2
      exact Or.inr ⟨t, l, hb.1, l5, hb2.1, hb2.2, by simp only [hf]⟩
def ap_take (I : fI) (m n : Nat) (x1 : Int32) : Int32 × fI := if 0 ≤ x1 ∧ x1 ≤ 5 then (if ra_W I m x1.toNatClampNeg 0 = -1 then sp_tkby I m n x1.toNatClampNeg else (-3, sp_ref I m)) else (-2, sp_ref I m)
theorem sm_take (h : ix_ I m n T W P L) (hl : lim_ T W P L) {x1 : Int32} : sm_ I m n T W P L (ap_take I m n x1) (fun M Q => cs_i mt_X10_take [pv_r 5, pv_i x1] M Q) (fun B J Q => rs_i mt_X11_take [pv_r m, pv_i x1] B J Q) := by
  obtain ⟨l1, l2, l3, l4⟩ := hl
  have h4 := ix_4 h
  obtain ⟨x, y1, y2⟩ := ix_log h
  unfold ap_take
  by_cases c : 0 ≤ x1 ∧ x1 ≤ 5
  · obtain ⟨w, hw, rfl⟩ := i32_in (N := 5) (by decide) c
    rw [if_pos c, nI_clamp (by omega)]
    by_cases d : ra_W I m w 0 = -1
    · rw [if_pos d]
      refine ⟨?_, fun M ta tm Q hr K => ?_, fun S E B Q hS RK K => ?_⟩
      · rcases tkby_3 h (w := w) with e | ⟨t, l, t1, t2, t3, t4, e⟩
        · rw [e]; exact ⟨n, ix_up h (by omega) (by omega) (by omega) (by omega)⟩
        · rw [e]; exact ⟨n, ix_up (ix_tk h (by omega) (by omega) (by omega) (by omega) t1 t2 (by omega) t3 t4 d) (by omega) (by omega) (by omega) (by omega)⟩
      · refine wc_X10_take_0 (re_m5 hr) (ce_take hr (ix_8 h) y2 (by omega) (ix_rk h) (ix_wz h) (ix_hW h) (fun q => absurd c q) (fun w' hw' e q => ?_) (fun w' hw' e q M1 h1 => ?_))
        · rw [← (nI_eq (by omega) (by omega)).mp e] at q
          exact absurd d q
        · rw [← (nI_eq (by omega) (by omega)).mp e] at h1 ⊢
          refine ce_counted h1 (fun _ => K _ _ _ _ h1) (fun q => absurd ?_ q)
          rcases tkby_3 h (w := w) with e | ⟨t, l, t1, t2, t3, t4, e⟩
          · rw [e]; exact show (-1 : Int32) ≤ -1 by decide
          · rw [e]; exact Int32.le_trans (by decide) (Int32.not_lt.mp (nI_pos (by omega)))
      · have hJ := ix_pt (E := E) h hS
        refine wq_X11_take_0 RK ⟨fun _ => ⟨w, ⟨rfl, by omega⟩, fun _ => rc_tkby RK (ix_1 hJ) h4 (ix_lb hJ) (by omega) (fun l hl => ?_) (by omega) rfl ?_, fun q => absurd (show pt_ S E I (m + 1) (60 + 4 * w) = -1 from (uf_at hS (by omega) (by omega)).trans d) q⟩, fun q => absurd c q⟩
        · obtain ⟨⟨a, a1, a2, a3⟩, -⟩ := hJ.1.2.1.1 l hl
          rw [a3]
          exact nI_ne0 (by omega) (by omega)
        · rw [nt_tkby (uf_us hS) (by omega)]
          exact K
    · rw [if_neg d]
      refine ⟨ix_rx h, fun M ta tm Q hr K => ?_, fun S E B Q hS RK K => ?_⟩
      · refine wc_X10_take_0 (re_m5 hr) (ce_take hr (ix_8 h) y2 (by omega) (ix_rk h) (ix_wz h) (ix_hW h) (fun q => absurd c q) (fun _ _ _ _ => cr_x hr (by decide) K) (fun w' hw' e q M1 h1 => ?_))
        rw [← (nI_eq (by omega) (by omega)).mp e] at q
        exact absurd q d
      · exact wq_X11_take_0 RK ⟨fun _ => ⟨w, ⟨rfl, by omega⟩, fun q => absurd (show I (m + 1) (60 + 4 * w) = -1 from (uf_at hS (by omega) (by omega)).symm.trans q) d, fun _ => rr_x hS (ix_8 h) K⟩, fun q => absurd c q⟩
  · rw [if_neg c]
    refine ⟨ix_rx h, fun M ta tm Q hr K => ?_, fun S E B Q hS RK K => ?_⟩
    · exact wc_X10_take_0 (re_m5 hr) (ce_take hr (ix_8 h) y2 (by omega) (ix_rk h) (ix_wz h) (ix_hW h) (fun _ => cr_x hr (by decide) K) (fun w hw e _ => absurd (by rw [e]; exact in_5 hw) c) (fun w hw e _ _ _ => absurd (by rw [e]; exact in_5 hw) c))
    · exact wq_X11_take_0 RK ⟨fun q => absurd q c, fun _ => rr_x hS (ix_8 h) K⟩
end Pub1
