/-! again, side by side -/
section Agn2
variable {B M M' : mm_T} {I J E Y : Nat → Nat → Int32} {m n T W P L : Nat} {ta tm : Nat → Nat} {S : Nat → Nat → Bool}
def sp_agv (I : fI) (m t : Nat) (v : Int32) : fI := i2_u (i2_u (sp_la I m t) (m + 1) (200 + 14 * t + 7) 0) (m + 1) (200 + 14 * t + 6) v
def sp_agx (I : fI) (m n t : Nat) : fI := if ra_held I m t = true then sp_agv I m t 1 else sp_wt (sp_agv I m t 1) m n t
def sp_agn (I : fI) (m n t : Nat) : fI := sp_log (sp_agx I m n t) m 8 t (-1) 0
theorem agv_o {t a j : Nat} {v : Int32} (ht : t < 400) (q : a ≠ m + 1 ∨ (j ≠ 3 ∧ j < 5800 ∧ j ≠ 200 + 14 * t + 6 ∧ j ≠ 200 + 14 * t + 7)) : sp_agv I m t v a j = I a j := by
  unfold sp_agv
  rw [i2_at, if_neg (by omega), i2_at, if_neg (by omega)]
  exact la_o _ _ _ (by omega)
theorem agv_T {t x f : Nat} {v : Int32} (ht : t < 400) (hx : x < 400) (hf : f < 14) : ra_T (sp_agv I m t v) m x f = if x = t ∧ f = 6 then v else if x = t ∧ f = 7 then 0 else ra_T I m x f := by
  unfold ra_T sp_agv
  by_cases z : x = t ∧ f = 6
  · rw [if_pos z, z.1, z.2, i2_us]
  · rw [if_neg z, i2_at, if_neg (by omega)]
    by_cases z2 : x = t ∧ f = 7
    · rw [if_pos z2, z2.1, z2.2, i2_us]
    · rw [if_neg z2, i2_at, if_neg (by omega)]
      exact la_o _ _ _ (by omega)
theorem agv_a {t j : Nat} {v : Int32} (ht : t < 400) (hj : j = 3 ∨ 5800 ≤ j) : sp_agv I m t v (m + 1) j = sp_la I m t (m + 1) j := by
  unfold sp_agv
  rw [i2_uj (by omega), i2_uj (by omega)]
theorem ix_ag (h : ix_ I m n T W P L) {t s : Nat} (ht : t < n) (h5 : ra_T I m t 6 = 5) {X : fI} (hx : ∀ a j, (a ≠ m + 1 ∨ (j ≠ 3 ∧ j < 5800 ∧ j ≠ 200 + 14 * t + 6 ∧ j ≠ 200 + 14 * t + 7 ∧ (j < 10 ∨ 60 ≤ j ∨ j % 10 ≠ 4))) → X a j = I a j) (hla : ∀ j, (j = 3 ∨ 5800 ≤ j) → X (m + 1) j = sp_la I m t (m + 1) j) (h6 : ra_T X m t 6 = nI s) (hs : s = 0 ∨ s = 1) (h7 : ra_T X m t 7 = 0) (hp : ∀ l, l < 5 → ∃ p, p ≤ P ∧ ra_L X m l 4 = nI p) (hh : s = 1 → ∃ q, q < t ∧ ra_T I m t 4 = nI q ∧ ra_T I m q 6 ≤ 3) (hst : cn_ (ra_st I m (-1)) n < 48) : ix_ X m n T W P L := by
  have s2' : s < 2 := hs.elim (fun e => by rw [e]; decide) (fun e => by rw [e]; decide)
  clear hs
  have h4 := ix_4 h
  obtain ⟨as, s0, s1, s2, s3, s4⟩ := as_l h
  have la := la_as (t := t) (by omega) s0 (fun x q => by have := ((s3 x).mp q).1; omega) s1 s4
  have D6 : ∀ x, x < n → ra_T X m x 6 = if x = t then nI s else ra_T I m x 6 := fun x q => by
    by_cases z : x = t
    · rw [if_pos z, z, h6]
    · rw [if_neg z]
      exact hx _ _ (by omega)
  have DT : ∀ x f, x < n → f < 14 → f ≠ 6 → f ≠ 7 → ra_T X m x f = ra_T I m x f := fun x f _ _ _ _ => hx _ _ (by omega)
  have s3' : nI s ≤ 3 := show nI s ≤ nI 3 from nI_le (by omega) (by decide)
  have up : ∀ x, x < n → ra_T I m x 6 ≤ 3 → ra_T X m x 6 ≤ 3 := fun x q z => by
    rw [D6 x q]
    split
    · exact s3'
    · exact z
  have eq6 : ∀ x (k : Nat), x < n → k < 7 → k ≠ 5 → k ≠ s → (ra_T X m x 6 = nI k ↔ ra_T I m x 6 = nI k) := fun x k q v0 v1 v2 => by
    rw [D6 x q]
    by_cases z : x = t
    · rw [if_pos z, z, h5]
      have k31 : k < 2 ^ 31 := by omega
      have s31 : s < 2 ^ 31 := by omega
      exact ⟨fun y => absurd ((nI_eq s31 k31).mp y).symm v2, fun y => absurd ((nI_eq (a := 5) (by decide) k31).mp y).symm v1⟩
    · rw [if_neg z]
  refine ⟨⟨ivT_o h.1.1 (hx _ _ (by omega)) (fun x f q1 q2 => DT x f q1 (by omega) (by omega) (by omega)) (fun x q => ?_) (fun x q z => ?_), ivL_o h.1.2.1 (fun l f q1 q2 => hx _ _ (by omega)) (fun j q1 q2 => hx _ _ (by omega)), ?_, fun x q z => ?_⟩, ⟨ivC_o h.2.1.1 (fun l q => hx _ _ (by omega)) (fun x q => DT x 0 q (by decide) (by decide) (by decide)) up, ⟨as.filter (fun x => decide (x ≠ t)), (hla _ (Or.inl rfl)).trans la.1, List.Pairwise.filter _ s2, fun x => ?_, fun i x q => (hla _ (Or.inr (by omega))).trans (la.2 i x q)⟩, ?_, fun x q1 q2 => (hx _ _ (by omega)).trans (h.2.1.2.2.2 x q1 q2)⟩, ivN_o h.2.2 (hx _ _ (by omega)) (hx _ _ (by omega)) hp ?_ (hx _ _ (by omega)) (fun j => ⟨hx _ _ (by omega), hx _ _ (by omega)⟩) (fun x q => by rw [hx _ _ (by omega)]; exact h.2.2.2.2.2.2.2.2 x q)⟩
  · rw [D6 x q]
    split
    · exact ⟨s, by omega, rfl⟩
    · exact ix_s h q
  · by_cases y : x = t
    · rw [y, h7]
      exact ⟨0, by decide, rfl⟩
    · rw [D6 x q, if_neg y] at z
      rw [show ra_T X m x 7 = ra_T I m x 7 from hx _ _ (by omega)]
      exact ix_7 h q z
  · obtain ⟨w1, w2, w3⟩ := h.1.2.2.1
    have eW : ∀ w, w < 6 → ra_W X m w 0 = ra_W I m w 0 := fun w q => hx _ _ (by omega)
    refine ⟨fun x q => ?_, fun x q => ?_, fun w q => ?_⟩
    · rw [show ((3 : Int32) = nI 3) from rfl, eq6 x 3 q (by decide) (by decide) (by omega), DT x 9 q (by decide) (by decide) (by decide), DT x 10 q (by decide) (by decide) (by decide), DT x 11 q (by decide) (by decide) (by decide)]
      rcases w1 x q with ⟨z, w, k, en, z1, z2, z3, z4⟩ | z
      · exact Or.inl ⟨z, w, k, en, z1, z2, (eW w z1).trans z3, z4⟩
      · exact Or.inr z
    · rw [show ((2 : Int32) = nI 2) from rfl, eq6 x 2 q (by decide) (by decide) (by omega), DT x 8 q (by decide) (by decide) (by decide)]
      exact w2 x q
    · rw [eW w q]
      rcases w3 w q with z | ⟨x, z1, z2, z3, z4⟩
      · exact Or.inl z
      · exact Or.inr ⟨x, z1, z2, (eq6 x 3 z1 (by decide) (by decide) (by omega)).mpr z3, (DT x 9 z1 (by decide) (by decide) (by decide)).trans z4⟩
  · by_cases y : x = t
    · subst y
      rw [h6] at z
      obtain ⟨q', y1, y2, y3⟩ := hh ((nI_eq (b := 1) (by omega) (by decide)).mp z)
      exact ⟨q', y1, (DT x 4 q (by decide) (by decide) (by decide)).trans y2, up q' (by omega) y3⟩
    · rw [D6 x q, if_neg y] at z
      obtain ⟨q', y1, y2, y3⟩ := h.1.2.2.2 x q z
      exact ⟨q', y1, (DT x 4 q (by decide) (by decide) (by decide)).trans y2, up q' (by omega) y3⟩
  · rw [List.mem_filter, s3 x]
    constructor
    · rintro ⟨⟨q1, q2⟩, q3⟩
      have q3 := of_decide_eq_true q3
      exact ⟨q1, by rw [D6 x q1, if_neg q3]; exact q2⟩
    · rintro ⟨q1, q2⟩
      rw [D6 x q1] at q2
      by_cases z : x = t
      · rw [if_pos z] at q2
        have s31 : s < 2 ^ 31 := by omega
        have := (nI_eq (b := 5) s31 (by decide)).mp q2
        omega
      · rw [if_neg z] at q2
        exact ⟨⟨q1, q2⟩, decide_eq_true z⟩
  · show cn_ (ra_st X m (-1)) n ≤ 48
    have e : cn_ (ra_st X m (-1)) n = cn_ (fun x => if x = t then true else ra_st I m (-1) x) n := cn_eq (fun x q => by
      show decide ((_ ∨ _) ∧ ra_T X m x 6 ≤ 3) = _
      by_cases z : x = t
      · rw [if_pos z]
        exact decide_eq_true ⟨Or.inl rfl, by rw [D6 x q, if_pos z]; exact s3'⟩
      · rw [if_neg z]
        unfold ra_st
        rw [D6 x q, if_neg z]
        by_cases y : ra_T I m x 6 ≤ 3
        · rw [decide_eq_true ⟨Or.inl rfl, y⟩, decide_eq_true ⟨Or.inl rfl, y⟩]
        · rw [decide_eq_false (fun y' => y y'.2), decide_eq_false (fun y' => y y'.2)])
    have this : cn_ (fun x => if x = t then true else ra_st I m (-1) x) n + (if ra_st I m (-1) t = true then 1 else 0) = cn_ (ra_st I m (-1)) n + (if (if t = t then true else ra_st I m (-1) t) = true then 1 else 0) := cn_one (t := t) (fun i hi => if_neg hi) ht
    have h2 : (if (if t = t then true else ra_st I m (-1) t) = true then 1 else 0) ≤ 1 := by rw [if_pos (if_pos rfl)]; exact Nat.le_refl _
    rw [e]
    omega
  · obtain ⟨x, y1, y2⟩ := ix_log h
    exact ⟨x, y1, (hx _ _ (by omega)).trans y2⟩
/-- what stands behind whyNotAgain's 0 -/
theorem wya_0 (h : ix_ I m n T W P L) {t : Nat} (ht : t < n) (h0 : sp_wya I m n t = 0) : ra_T I m t 6 = 5 ∧ ra_L I m (lmI I m t) 3 = 0 ∧ bhl_ I m t = false ∧ cn_ (ra_st I m (-1)) n < 48 := by
  have h4 := ix_4 h
  obtain ⟨l1, l2⟩ := lm_of (ix_tv h) ht
  unfold sp_wya at h0
  split at h0
  · cases h0
  · next c =>
    unfold sp_wya4 at h0
    split at h0
    · cases h0
    · next c2 =>
      refine ⟨Classical.not_not.mp (fun z => c (Or.inl z)), ?_, ?_, ?_⟩
      · have := Classical.not_not.mp (fun z => c (Or.inr (Or.inl z)))
        rw [l2, nI_clamp (by omega)] at this
        exact this
      · cases hb : bhl_ I m t with
        | false => rfl
        | true => exact absurd (Or.inr (Or.inr hb)) c
      · obtain ⟨rm, hrm, -, erm⟩ := h.1.2.1.2.2.2.2.2.1
        have := Classical.not_not.mp (fun z => c2 (Or.inr z))
        have hc := cn_le (ra_st I m (-1)) n
        rw [erm, nI_ltI (by omega) (by omega)] at this
        omega
theorem held_3 (h : ix_ I m n T W P L) {t : Nat} (ht : t < n) (hb : bhl_ I m t = false) (hh : ra_held I m t = true) : ∃ q, q < t ∧ ra_T I m t 4 = nI q ∧ ra_T I m q 6 ≤ 3 := by
  have h4 := ix_4 h
  have hh := of_decide_eq_true hh
  rcases ix_bl h t ht with e | ⟨q, hq, e⟩
  · exact absurd e hh.1
  · have eq : (ra_T I m t 4).toNatClampNeg = q := by rw [e]; exact nI_clamp (by omega)
    have hb := of_decide_eq_false hb
    rw [eq] at hh hb
    exact ⟨q, hq, e, s7_3 (ix_s h (show q < n by omega)) hh.2 (fun z => hb ⟨hh.1, Or.inl z⟩) (fun z => hb ⟨hh.1, Or.inr z⟩)⟩
theorem agv_rb {pb : Int32} (h : rb_ I m n pb) {t : Nat} (ht : t < 400) {v : Int32} : rb_ (sp_agv I m t v) m n pb := rb_o h (agv_o ht (by omega)) (fun x q => agv_o ht (by have := h.2.1; omega)) (fun l q => agv_o ht (by omega))
theorem ix_agx (h : ix_ I m n T W P L) (hP : P < 2147483648) {t : Nat} (ht : t < n) (h0 : sp_wya I m n t = 0) : ix_ (sp_agx I m n t) m n T W P L := by
  have h4 := ix_4 h
  obtain ⟨c1, c2, c3, c4⟩ := wya_0 h ht h0
  have hb := agv_rb (ix_rb h hP) (t := t) (v := 1) (by omega)
  unfold sp_agx
  by_cases c : ra_held I m t = true
  · rw [if_pos c]
    refine ix_ag h (s := 1) ht c1 (fun a j q => agv_o (by omega) (by omega)) (fun j q => agv_a (by omega) q) (by rw [agv_T (by omega) (by omega) (by omega), if_pos ⟨rfl, rfl⟩]; rfl) (Or.inr rfl) (by rw [agv_T (by omega) (by omega) (by omega), if_neg (by omega), if_pos ⟨rfl, rfl⟩]) (fun l q => ?_) (fun _ => held_3 h ht c3 c) c4
    rw [show ra_L (sp_agv I m t 1) m l 4 = ra_L I m l 4 from agv_o (by omega) (by omega)]
    exact h.2.2.2.2.1 l q
  · rw [if_neg c]
    refine ix_ag h (s := 0) ht c1 (fun a j q => (sp_wt_o hb ht (by omega)).trans (agv_o (by omega) (by omega))) (fun j q => (sp_wt_o hb ht (by omega)).trans (agv_a (by omega) q)) sp_wt_6 (Or.inl rfl) ((sp_wt_o hb ht (by omega)).trans (by show ra_T (sp_agv I m t 1) m t 7 = 0; rw [agv_T (by omega) (by omega) (by omega), if_neg (by omega), if_pos ⟨rfl, rfl⟩])) (fun l q => ?_) (fun q => absurd q (by decide)) c4
    exact i32_in (nI_toInt (by omega)) ((rb_wt hb ht).2.2.2 l q)
theorem agn_eq (h : ix_ I m n T W P L) {t : Nat} (ht : t < n) (h5 : ra_T I m t 6 = 5) : sp_agn I m n t = (if ra_held (sp_log (i2_u (sp_la I m t) (m + 1) (200 + 14 * t + 7) 0) m 8 t (-1) 0) m t = true then i2_u (sp_log (i2_u (sp_la I m t) (m + 1) (200 + 14 * t + 7) 0) m 8 t (-1) 0) (m + 1) (200 + 14 * t + 6) 1 else i2_u (lft_ (sp_log (i2_u (sp_la I m t) (m + 1) (200 + 14 * t + 7) 0) m 8 t (-1) 0) m n (lmI (sp_log (i2_u (sp_la I m t) (m + 1) (200 + 14 * t + 7) 0) m 8 t (-1) 0) m t)) (m + 1) (200 + 14 * t + 6) 0) := by
  have h4 := ix_4 h
  obtain ⟨l1, l2⟩ := lm_of (ix_tv h) ht
  have YT : ∀ x f, x < n → f < 7 → ra_T (i2_u (sp_la I m t) (m + 1) (200 + 14 * t + 7) 0) m x f = ra_T I m x f := fun x f q1 q2 => by
    unfold ra_T
    rw [i2_uj (by omega)]
    exact la_o _ _ _ (by omega)
  have GT : ∀ x f, x < n → f < 7 → ra_T (sp_log (i2_u (sp_la I m t) (m + 1) (200 + 14 * t + 7) 0) m 8 t (-1) 0) m x f = ra_T I m x f := fun x f q1 q2 => sp_log_r.trans (YT x f q1 q2)
  have eh : ra_held (sp_log (i2_u (sp_la I m t) (m + 1) (200 + 14 * t + 7) 0) m 8 t (-1) 0) m t = ra_held I m t := by
    unfold ra_held
    rw [GT t 4 ht (by decide)]
    rcases ix_bl h t ht with e | ⟨q, hq, e⟩
    · rw [decide_eq_false (fun z => z.1 e), decide_eq_false (fun z => z.1 e)]
    · rw [e, nI_clamp (by omega), GT q 6 (by omega) (by decide)]
  have el : lmI (sp_log (i2_u (sp_la I m t) (m + 1) (200 + 14 * t + 7) 0) m 8 t (-1) 0) m t = lmI I m t := by
    show (ra_T (sp_log (i2_u (sp_la I m t) (m + 1) (200 + 14 * t + 7) 0) m 8 t (-1) 0) m t 0).toNatClampNeg = _
    rw [GT t 0 ht (by decide)]
    rfl
  rw [eh, el]
  unfold sp_agn sp_agx
  by_cases c : ra_held I m t = true
  · rw [if_pos c, if_pos c]
    unfold sp_agv
    exact log_cm (by omega) (by omega) (by omega)
  · rw [if_neg c, if_neg c]
    have e1 : sp_wt (sp_agv I m t 1) m n t = i2_u (lft_ (sp_agv I m t 1) m n (lmI I m t)) (m + 1) (200 + 14 * t + 6) 0 := by
      unfold sp_wt
      rw [show ra_T (sp_agv I m t 1) m t 0 = ra_T I m t 0 by rw [agv_T (by omega) (by omega) (by omega), if_neg (by omega), if_neg (by omega)]]
      rfl
    have e2 : lft_ (sp_agv I m t 1) m n (lmI I m t) = i2_u (lft_ (i2_u (sp_la I m t) (m + 1) (200 + 14 * t + 7) 0) m n (lmI I m t)) (m + 1) (200 + 14 * t + 6) 1 := by
      unfold sp_agv
      exact lft_u6 l1 (by decide) (by rw [YT t 6 ht (by decide), h5]; decide)
    rw [e1, e2, i2_2, log_cm (by omega) (by omega) (by omega), lft_log l1]
def ap_agn (I : fI) (m n : Nat) (x1 : Int32) : Int32 × fI := if 0 ≤ x1 ∧ x1 ≤ nI n - 1 then (if sp_wya I m n x1.toNatClampNeg = 0 then (if ra_held I m x1.toNatClampNeg = true then 1 else 0, sp_agn I m n x1.toNatClampNeg) else (sp_wya I m n x1.toNatClampNeg, sp_ref I m)) else (-2, sp_ref I m)
theorem wya_2 {t : Nat} (h : ¬ sp_wya I m n t = 0) : ¬ -1 ≤ sp_wya I m n t := by
  have w4 : ∀ l k, sp_wya4 I m n l k = 0 ∨ ¬ -1 ≤ sp_wya4 I m n l k := fun l k => by
    unfold sp_wya4
    split
    · exact Or.inr (by decide)
    · split
      · exact Or.inr (by decide)
      · split
        · exact Or.inl rfl
        · exact Or.inr (by decide)
  have : sp_wya I m n t = 0 ∨ ¬ -1 ≤ sp_wya I m n t := by
    unfold sp_wya
    split
    · exact Or.inr (by decide)
    · exact w4 _ _
  exact this.resolve_left h
theorem sm_again (h : ix_ I m n T W P L) (hl : lim_ T W P L) {x1 : Int32} : sm_ I m n T W P L (ap_agn I m n x1) (fun M Q => cs_i mt_X10_again [pv_r 5, pv_i x1] M Q) (fun B J Q => rs_i mt_X11_again [pv_r m, pv_i x1] B J Q) := by
  obtain ⟨l1, l2, l3, l4⟩ := hl
  have h4 := ix_4 h
  have nJ : ∀ {S E}, uf_ S m → pt_ S E I (m + 1) 1 = nI n := fun hS => (uf_at hS (by omega) (by omega)).trans (ix_1 h)
  by_cases c : 0 ≤ x1 ∧ x1 ≤ nI n - 1
  · obtain ⟨t, ht, rfl⟩ := (i32_tk h4).mp c
    by_cases d : sp_wya I m n t = 0
    · rw [show ap_agn I m n (nI t) = (if ra_held I m t = true then 1 else 0, sp_agn I m n t) by unfold ap_agn; rw [if_pos c, nI_clamp (by omega), if_pos d]]
      obtain ⟨c1, c2, c3, c4⟩ := wya_0 h ht d
      obtain ⟨k1, k2⟩ := lm_of (ix_tv h) ht
      refine ⟨⟨n, ix_up (ix_lg (ix_agx h (by omega) ht d) (by omega)) (by omega) (by omega) (by omega) (by omega)⟩, fun M ta tm Q hr K => ?_, fun S E B Q hS RK K => ?_⟩
      · obtain ⟨x, y1, y2⟩ := ix_log h
        refine wc_X10_again_0 (re_m5 hr) (ce_taskAt hr (fun t' ht' e => ?_) (fun q => absurd c q))
        have : t = t' := (nI_eq (by omega) (by omega)).mp e
        subst this
        have g := re_ge hr ht
        refine ⟨fun _ => ce_wya hr h ht ?_, fun q => absurd q (by omega)⟩
        rw [d, hr.1.1.1.2.2.2.2.1]
        obtain ⟨as, a1, a2, a3, a4⟩ := hr.2.1.2.1
        refine ⟨fun _ => ⟨a4.1, ce_drop hr ht (fun M1 h1 => ⟨(re_ge h1 ht).2, fun M2 e2 => ?_⟩)⟩, fun q => absurd (by decide) q⟩
        have h2 := re_ti h1 ht (x := 0) (Or.inl ⟨rfl, rfl⟩)
        rw [← e2] at h2
        refine ce_note h2 (by rw [i2_ua (by omega)]; exact (la_o _ _ _ (by omega)).trans (ix_8 h)) (by rw [i2_ua (by omega)]; exact (la_o _ _ _ (by omega)).trans y2) (by omega) ht (x3 := -1) (Or.inl ⟨rfl, rfl⟩) (fun M3 h3 => ?_)
        have GT : ∀ x f, x < n → f < 7 → ra_T (sp_log (i2_u (sp_la I m t) (m + 1) (200 + 14 * t + 7) 0) m 8 t (-1) 0) m x f = ra_T I m x f := fun x f q1 q2 => by
          refine sp_log_r.trans ?_
          rw [i2_uj (by omega)]
          exact la_o _ _ _ (by omega)
        have sl : sl_ (sgI (sp_log (i2_u (sp_la I m t) (m + 1) (200 + 14 * t + 7) 0) m 8 t (-1) 0) m) n = sl_ (sgI I m) n := fl_eq (fun x q => by
          show sd_ (ra_T (sp_log (i2_u (sp_la I m t) (m + 1) (200 + 14 * t + 7) 0) m 8 t (-1) 0) m x 6) = sd_ (ra_T I m x 6)
          rw [GT x 6 q (by decide)])
        rw [(re_bk h3).1]
        refine ⟨(re_bk h3).2, ce_settle h3 (fun x q => ?_) ht ⟨?_, ?_⟩ (fun M4 h4' => ?_)⟩
        · rw [GT x 4 q (by decide)]
          exact ix_bl h x q
        · rw [sl, lkS (ix_tv h)]
          exact c4
        · have el : lmI (sp_log (i2_u (sp_la I m t) (m + 1) (200 + 14 * t + 7) 0) m 8 t (-1) 0) m t = lmI I m t := by
            show (ra_T (sp_log (i2_u (sp_la I m t) (m + 1) (200 + 14 * t + 7) 0) m 8 t (-1) 0) m t 0).toNatClampNeg = _
            rw [GT t 0 ht (by decide)]
            rfl
          rw [el]
          have : ra_L (sp_log (i2_u (sp_la I m t) (m + 1) (200 + 14 * t + 7) 0) m 8 t (-1) 0) m (lmI I m t) 3 = ra_L I m (lmI I m t) 3 := by
            refine sp_log_r.trans ?_
            rw [i2_uj (by omega)]
            exact la_o _ _ _ (by omega)
          rw [this, c2]
          decide
        · rw [← agn_eq h ht c1] at h4'
          have K := K _ _ _ _ h4'
          rw [re_7 h4' ht]
          have v6 : ra_T (sp_agn I m n t) m t 6 = if ra_held I m t = true then 1 else 0 := by
            refine (sp_log_r (I := sp_agx I m n t)).trans ?_
            unfold sp_agx
            split
            · exact (agv_T (by omega) (by omega) (by omega)).trans (if_pos ⟨rfl, rfl⟩)
            · exact sp_wt_6
          rw [v6]
          by_cases hh : ra_held I m t = true
          · rw [if_pos hh] at K ⊢
            exact ⟨fun q => absurd rfl q, fun _ => K⟩
          · rw [if_neg hh] at K ⊢
            exact ⟨fun _ => K, fun q => absurd q (by decide)⟩
      · obtain ⟨as, s0, s1, s2, s3, s4⟩ := as_l h
        have hJ := ix_pt (E := E) h hS
        have s1' : pt_ S E I (m + 1) 3 = nI as.length := (uf_at hS (by omega) (by omega)).trans s1
        refine wq_X11_again_0 RK (rc_wya RK hJ ht ?_)
        rw [nt_wya hS, d]
        refine ⟨fun _ => wq_X11_leavesAside_0 RK (rc_la RK as.length 0 0 (by rw [s1', Nat.zero_add]) (by omega) (by omega) ⟨t, ⟨rfl, by omega⟩, fun I5 e5 I6 e6 => ?_⟩), fun q => absurd rfl q⟩
        have ela : la_ m t as.length 0 0 (pt_ S E I) = pt_ S E (sp_la I m t) := by
          rw [nt_la hS]
          unfold sp_la
          rw [s1, nI_clamp (by omega)]
        rw [ela, uf_u hS (by omega) (by omega)] at e5
        rw [e5, uf_u hS (by omega) (by omega)] at e6
        have e6 : I6 = pt_ S E (sp_agv I m t 1) := e6
        rw [e6]
        have pT : ∀ x f, ra_T (pt_ S E (sp_agv I m t 1)) m x f = ra_T (sp_agv I m t 1) m x f := fun x f => uf_at hS (by omega) (by omega)
        have gT : ∀ x f, x < n → f < 6 → ra_T (sp_agv I m t 1) m x f = ra_T I m x f := fun x f q1 q2 => by rw [agv_T (by omega) (by omega) (by omega), if_neg (by omega), if_neg (by omega)]
        have eh : ra_held (pt_ S E (sp_agv I m t 1)) m t = ra_held I m t := by
          unfold ra_held
          rw [pT, pT, gT t 4 ht (by decide)]
          rcases ix_bl h t ht with e | ⟨q, hq, e⟩
          · rw [decide_eq_false (fun z => z.1 e), decide_eq_false (fun z => z.1 e)]
          · rw [e, nI_clamp (by omega), agv_T (by omega) (by omega) (by omega), if_neg (by omega), if_neg (by omega)]
        have hb : rb_ (sp_agv I m t 1) m n (nI P) := agv_rb (ix_rb h (by omega)) (by omega)
        have hbJ : rb_ (pt_ S E (sp_agv I m t 1)) m n (nI P) := rb_o hb (uf_at hS (by omega) (by omega)) (fun x q => uf_at hS (by omega) (by omega)) (fun l q => uf_at hS (by omega) (by omega))
        have lb0 : lb_ (pt_ S E (sp_agv I m t 1)) m L := lb_o (ix_lb h) ((uf_at hS (by omega) (by omega)).trans (agv_o (by omega) (by omega))) ((uf_at hS (by omega) (by omega)).trans (agv_o (by omega) (by omega))) (Nat.le_refl _)
        refine rc_isHeldBack RK rfl (by omega) (fun q => ?_) ?_
        · rw [pT, gT t 4 ht (by decide)] at q ⊢
          rcases ix_bl h t ht with e | ⟨p, hp, e⟩
          · exact absurd e q
          · exact ⟨p, e, by omega⟩
        · rw [eh]
          by_cases hh : ra_held I m t = true
          · rw [if_pos hh]
            refine ⟨fun _ => rc_log RK lb0 (by omega) rfl (by omega) ⟨fun q => absurd q (by decide), fun _ => ?_⟩, fun q => absurd q (by decide)⟩
            rw [nt_log (uf_us hS)]
            rw [if_pos hh] at K
            have e : sp_agn I m n t = sp_log (sp_agv I m t 1) m 8 t (-1) 0 := by unfold sp_agn sp_agx; rw [if_pos hh]
            rw [← e]
            exact K
          · rw [if_neg hh]
            refine ⟨fun q => absurd rfl q, fun _ => rc_wt RK hbJ rfl ht (rc_log RK (lb_wt hbJ ht lb0) (by omega) rfl (by omega) ⟨fun _ => ?_, fun q => absurd rfl q⟩)⟩
            rw [nt_wt (uf_us hS) (hb.2.2.1 t ht), nt_log (uf_us hS)]
            rw [if_neg hh] at K
            have e : sp_agn I m n t = sp_log (sp_wt (sp_agv I m t 1) m n t) m 8 t (-1) 0 := by unfold sp_agn sp_agx; rw [if_neg hh]
            rw [← e]
            exact K
    · rw [show ap_agn I m n (nI t) = (sp_wya I m n t, sp_ref I m) by unfold ap_agn; rw [if_pos c, nI_clamp (by omega), if_neg d]]
      refine ⟨ix_rx h, fun M ta tm Q hr K => ?_, fun S E B Q hS RK K => ?_⟩
      · refine wc_X10_again_0 (re_m5 hr) (ce_taskAt hr (fun t' ht' e => ?_) (fun q => absurd c q))
        have : t = t' := (nI_eq (by omega) (by omega)).mp e
        subst this
        have g := re_ge hr ht
        exact ⟨fun _ => ce_wya hr h ht ⟨fun q => absurd q (wya_2 d), fun _ => cr_x hr (wya_2 d) K⟩, fun q => absurd q (by omega)⟩
      · refine wq_X11_again_0 RK (rc_wya RK (ix_pt (E := E) h hS) ht ?_)
        rw [nt_wya hS]
        exact ⟨fun q => absurd q d, fun _ => rr_x hS (ix_8 h) K⟩
  · rw [show ap_agn I m n x1 = (-2, sp_ref I m) from if_neg c]
    refine ⟨ix_rx h, fun M ta tm Q hr K => ?_, fun S E B Q hS RK K => ?_⟩
    · exact wc_X10_again_0 (re_m5 hr) (ce_taskAt hr (fun t ht e => absurd ((i32_tk h4).mpr ⟨t, ht, e⟩) c) (fun _ => ⟨fun q => absurd rfl q, fun _ => cr_x hr (by decide) K⟩))
    · refine wq_X11_again_0 RK (wq_X11_whyNotAgain_0 RK ⟨fun q => absurd (by rw [nJ hS] at q; exact q) c, fun _ => ⟨fun q => absurd q (by decide), fun _ => rr_x hS (ix_8 h) K⟩⟩)
end Agn2
