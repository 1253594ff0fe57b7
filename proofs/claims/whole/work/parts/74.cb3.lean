/-! THE BOARD: what is looked for in its row and among its lanes -/
section CB3
variable {M : mm_T} {I : Nat → Nat → Int32} {m n b : Nat} {ta : Nat → Nat}
/-- behind which one each standing task comes -/
def hb_ (M : mm_T) (ta : Nat → Nat) (I : Nat → Nat → Int32) (m n : Nat) : Prop := ∀ t, t < n → sd_ (sgI I m t) = true → (ra_T I m t 4 = -1 ∧ mm_r M (ta t) 1 = 0) ∨ ∃ q, q < 400 ∧ ra_T I m t 4 = nI q ∧ mm_r M (ta t) 1 ≠ 0 ∧ mm_k M (mm_r M (ta t) 1) = (6, 17) ∧ mm_i M (mm_r M (ta t) 1) 0 = nI q
theorem fd_t {p : Nat → Bool} {y : Nat} {suf : List Nat} (h : p y = true) : (y :: suf).find? p = some y := by rw [List.find?_cons, h]
theorem fd_f {p : Nat → Bool} {y : Nat} {suf : List Nat} (h : p y = false) : (y :: suf).find? p = suf.find? p := by rw [List.find?_cons, h]
theorem cb_held (h : br_ M b ta I m n) (hb : hb_ M ta I m n) {a1 q : Nat} (hk : mm_k M a1 = (6, 17)) (hq : mm_i M a1 0 = nI q) (hq4 : q < 400) {P : Nat → mm_T → Prop} (K : P (oa_ ta (fi_ (sp_hp I m (nI q)) n 0)) M) : cs_r mt_X0_heldBehind [pv_r b, pv_r a1] M P := by
  have hB := h.1
  obtain ⟨k1, k2, k3, k4, k5, k6⟩ := row_k hB
  have hS := br_S h
  refine wc_X0_heldBehind_0 hS.1 ?_
  rw [← fi_sl (sg := sgI I m) (fun t ht hp => by
    unfold sp_hp at hp
    rw [decide_eq_true_eq] at hp
    exact sd_3 (Or.inr (Or.inl hp.1)))] at K
  have loop : ∀ (suf pre : List Nat), pre ++ suf = sl_ (sgI I m) n → P (oa_ ta (suf.find? (sp_hp I m (nI q)))) M → cw_r mt_X0_heldBehind 2 [some (pv_r b), some (pv_r a1), some (pv_i (nI pre.length)), none] [] M P := by
    intro suf
    induction suf with
    | nil =>
      intro pre hp K
      refine wc_X0_heldBehind_2 hS.1 ?_
      rw [k1]
      exact ⟨k2, fun _ => K, fun c => absurd (row_end hB hp) c⟩
    | cons y suf ih =>
      intro pre hp K
      obtain ⟨e1, e2, e3, e4, e5, e6⟩ := row_at hB hp
      have nx : sp_hp I m (nI q) y = false → cw_r mt_X0_heldBehind 2 [some (pv_r b), some (pv_r a1), some (pv_i (nI (pre.length + 1))), none] [] M P := fun hf => by
        rw [fd_f hf] at K
        have := ih (pre ++ [y]) (app1 hp) K
        rw [← len1] at this
        exact this
      have e7 : mm_i M (ta y) 7 = ra_T I m y 6 := e6.2.2.1
      refine wc_X0_heldBehind_2 hS.1 ?_
      rw [k1, k3]
      refine ⟨k2, fun c => absurd c (row_go hB hp), fun _ => ⟨48, k4, pre.length, ⟨rfl, e5⟩, ?_⟩⟩
      rw [e1]
      refine ⟨e6.1, fun c => nx (decide_eq_false (fun z => c (e7.trans z.1))), fun c => ⟨fun c2 => ?_, fun c2 => ?_⟩⟩
      · rcases hb y e2 e3 with ⟨z1, z2⟩ | ⟨r, z1, z2, z3, z4⟩
        · exact nx (decide_eq_false (fun z => absurd (z1.symm.trans z.2) (fun w => nI_nm (show q < 2 ^ 31 by omega) w.symm)))
        · exact absurd c2 z3
      · rcases hb y e2 e3 with ⟨z1, z2⟩ | ⟨r, z1, z2, z3, z4, z5⟩
        · exact absurd z2 c2
        · refine ⟨z4, hk, fun c3 => nx (decide_eq_false (fun z => c3 ?_)), fun c3 => ?_⟩
          · rw [z5, hq, ← z2, z.2]
          · rw [z5, hq, nI_eq (by omega) (by omega)] at c3
            rw [fd_t (decide_eq_true ⟨e7.symm.trans c, by rw [z2, c3]⟩)] at K
            exact K
  exact loop _ [] rfl K
theorem cb_ending (h : br_ M b ta I m n) {en : Nat → Int32} (hen : ∀ t, t < n → ra_T I m t 6 = 3 → mm_i M (ta t) 12 = en t) {x1 : Int32} {P : Nat → mm_T → Prop} (K : P (oa_ ta (fi_ (fun t => decide (ra_T I m t 6 = 3 ∧ ¬ x1 < en t)) n 0)) M) : cs_r mt_X0_firstEnding [pv_r b, pv_i x1] M P := by
  have hB := h.1
  obtain ⟨k1, k2, k3, k4, k5, k6⟩ := row_k hB
  have hS := br_S h
  refine wc_X0_firstEnding_0 hS.1 ?_
  rw [← fi_sl (sg := sgI I m) (fun t ht hp => by
    simp only [decide_eq_true_eq] at hp
    exact sd_3 (Or.inr (Or.inr (Or.inr hp.1))))] at K
  have loop : ∀ (suf pre : List Nat), pre ++ suf = sl_ (sgI I m) n → P (oa_ ta (suf.find? (fun t => decide (ra_T I m t 6 = 3 ∧ ¬ x1 < en t)))) M → cw_r mt_X0_firstEnding 2 [some (pv_r b), some (pv_i x1), some (pv_i (nI pre.length))] [] M P := by
    intro suf
    induction suf with
    | nil =>
      intro pre hp K
      refine wc_X0_firstEnding_2 hS.1 ?_
      rw [k1]
      exact ⟨k2, fun _ => K, fun c => absurd (row_end hB hp) c⟩
    | cons y suf ih =>
      intro pre hp K
      obtain ⟨e1, e2, e3, e4, e5, e6⟩ := row_at hB hp
      have nx : decide (ra_T I m y 6 = 3 ∧ ¬ x1 < en y) = false → cw_r mt_X0_firstEnding 2 [some (pv_r b), some (pv_i x1), some (pv_i (nI (pre.length + 1)))] [] M P := fun hf => by
        rw [fd_f hf] at K
        have := ih (pre ++ [y]) (app1 hp) K
        rw [← len1] at this
        exact this
      have e7 : mm_i M (ta y) 7 = ra_T I m y 6 := e6.2.2.1
      refine wc_X0_firstEnding_2 hS.1 ?_
      rw [k1, k3]
      refine ⟨k2, fun c => absurd c (row_go hB hp), fun _ => ⟨48, k4, pre.length, ⟨rfl, e5⟩, ?_⟩⟩
      rw [e1]
      refine ⟨e6.1, wc_X6_endsBy_0 e6.1 ⟨fun c => ⟨fun _ => ?_, fun c2 => absurd rfl c2⟩, fun c => ⟨fun c2 => ⟨fun _ => ?_, fun c3 => absurd rfl c3⟩, fun c2 => ⟨fun c3 => absurd c3 (by decide), fun _ => ?_⟩⟩⟩⟩
      · exact nx (decide_eq_false (fun z => c (e7.trans z.1)))
      · rw [hen y e2 (e7.symm.trans c)] at c2
        exact nx (decide_eq_false (fun z => z.2 c2))
      · rw [hen y e2 (e7.symm.trans c)] at c2
        rw [k1, k3]
        refine ⟨k2, 48, k4, e5, ?_⟩
        rw [e1]
        rw [fd_t (decide_eq_true ⟨e7.symm.trans c, c2⟩)] at K
        exact K
  exact loop _ [] rfl K
theorem cb_due (h : br_ M b ta I m n) (hdu : ∀ t, t < n → ra_T I m t 6 = 2 → mm_i M (ta t) 9 = ra_T I m t 8) (h0 : ∀ t, t < n → sd_ (sgI I m t) = true → ta t ≠ 0) {x1 : Int32} {P : Nat → mm_T → Prop} (K : P (match sp_nr I m n with | none => 0 | some t => if x1 < ra_T I m t 8 then 0 else ta t) M) : cs_r mt_X0_firstDue [pv_r b, pv_i x1] M P := by
  refine wc_X0_firstDue_0 (br_S h).1 (cb_least (o := none) (od := fun t => ra_T I m t 8) h (by decide) (fun l q => by cases q) (fun t ht hi => ?_) h0 ?_)
  · unfold iof_ at hi
    rw [Bool.and_eq_true, decide_eq_true_eq] at hi
    have hst : sd_ (sgI I m t) = true := sd_3 (Or.inr (Or.inr (Or.inl hi.1)))
    have e7 : mm_i M (ta t) 7 = 2 := (br_tc h ht hst).2.2.1.trans hi.1
    unfold ordv
    rw [if_pos e7]
    exact hdu t ht hi.1
  · have e : bs_ (iof_ I m 2 none) (fun a c => decide (ra_T I m a 8 < ra_T I m c 8)) n = sp_nr I m n := bs_eq (fun t _ => by unfold iof_; simp) (fun _ _ _ _ => rfl)
    rw [e]
    cases hn : sp_nr I m n with
    | none =>
      rw [hn] at K
      exact ⟨fun _ => K, fun c => absurd rfl c⟩
    | some t =>
      rw [hn] at K
      obtain ⟨ht, h2⟩ := nr_of hn
      have hst : sd_ (sgI I m t) = true := sd_3 (Or.inr (Or.inr (Or.inl h2)))
      obtain ⟨g1, g2, g3, g4, g5⟩ := br_tc h ht hst
      refine ⟨fun c => absurd c (h0 t ht hst), fun _ => ⟨g1, wc_X6_dueBy_0 g1 ⟨fun c => absurd (g3.trans h2) c, fun _ => ?_⟩⟩⟩
      have e9 : mm_i M (oa_ ta (some t)) 9 = ra_T I m t 8 := hdu t ht h2
      rw [e9]
      refine ⟨fun c => ⟨fun _ => ?_, fun c2 => absurd rfl c2⟩, fun c => ⟨fun c2 => absurd c2 (by decide), fun _ => ?_⟩⟩
      · simp only [if_pos c] at K
        exact K
      · simp only [if_neg c] at K
        exact K
theorem cb_number (h : br_ M b ta I m n) {t : Nat} (ht : t < n) (hst : sd_ (sgI I m t) = true) {x1 : Int32} (hx : x1 = nI t) {P : Nat → mm_T → Prop} (K : P (ta t) M) : cs_r mt_X0_withNumber [pv_r b, pv_i x1] M P := by
  have hB := h.1
  have h4 := h.2.1.2.1
  obtain ⟨k1, k2, k3, k4, k5, k6⟩ := row_k hB
  have hS := br_S h
  refine wc_X0_withNumber_0 hS.1 ?_
  have loop : ∀ (suf pre : List Nat), pre ++ suf = sl_ (sgI I m) n → t ∈ suf → cw_r mt_X0_withNumber 2 [some (pv_r b), some (pv_i x1), some (pv_i (nI pre.length))] [] M P := by
    intro suf
    induction suf with
    | nil => intro pre hp q; cases q
    | cons y suf ih =>
      intro pre hp hm
      obtain ⟨e1, e2, e3, e4, e5, e6⟩ := row_at hB hp
      refine wc_X0_withNumber_2 hS.1 ?_
      rw [k1, k3]
      refine ⟨k2, fun c => absurd c (row_go hB hp), fun _ => ⟨48, k4, pre.length, ⟨rfl, e5⟩, ?_⟩⟩
      rw [e1]
      refine ⟨e6.1, fun c => ?_, fun c => ⟨e5, ?_⟩⟩
      · have hne : t ≠ y := fun q => c (by rw [e6.2.1, hx, q])
        rcases List.mem_cons.mp hm with q | q
        · exact absurd q hne
        · have := ih (pre ++ [y]) (app1 hp) q
          rw [← len1] at this
          exact this
      · rw [e6.2.1, hx, nI_eq (by omega) (by omega)] at c
        rw [c]
        exact K
  refine loop _ [] rfl ?_
  rw [List.mem_filter, List.mem_range]
  exact ⟨ht, hst⟩
theorem cb_key (h : br_ M b ta I m n) (hk : ∀ t, t < n → sd_ (sgI I m t) = true → mm_i M (ta t) 5 = ra_T I m t 3) {x1 : Int32} {P : Nat → mm_T → Prop} (K : P (oa_ ta (fi_ (ra_kst I m x1) n 0)) M) : cs_r mt_X0_withKey [pv_r b, pv_i x1] M P := by
  have hB := h.1
  obtain ⟨k1, k2, k3, k4, k5, k6⟩ := row_k hB
  have hS := br_S h
  refine wc_X0_withKey_0 hS.1 ?_
  rw [← fi_sl (sg := sgI I m) (fun t ht hp => by
    unfold ra_kst at hp
    rw [decide_eq_true_eq] at hp
    exact (sd_of h.2.1 ht).mpr hp.2)] at K
  have loop : ∀ (suf pre : List Nat), pre ++ suf = sl_ (sgI I m) n → P (oa_ ta (suf.find? (ra_kst I m x1))) M → cw_r mt_X0_withKey 2 [some (pv_r b), some (pv_i x1), some (pv_i (nI pre.length))] [] M P := by
    intro suf
    induction suf with
    | nil =>
      intro pre hp K
      refine wc_X0_withKey_2 hS.1 ?_
      rw [k1]
      exact ⟨k2, fun _ => K, fun c => absurd (row_end hB hp) c⟩
    | cons y suf ih =>
      intro pre hp K
      obtain ⟨e1, e2, e3, e4, e5, e6⟩ := row_at hB hp
      refine wc_X0_withKey_2 hS.1 ?_
      rw [k1, k3]
      refine ⟨k2, fun c => absurd c (row_go hB hp), fun _ => ⟨48, k4, pre.length, ⟨rfl, e5⟩, ?_⟩⟩
      rw [e1]
      refine ⟨e6.1, fun c => ?_, fun c => ⟨e5, ?_⟩⟩
      · rw [hk y e2 e3] at c
        rw [fd_f (decide_eq_false (fun z => c z.1))] at K
        have := ih (pre ++ [y]) (app1 hp) K
        rw [← len1] at this
        exact this
      · rw [hk y e2 e3] at c
        rw [fd_t (decide_eq_true ⟨c, (sd_of h.2.1 e2).mp e3⟩)] at K
        exact K
  exact loop _ [] rfl K
/-! counting those ahead, the k-th -/
theorem ct_sl {sg : Nat → Int32} {p : Nat → Bool} (h : ∀ t, t < n → p t = true → sd_ (sg t) = true) : ((sl_ sg n).filter p).length = cn_ p n := by
  rw [cn_len]
  unfold sl_
  rw [List.filter_filter]
  congr 1
  refine fl_eq (fun t ht => ?_)
  cases hp : p t with
  | false => simp
  | true => simp [h t ht hp]
def ahd_ (od : Nat → Int32) (a c : Nat) : Bool := decide (od a < od c ∨ (od a = od c ∧ a < c))
theorem cb_countAhead (h : br_ M b ta I m n) {x1 : Int32} (hx : sd_ x1 = true) {o : Option Nat} (ho : ∀ l, o = some l → l < 5) {od : Nat → Int32} (hod : ∀ t, t < n → iof_ I m x1 o t = true → ordv M b (ta t) = od t) {t : Nat} (ht : t < n) (hi : iof_ I m x1 o t = true) {P : Int32 → mm_T → Prop} (K : P (nI (cn_ (fun c => iof_ I m x1 o c && ahd_ od c t) n)) M) : cs_i mt_X0_countAhead [pv_r b, pv_r (ta t), pv_r (oa_ (fun l => b + 6 + l) o)] M P := by
  have hB := h.1
  have h4 := h.2.1.2.1
  obtain ⟨k1, k2, k3, k4, k5, k6⟩ := row_k hB
  have hS := br_S h
  have sd_i : ∀ t, t < n → iof_ I m x1 o t = true → ra_T I m t 6 = x1 ∧ sd_ (sgI I m t) = true := fun t _ q => by
    unfold iof_ at q
    rw [Bool.and_eq_true, decide_eq_true_eq] at q
    unfold sgI
    rw [q.1]
    exact ⟨rfl, hx⟩
  obtain ⟨i1, i2⟩ := sd_i t ht hi
  obtain ⟨g1, g2, g3, g4, g5⟩ := br_tc h ht i2
  have g3 : mm_i M (ta t) 7 = x1 := g3.trans i1
  refine wc_X0_countAhead_0 hS.1 ?_
  rw [← ct_sl (sg := sgI I m) (fun c hc hp => by
    rw [Bool.and_eq_true] at hp
    exact (sd_i c hc hp.1).2)] at K
  have loop : ∀ (suf pre : List Nat), pre ++ suf = sl_ (sgI I m) n → cw_i mt_X0_countAhead 5 [some (pv_r b), some (pv_r (ta t)), some (pv_r (oa_ (fun l => b + 6 + l) o)), some (pv_i (nI (pre.filter (fun c => iof_ I m x1 o c && ahd_ od c t)).length)), some (pv_i (nI pre.length)), none] [] M P := by
    intro suf
    induction suf with
    | nil =>
      intro pre hp
      refine wc_X0_countAhead_5 hS.1 ?_
      rw [k1]
      refine ⟨k2, fun _ => ?_, fun c => absurd (row_end hB hp) c⟩
      rw [show pre = sl_ (sgI I m) n by simpa using hp]
      exact K
    | cons y suf ih =>
      intro pre hp
      obtain ⟨e1, e2, e3, e4, e5, e6⟩ := row_at hB hp
      have ih := ih (pre ++ [y]) (app1 hp)
      rw [← len1, List.filter_append, List.length_append] at ih
      have no : (iof_ I m x1 o y && ahd_ od y t) = false → cw_i mt_X0_countAhead 5 [some (pv_r b), some (pv_r (ta t)), some (pv_r (oa_ (fun l => b + 6 + l) o)), some (pv_i (nI (pre.filter (fun c => iof_ I m x1 o c && ahd_ od c t)).length)), some (pv_i (nI (pre.length + 1))), none] [] M P := fun hf => by
        rw [List.filter_cons, if_neg (by rw [hf]; decide)] at ih
        exact ih
      have yes : (iof_ I m x1 o y && ahd_ od y t) = true → cw_i mt_X0_countAhead 5 [some (pv_r b), some (pv_r (ta t)), some (pv_r (oa_ (fun l => b + 6 + l) o)), some (pv_i (nI (pre.filter (fun c => iof_ I m x1 o c && ahd_ od c t)).length + 1)), some (pv_i (nI (pre.length + 1))), none] [] M P := fun hf => by
        rw [List.filter_cons, if_pos hf] at ih
        rw [nI_1]
        exact ih
      refine wc_X0_countAhead_5 hS.1 ?_
      rw [k1, k3]
      refine ⟨k2, fun c => absurd c (row_go hB hp), fun _ => ⟨48, k4, pre.length, ⟨rfl, e5⟩, g1, ?_⟩⟩
      rw [e1, g3]
      refine cb_isOf h e2 e3 ho ?_
      cases hy : iof_ I m x1 o y with
      | false => exact ⟨fun _ => no (by rw [hy]; rfl), fun c => absurd rfl c⟩
      | true =>
        refine ⟨fun c => absurd c (by decide), fun _ => wc_X0_isAhead_0 hS.1 (cb_order hS e6.1 (cb_order hS g1 ?_))⟩
        rw [hod y e2 hy, hod t ht hi]
        have an : ahd_ od y t = false → (iof_ I m x1 o y && ahd_ od y t) = false := fun q => by rw [q]; simp
        have ay : ahd_ od y t = true → (iof_ I m x1 o y && ahd_ od y t) = true := fun q => by rw [q, hy]; rfl
        refine ⟨fun c => ⟨fun c2 => absurd c2 (by decide), fun _ => yes (ay (decide_eq_true (Or.inl c)))⟩, fun c => ⟨fun c2 => ⟨fun _ => no (an (decide_eq_false (fun q => q.elim c (fun q => c2 q.1)))), fun c3 => absurd rfl c3⟩, fun c2 => ⟨e6.1, g1, fun c3 => ⟨fun _ => no (an (decide_eq_false (fun q => q.elim c (fun q => ?_)))), fun c4 => absurd rfl c4⟩, fun c3 => ⟨fun c4 => absurd c4 (by decide), fun _ => yes (ay (decide_eq_true (Or.inr ⟨c2, ?_⟩)))⟩⟩⟩⟩
        · rw [g2, e6.2.1, nI_leI (by omega) (by omega)] at c3
          omega
        · rw [g2, e6.2.1, nI_leI (by omega) (by omega)] at c3
          omega
  exact loop _ [] rfl
theorem cb_kth (h : br_ M b ta I m n) {x1 : Int32} (hx : sd_ x1 = true) {o : Option Nat} (ho : ∀ l, o = some l → l < 5) {od : Nat → Int32} (hod : ∀ t, t < n → iof_ I m x1 o t = true → ordv M b (ta t) = od t) {x3 : Int32} {P : Nat → mm_T → Prop} (K : P (oa_ ta (fi_ (fun t => iof_ I m x1 o t && decide (nI (cn_ (fun c => iof_ I m x1 o c && ahd_ od c t) n) = x3)) n 0)) M) : cs_r mt_X0_kth [pv_r b, pv_i x1, pv_r (oa_ (fun l => b + 6 + l) o), pv_i x3] M P := by
  have hB := h.1
  obtain ⟨k1, k2, k3, k4, k5, k6⟩ := row_k hB
  have hS := br_S h
  refine wc_X0_kth_0 hS.1 ?_
  rw [← fi_sl (sg := sgI I m) (fun t ht hp => by
    rw [Bool.and_eq_true] at hp
    have q := hp.1
    unfold iof_ at q
    rw [Bool.and_eq_true, decide_eq_true_eq] at q
    unfold sgI
    rw [q.1]
    exact hx)] at K
  have loop : ∀ (suf pre : List Nat), pre ++ suf = sl_ (sgI I m) n → P (oa_ ta (suf.find? (fun t => iof_ I m x1 o t && decide (nI (cn_ (fun c => iof_ I m x1 o c && ahd_ od c t) n) = x3)))) M → cw_r mt_X0_kth 3 [some (pv_r b), some (pv_i x1), some (pv_r (oa_ (fun l => b + 6 + l) o)), some (pv_i x3), some (pv_i (nI pre.length)), none] [] M P := by
    intro suf
    induction suf with
    | nil =>
      intro pre hp K
      refine wc_X0_kth_3 hS.1 ?_
      rw [k1]
      exact ⟨k2, fun _ => K, fun c => absurd (row_end hB hp) c⟩
    | cons y suf ih =>
      intro pre hp K
      obtain ⟨e1, e2, e3, e4, e5, e6⟩ := row_at hB hp
      have nx : (iof_ I m x1 o y && decide (nI (cn_ (fun c => iof_ I m x1 o c && ahd_ od c y) n) = x3)) = false → cw_r mt_X0_kth 3 [some (pv_r b), some (pv_i x1), some (pv_r (oa_ (fun l => b + 6 + l) o)), some (pv_i x3), some (pv_i (nI (pre.length + 1))), none] [] M P := fun hf => by
        rw [fd_f hf] at K
        have := ih (pre ++ [y]) (app1 hp) K
        rw [← len1] at this
        exact this
      refine wc_X0_kth_3 hS.1 ?_
      rw [k1, k3]
      refine ⟨k2, fun c => absurd c (row_go hB hp), fun _ => ⟨48, k4, pre.length, ⟨rfl, e5⟩, ?_⟩⟩
      rw [e1]
      refine cb_isOf h e2 e3 ho ?_
      cases hy : iof_ I m x1 o y with
      | false => exact ⟨fun _ => nx (by rw [hy]; rfl), fun c => absurd rfl c⟩
      | true =>
        refine ⟨fun c => absurd c (by decide), fun _ => cb_countAhead h hx ho hod e2 hy ⟨fun c => nx (by rw [hy, decide_eq_false c]; rfl), fun c => ?_⟩⟩
        rw [fd_t (by rw [hy, decide_eq_true c]; rfl)] at K
        exact K
  exact loop _ [] rfl K
/-! the eldest, sizes -/
theorem cb_eldest (h : br_ M b ta I m n) {l : Nat} (hl : l < 5) (h0 : ∀ t, t < n → sd_ (sgI I m t) = true → ta t ≠ 0) {P : Nat → mm_T → Prop} (K : P (oa_ ta (bs_ (iof_ I m 0 (some l)) (fun a c => decide (ra_T I m a 5 < ra_T I m c 5)) n)) M) : cs_r mt_X0_longestWaiting [pv_r b, pv_r (b + 6 + l)] M P := by
  have hB := h.1
  obtain ⟨k1, k2, k3, k4, k5, k6⟩ := row_k hB
  have hS := br_S h
  have ho : ∀ l', some l = some l' → l' < 5 := fun l' q => by cases q; exact hl
  have sd_i : ∀ t, t < n → iof_ I m 0 (some l) t = true → sd_ (sgI I m t) = true := fun t _ q => by
    unfold iof_ at q
    rw [Bool.and_eq_true, decide_eq_true_eq] at q
    exact sd_3 (Or.inl q.1)
  refine wc_X0_longestWaiting_0 hS.1 ?_
  have loop : ∀ (suf pre : List Nat), pre ++ suf = sl_ (sgI I m) n → (∀ q, pre.foldl (bs_s1 (iof_ I m 0 (some l)) (fun a c => decide (ra_T I m a 5 < ra_T I m c 5))) none = some q → q < n ∧ sd_ (sgI I m q) = true) → cw_r mt_X0_longestWaiting 4 [some (pv_r b), some (pv_r (b + 6 + l)), some (pv_r (oa_ ta (pre.foldl (bs_s1 (iof_ I m 0 (some l)) (fun a c => decide (ra_T I m a 5 < ra_T I m c 5))) none))), some (pv_i (nI pre.length)), none] [] M P := by
    intro suf
    induction suf with
    | nil =>
      intro pre hp _
      refine wc_X0_longestWaiting_4 hS.1 ?_
      rw [k1]
      refine ⟨k2, fun _ => ?_, fun c => absurd (row_end hB hp) c⟩
      rw [show pre = sl_ (sgI I m) n by simpa using hp, fo_sl sd_i]
      exact K
    | cons y suf ih =>
      intro pre hp hq
      obtain ⟨e1, e2, e3, e4, e5, e6⟩ := row_at hB hp
      have ih := ih (pre ++ [y]) (app1 hp)
      rw [List.foldl_append, ← len1] at ih
      simp only [List.foldl_cons, List.foldl_nil] at ih
      refine wc_X0_longestWaiting_4 hS.1 ?_
      rw [k1, k3]
      refine ⟨k2, fun c => absurd c (row_go hB hp), fun _ => ⟨48, k4, pre.length, ⟨rfl, e5⟩, ?_⟩⟩
      rw [e1]
      refine cb_isOf (o := some l) h e2 e3 ho ?_
      cases hi : iof_ I m 0 (some l) y with
      | false =>
        refine ⟨fun _ => ?_, fun c => absurd rfl c⟩
        have e : ∀ a, bs_s1 (iof_ I m 0 (some l)) (fun a c => decide (ra_T I m a 5 < ra_T I m c 5)) a y = a := fun a => by unfold bs_s1; rw [if_neg (by rw [hi]; decide)]
        rw [e] at ih
        exact ih hq
      | true =>
        refine ⟨fun c => absurd c (by decide), fun _ => ?_⟩
        cases hb : pre.foldl (bs_s1 (iof_ I m 0 (some l)) (fun a c => decide (ra_T I m a 5 < ra_T I m c 5))) none with
        | none =>
          have e : bs_s1 (iof_ I m 0 (some l)) (fun a c => decide (ra_T I m a 5 < ra_T I m c 5)) none y = some y := by unfold bs_s1; rw [if_pos hi]
          rw [hb, e] at ih
          exact ⟨fun _ => ih (fun q z => by cases z; exact ⟨e2, e3⟩), fun c => absurd rfl c⟩
        | some q =>
          obtain ⟨q1, q2⟩ := hq q hb
          have e : bs_s1 (iof_ I m 0 (some l)) (fun a c => decide (ra_T I m a 5 < ra_T I m c 5)) (some q) y = if ra_T I m y 5 < ra_T I m q 5 then some y else some q := by
            unfold bs_s1
            rw [if_pos hi]
            simp
          rw [hb, e] at ih
          have eq : mm_i M (ta q) 6 = ra_T I m q 5 := (h.2.2.2.2.1 q q1 q2).2.2
          have ey : mm_i M (ta y) 6 = ra_T I m y 5 := (h.2.2.2.2.1 y e2 e3).2.2
          refine ⟨fun c => absurd c (h0 q q1 q2), fun _ => ⟨e6.1, (br_tc h q1 q2).1, fun c => ?_, fun c => ?_⟩⟩
          · have c : mm_i M (ta q) 6 ≤ mm_i M (ta y) 6 := c
            rw [eq, ey] at c
            rw [if_neg (Int32.not_lt.mpr c)] at ih
            exact ih (fun r z => by cases z; exact ⟨q1, q2⟩)
          · have c : ¬ mm_i M (ta q) 6 ≤ mm_i M (ta y) 6 := c
            rw [eq, ey] at c
            rw [if_pos (Int32.not_le.mp c)] at ih
            exact ih (fun r z => by cases z; exact ⟨e2, e3⟩)
  exact loop (sl_ (sgI I m) n) [] rfl (fun q z => by cases z)
theorem su_fold (f : Nat → Int32) : ∀ n, su_ f n = (List.range n).foldl (fun a t => a + f t) 0
  | 0 => rfl
  | n + 1 => by
    rw [List.range_succ, List.foldl_append, ← su_fold f n]
    rfl
theorem sz_sl {sg : Nat → Int32} {p : Nat → Bool} {f : Nat → Int32} (h : ∀ t, t < n → p t = true → sd_ (sg t) = true) : (sl_ sg n).foldl (fun a t => if p t = true then a + f t else a) 0 = su_ (fun t => if p t = true then f t else 0) n := by
  rw [su_fold]
  unfold sl_
  rw [List.foldl_filter]
  refine fl_cong (fun t ht a => ?_)
  by_cases hp : p t = true
  · rw [if_pos (h t (List.mem_range.mp ht) hp), if_pos hp, if_pos hp]
  · rw [if_neg hp, if_neg hp, Int32.add_zero]
    split <;> rfl
theorem cb_sizes (h : br_ M b ta I m n) {l : Nat} (hl : l < 5) {P : Int32 → mm_T → Prop} (K : P (su_ (fun t => if iof_ I m 0 (some l) t = true then ra_T I m t 2 else 0) n) M) : cs_i mt_X0_waitingSizes [pv_r b, pv_r (b + 6 + l)] M P := by
  have hB := h.1
  obtain ⟨k1, k2, k3, k4, k5, k6⟩ := row_k hB
  have hS := br_S h
  have ho : ∀ l', some l = some l' → l' < 5 := fun l' q => by cases q; exact hl
  refine wc_X0_waitingSizes_0 hS.1 ?_
  rw [← sz_sl (sg := sgI I m) (fun t _ q => by
    unfold iof_ at q
    rw [Bool.and_eq_true, decide_eq_true_eq] at q
    exact sd_3 (Or.inl q.1))] at K
  have loop : ∀ (suf pre : List Nat), pre ++ suf = sl_ (sgI I m) n → cw_i mt_X0_waitingSizes 4 [some (pv_r b), some (pv_r (b + 6 + l)), some (pv_i (pre.foldl (fun a t => if iof_ I m 0 (some l) t = true then a + ra_T I m t 2 else a) 0)), some (pv_i (nI pre.length))] [] M P := by
    intro suf
    induction suf with
    | nil =>
      intro pre hp
      refine wc_X0_waitingSizes_4 hS.1 ?_
      rw [k1]
      refine ⟨k2, fun _ => ?_, fun c => absurd (row_end hB hp) c⟩
      rw [show pre = sl_ (sgI I m) n by simpa using hp]
      exact K
    | cons y suf ih =>
      intro pre hp
      obtain ⟨e1, e2, e3, e4, e5, e6⟩ := row_at hB hp
      have ih := ih (pre ++ [y]) (app1 hp)
      rw [List.foldl_append, ← len1] at ih
      simp only [List.foldl_cons, List.foldl_nil] at ih
      refine wc_X0_waitingSizes_4 hS.1 ?_
      rw [k1, k3]
      refine ⟨k2, fun c => absurd c (row_go hB hp), fun _ => ⟨48, k4, pre.length, ⟨rfl, e5⟩, ?_⟩⟩
      rw [e1]
      refine cb_isOf (o := some l) h e2 e3 ho ?_
      cases hi : iof_ I m 0 (some l) y with
      | false =>
        rw [if_neg (by rw [hi]; decide)] at ih
        exact ⟨fun _ => ih, fun c => absurd rfl c⟩
      | true =>
        rw [if_pos hi] at ih
        refine ⟨fun c => absurd c (by decide), fun _ => ?_⟩
        rw [k1, k3]
        refine ⟨k2, 48, k4, e5, ?_⟩
        rw [e1, (h.2.2.2.2.1 y e2 e3).2.1]
        exact ⟨e6.1, ih⟩
  exact loop _ [] rfl
/-! lanes -/
theorem cb_laneAt (hS : bS M b) {x1 : Int32} {P : Nat → mm_T → Prop} (K1 : ∀ l, l < 5 → x1 = nI l → P (b + 6 + l) M) (K2 : (¬ (0 ≤ x1 ∧ x1 ≤ 4)) → P 0 M) : cs_r mt_X0_laneAt [pv_r b, pv_i x1] M P := by
  obtain ⟨h1, h2, h3, -, -, -, -, -, -, -, -, h12⟩ := hS
  refine wc_X0_laneAt_0 h1 ⟨fun c => K2 (fun q => Int32.not_lt.mpr q.1 c), fun c => ⟨fun c2 => ?_, fun c2 => K2 (fun q => ?_)⟩⟩
  · obtain ⟨l, hl, rfl⟩ := nI_of c
    have hl5 : l < 5 := (nI_ltI hl (by decide)).mp (show nI l < nI 5 from c2)
    rw [h2]
    refine ⟨5, h3, l, ⟨rfl, hl5⟩, ?_⟩
    rw [(h12 l hl5).2.1]
    exact K1 l hl5 rfl
  · obtain ⟨j, hj, rfl⟩ := i32_in (N := 4) (by decide) q
    exact c2 (show nI j < nI 5 from nI_lt (by omega) (by decide))
theorem cb_live (h : br_ M b ta I m n) {P : Int32 → mm_T → Prop} (K : P (nI (cn_ (fun l => ra_live I m n (nI l)) 5)) M) : cs_i mt_X0_liveLanes [pv_r b] M P := by
  obtain ⟨h1, h2, h3, -⟩ := br_S h
  refine wc_X0_liveLanes_0 h1 ⟨5, by rw [h2]; exact h3, ?_⟩
  rw [h2]
  have loop : ∀ k l, l + k = 5 → cw_i mt_X0_liveLanes 13 [some (pv_r b), some (pv_i (nI (cn_ (fun l => ra_live I m n (nI l)) l))), some (pv_r (b + 1)), some (pv_i (nI 5)), some (pv_i (nI l)), none] [] M P := by
    intro k
    induction k with
    | zero =>
      intro l hl
      have hl : l = 5 := by omega
      subst hl
      exact wc_X0_liveLanes_13 h1 ⟨fun _ => K, fun c => absurd (Int32.le_refl _) c⟩
    | succ k ih =>
      intro l hl
      have hl5 : l < 5 := by omega
      have ih := ih (l + 1) (by omega)
      obtain ⟨g1, g2, g3⟩ := br_ln h hl5
      refine wc_X0_liveLanes_13 h1 ⟨fun c => absurd c (nI_5 hl5), fun _ => ⟨5, h3, l, ⟨rfl, hl5⟩, ?_⟩⟩
      rw [g2]
      refine ⟨g1, fun c => ?_, fun c => ?_⟩
      · rw [cn_f (p := fun l => ra_live I m n (nI l)) ((br_lv' h hl5).mp c)] at ih
        exact ih
      · rw [← cn_e1 (p := fun l => ra_live I m n (nI l)) (by
          cases hz : ra_live I m n (nI l) with
          | true => rfl
          | false => exact absurd ((br_lv' h hl5).mpr hz) c)] at ih
        exact ih
  exact loop 5 0 (by omega)
theorem cb_taken (hS : bS M b) {P : Int32 → mm_T → Prop} (K : P (su_ (fun l => mm_i M (b + 6 + l) 9) 5) M) : cs_i mt_X0_takenSizes [pv_r b] M P := by
  obtain ⟨h1, h2, h3, -, -, -, -, -, -, -, -, h12⟩ := hS
  refine wc_X0_takenSizes_0 h1 ⟨5, by rw [h2]; exact h3, ?_⟩
  rw [h2]
  have loop : ∀ k l, l + k = 5 → cw_i mt_X0_takenSizes 13 [some (pv_r b), some (pv_i (su_ (fun l => mm_i M (b + 6 + l) 9) l)), some (pv_r (b + 1)), some (pv_i (nI 5)), some (pv_i (nI l)), none] [] M P := by
    intro k
    induction k with
    | zero =>
      intro l hl
      have hl : l = 5 := by omega
      subst hl
      exact wc_X0_takenSizes_13 h1 ⟨fun _ => K, fun c => absurd (Int32.le_refl _) c⟩
    | succ k ih =>
      intro l hl
      have hl5 : l < 5 := by omega
      obtain ⟨g1, g2, g3⟩ := h12 l hl5
      refine wc_X0_takenSizes_13 h1 ⟨fun c => absurd c (nI_5 hl5), fun _ => ⟨5, h3, l, ⟨rfl, hl5⟩, ?_⟩⟩
      rw [g2]
      exact ⟨g1, ih (l + 1) (by omega)⟩
  exact loop 5 0 (by omega)
theorem cb_weights (hS : bS M b) {P : Int32 → mm_T → Prop} (K : P (su_ (fun l => mm_i M (b + 6 + l) 1) 5) M) : cs_i mt_X0_weights [pv_r b] M P := by
  obtain ⟨h1, h2, h3, -, -, -, -, -, -, -, -, h12⟩ := hS
  refine wc_X0_weights_0 h1 ⟨5, by rw [h2]; exact h3, ?_⟩
  rw [h2]
  have loop : ∀ k l, l + k = 5 → cw_i mt_X0_weights 13 [some (pv_r b), some (pv_i (su_ (fun l => mm_i M (b + 6 + l) 1) l)), some (pv_r (b + 1)), some (pv_i (nI 5)), some (pv_i (nI l)), none] [] M P := by
    intro k
    induction k with
    | zero =>
      intro l hl
      have hl : l = 5 := by omega
      subst hl
      exact wc_X0_weights_13 h1 ⟨fun _ => K, fun c => absurd (Int32.le_refl _) c⟩
    | succ k ih =>
      intro l hl
      have hl5 : l < 5 := by omega
      obtain ⟨g1, g2, g3⟩ := h12 l hl5
      refine wc_X0_weights_13 h1 ⟨fun c => absurd c (nI_5 hl5), fun _ => ⟨5, h3, l, ⟨rfl, hl5⟩, ?_⟩⟩
      rw [g2]
      exact ⟨g1, ih (l + 1) (by omega)⟩
  exact loop 5 0 (by omega)
theorem cb_great (h : br_ M b ta I m n) {P : Nat → mm_T → Prop} (K : P (oa_ (fun l => b + 6 + l) (bs_ (fun l => ra_live I m n (nI l)) (fun a c => decide (ra_L I m c 4 < ra_L I m a 4)) 5)) M) : cs_r mt_X0_greatestPass [pv_r b] M P := by
  obtain ⟨h1, h2, h3, -⟩ := br_S h
  refine wc_X0_greatestPass_0 h1 ⟨5, by rw [h2]; exact h3, ?_⟩
  rw [h2]
  have loop : ∀ k l, l + k = 5 → cw_r mt_X0_greatestPass 13 [some (pv_r b), some (pv_r (oa_ (fun l => b + 6 + l) (bs_ (fun l => ra_live I m n (nI l)) (fun a c => decide (ra_L I m c 4 < ra_L I m a 4)) l))), some (pv_r (b + 1)), some (pv_i (nI 5)), some (pv_i (nI l)), none] [] M P := by
    intro k
    induction k with
    | zero =>
      intro l hl
      have hl : l = 5 := by omega
      subst hl
      exact wc_X0_greatestPass_13 h1 ⟨fun _ => K, fun c => absurd (Int32.le_refl _) c⟩
    | succ k ih =>
      intro l hl
      have hl5 : l < 5 := by omega
      have ih := ih (l + 1) (by omega)
      obtain ⟨g1, g2, g3⟩ := br_ln h hl5
      refine wc_X0_greatestPass_13 h1 ⟨fun c => absurd c (nI_5 hl5), fun _ => ⟨5, h3, l, ⟨rfl, hl5⟩, ?_⟩⟩
      rw [g2]
      refine ⟨g1, fun c => ?_, fun c => ?_⟩
      · rw [bs_f (p := fun l => ra_live I m n (nI l)) ((br_lv' h hl5).mp c)] at ih
        exact ih
      · have hv : (fun l => ra_live I m n (nI l)) l = true := by
          cases hz : ra_live I m n (nI l) with
          | true => exact hz
          | false => exact absurd ((br_lv' h hl5).mpr hz) c
        cases hb : bs_ (fun l => ra_live I m n (nI l)) (fun a c => decide (ra_L I m c 4 < ra_L I m a 4)) l with
        | none =>
          rw [bs_n hv hb] at ih
          exact ⟨fun _ => ih, fun c => absurd rfl c⟩
        | some q =>
          have hq := (bs_lt hb).1
          rw [bs_s hv hb] at ih
          have eq5 : mm_i M (b + 6 + q) 5 = ra_L I m q 4 := (h.2.2.1 q (by omega)).2.2.2
          have el5 : mm_i M (b + 6 + l) 5 = ra_L I m l 4 := (h.2.2.1 l hl5).2.2.2
          refine ⟨fun c => absurd c (by show ¬ b + 6 + q = 0; omega), fun _ => ⟨(br_ln h (show q < 5 by omega)).1, fun c => ?_, fun c => ?_⟩⟩
          · have c : mm_i M (b + 6 + l) 5 ≤ mm_i M (b + 6 + q) 5 := c
            rw [eq5, el5] at c
            rw [if_neg (by rw [decide_eq_true_eq]; exact Int32.not_lt.mpr c)] at ih
            exact ih
          · have c : ¬ mm_i M (b + 6 + l) 5 ≤ mm_i M (b + 6 + q) 5 := c
            rw [eq5, el5] at c
            rw [if_pos (by rw [decide_eq_true_eq]; exact Int32.not_le.mp c)] at ih
            exact ih
  exact loop 5 0 (by omega)
theorem cb_room (h : br_ M b ta I m n) {l : Nat} (hl : l < 5) {P : Int32 → mm_T → Prop} (K : P (if ra_L I m l 1 ≤ nI (cn_ (ra_st I m (nI l)) n) then 0 else 1) M) : cs_i mt_X3_hasRoom [pv_r (b + 6 + l)] M P := by
  have e2 : mm_i M (b + 6 + l) 2 = ra_L I m l 1 := (h.2.2.1 l hl).2.1
  refine wc_X3_hasRoom_0 (br_ln h hl).1 ?_
  rw [e2, br_7 h hl]
  exact ⟨fun c => by rw [if_pos c] at K; exact K, fun c => by rw [if_neg c] at K; exact K⟩
theorem cb_roomIn (h : br_ M b ta I m n) {l : Nat} (hl : l < 5) {P : Int32 → mm_T → Prop} (K : P (if ra_L I m l 1 ≤ nI (cn_ (ra_st I m (nI l)) n) ∨ ¬ nI (cn_ (ra_st I m (-1)) n) < I (m + 1) 8 then 0 else 1) M) : cs_i mt_X0_hasRoomIn [pv_r b, pv_r (b + 6 + l)] M P := by
  obtain ⟨h1, h2, h3, h4, h5, h6, h7, h8, h9, h10, h11, h12⟩ := br_S h
  obtain ⟨k1, k2, k3, k4, k5, k6⟩ := row_k h.1
  refine wc_X0_hasRoomIn_0 h1 ⟨(br_ln h hl).1, cb_room h hl ?_⟩
  by_cases c : ra_L I m l 1 ≤ nI (cn_ (ra_st I m (nI l)) n)
  · rw [if_pos (Or.inl c)] at K
    rw [if_pos c]
    exact ⟨fun _ => K, fun c2 => absurd rfl c2⟩
  · rw [if_neg c]
    refine ⟨fun c2 => absurd c2 (by decide), fun _ => ?_⟩
    rw [h4, h10]
    refine ⟨k2, 6, h11, by decide, ?_⟩
    rw [k5, lkS h.2.1, h.2.2.2.1 4 (by decide)]
    refine ⟨fun c2 => ?_, fun c2 => ?_⟩
    · rw [if_pos (Or.inr (Int32.not_lt.mpr c2))] at K
      exact K
    · rw [if_neg (fun q => q.elim c (fun q => q (Int32.not_le.mp c2)))] at K
      exact K
end CB3
