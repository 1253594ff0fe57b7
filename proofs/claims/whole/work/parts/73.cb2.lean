/-! THE BOARD: rows walked, a change, waiting, serving -/
section CB2
variable {M : mm_T} {I : Nat → Nat → Int32} {m n b : Nat} {ta : Nat → Nat}
theorem row_k {sg : Nat → Int32} {lm : Nat → Nat} (h : bd0 M b n sg lm ta) : mm_r M b 1 = b + 2 ∧ mm_k M (b + 2) = (4, 2) ∧ mm_r M (b + 2) 0 = b + 3 ∧ ak_ M (b + 3) 3 48 ∧ mm_i M (b + 2) 1 = nI (sl_ sg n).length ∧ (sl_ sg n).length ≤ 48 := by
  obtain ⟨h1, -, -, -, h5, -⟩ := h
  obtain ⟨a1, a2, a3, a4, a5, a6, a7, a8⟩ := h5
  rw [List.length_map] at a5 a6
  exact ⟨h1.2.2.2.1, a1, a2, a3, a6, a5⟩
theorem row_at {sg : Nat → Int32} {lm : Nat → Nat} (h : bd0 M b n sg lm ta) {pre suf : List Nat} {y : Nat} (hp : pre ++ y :: suf = sl_ sg n) : mm_r M (b + 3) pre.length = ta y ∧ y < n ∧ sd_ (sg y) = true ∧ pre.length < (sl_ sg n).length ∧ pre.length < 48 ∧ tc_ M b sg lm ta y := by
  obtain ⟨h1, h4, -, -, h5, h6⟩ := id h
  have hm := sl_mem (show y ∈ sl_ sg n by rw [← hp]; simp)
  have hl := (row_k h).2.2.2.2.2
  have hlen : pre.length < (sl_ sg n).length := by rw [← hp]; simp
  refine ⟨h5.2.2.2.2.2.2.1 _ _ ?_, hm.1, hm.2, hlen, by omega, h6 y hm.1 hm.2⟩
  rw [← hp]
  simp
theorem row_end {sg : Nat → Int32} {lm : Nat → Nat} (h : bd0 M b n sg lm ta) {pre : List Nat} (hp : pre ++ [] = sl_ sg n) : mm_i M (b + 2) 1 ≤ nI pre.length := by
  rw [(row_k h).2.2.2.2.1, ← hp]
  simp
theorem row_go {sg : Nat → Int32} {lm : Nat → Nat} (h : bd0 M b n sg lm ta) {pre suf : List Nat} {y : Nat} (hp : pre ++ y :: suf = sl_ sg n) : ¬ mm_i M (b + 2) 1 ≤ nI pre.length := by
  have h1 := (row_at h hp).2.2.2.1
  have h2 := (row_k h).2.2.2.2.2
  rw [(row_k h).2.2.2.2.1]
  exact nI_ge h1 (by omega)
theorem len1 {pre : List Nat} {y : Nat} : nI (pre.length + 1) = nI (pre ++ [y]).length := by simp
theorem app1 {pre suf xs : List Nat} {y : Nat} (hp : pre ++ y :: suf = xs) : (pre ++ [y]) ++ suf = xs := by rw [← hp]; simp
theorem fl_cong {α β : Type} {f g : α → β → α} : ∀ {xs : List β} {a : α}, (∀ x, x ∈ xs → ∀ a, f a x = g a x) → xs.foldl f a = xs.foldl g a
  | [], _, _ => rfl
  | x :: xs, a, h => by
    show xs.foldl f (f a x) = xs.foldl g (g a x)
    rw [h x List.mem_cons_self]
    exact fl_cong (fun y hy => h y (List.mem_cons_of_mem _ hy))
theorem fo_sl {sg : Nat → Int32} {p : Nat → Bool} {c : Nat → Nat → Bool} (h : ∀ t, t < n → p t = true → sd_ (sg t) = true) : (sl_ sg n).foldl (bs_s1 p c) none = bs_ p c n := by
  rw [bs_fold]
  unfold sl_
  rw [List.foldl_filter]
  refine fl_cong (fun t ht a => ?_)
  split
  · rfl
  · next q =>
    unfold bs_s1
    rw [if_neg]
    intro hp
    exact q (h t (List.mem_range.mp ht) hp)
theorem fi_sl {sg : Nat → Int32} {p : Nat → Bool} (h : ∀ t, t < n → p t = true → sd_ (sg t) = true) : (sl_ sg n).find? p = fi_ p n 0 := by
  rw [fi_find, ← List.range_eq_range']
  unfold sl_
  rw [List.find?_filter]
  have : ∀ xs : List Nat, (∀ t, t ∈ xs → t < n) → xs.find? (fun a => decide (sd_ (sg a) = true ∧ p a = true)) = xs.find? p := by
    intro xs
    induction xs with
    | nil => intro _; rfl
    | cons x xs ih =>
      intro hx
      rw [List.find?_cons, List.find?_cons, ih (fun t ht => hx t (List.mem_cons_of_mem _ ht))]
      have := h x (hx x List.mem_cons_self)
      cases hp : p x with
      | false => simp
      | true => simp [this hp]
  exact this _ (fun t ht => List.mem_range.mp ht)
theorem br_tc (h : br_ M b ta I m n) {t : Nat} (ht : t < n) (hs : sd_ (sgI I m t) = true) : tc_ M b (sgI I m) (lmI I m) ta t := h.1.2.2.2.2.2 t ht hs
/-! a task's change of state -/
theorem sg_u {t t' : Nat} {v : Int32} : sgI (i2_u I (m + 1) (200 + 14 * t + 6) v) m t' = su1 (sgI I m) t v t' := by
  unfold sgI su1 ra_T
  by_cases e : t' = t
  · subst e
    rw [if_pos rfl, i2_us]
  · rw [if_neg e, i2_uj (by omega)]
theorem T_u6 {t t' f : Nat} {v : Int32} (hf : f < 14) (h6 : f ≠ 6) : ra_T (i2_u I (m + 1) (200 + 14 * t + 6) v) m t' f = ra_T I m t' f := i2_uj (by omega)
theorem L_u6 {t l f : Nat} {v : Int32} (hl : l < 5) (hf : f < 10) : ra_L (i2_u I (m + 1) (200 + 14 * t + 6) v) m l f = ra_L I m l f := i2_uj (by omega)
theorem tv_u6 (h : tv_ I m n) {t s : Nat} {v : Int32} (hs : s < 7) (hv : v = nI s) : tv_ (i2_u I (m + 1) (200 + 14 * t + 6) v) m n := by
  refine ⟨(i2_uj (by omega)).trans h.1, h.2.1, fun t' ht' => ⟨?_, ?_⟩⟩
  · rw [T_u6 (by decide) (by decide)]
    exact (h.2.2 t' ht').1
  · have := sg_u (I := I) (m := m) (t := t) (t' := t') (v := v)
    unfold sgI at this
    rw [this]
    unfold su1
    split
    · exact ⟨s, hs, hv⟩
    · exact (h.2.2 t' ht').2
theorem cb_change (h : br_ M b ta I m n) {t s : Nat} (ht : t < n) (hT : tc_ M b (sgI I m) (lmI I m) ta t) (hf : mm_i M (ta t) 3 = ra_T I m t 1 ∧ mm_i M (ta t) 4 = ra_T I m t 2 ∧ mm_i M (ta t) 6 = ra_T I m t 5) (inj : ∀ t', t' < n → sd_ (sgI I m t') = true → ta t' = ta t → t' = t) {v : Int32} (hv : v = nI s) (hs : s < 7) (hr : sd_ (sgI I m t) = false → sd_ v = true → (sl_ (sgI I m) n).length < 48) {P : mm_T → Prop}
    (K : ∀ M', br_ M' b ta (i2_u I (m + 1) (200 + 14 * t + 6) v) m n → tc_ M' b (sgI (i2_u I (m + 1) (200 + 14 * t + 6) v) m) (lmI I m) ta t → (∀ l, l < 5 → mm_i M' (b + 6 + l) 4 = if l = lmI I m t ∧ sd_ (sgI I m t) = true ∧ sd_ v = false ∧ mm_i M (b + 6 + l) 4 = 1 ∧ cn_ (ra_st (i2_u I (m + 1) (200 + 14 * t + 6) v) m (nI l)) n = 0 then 2 else mm_i M (b + 6 + l) 4) → fx_ (chI b (lmI I m t) (ta t)) (fun p _ => p = b + 3) M M' → P M') : cs_v mt_X0_change [pv_r b, pv_r (ta t), pv_i v] M P := by
  obtain ⟨a1, a2, a3, a4, a5, a6⟩ := id h
  have hS := br_S h
  obtain ⟨n1, n2, n3, n4, n5, n6, n7⟩ := tc_ne hS hT.1
  refine cc_change a1 ht hT inj hr (fun M' hB hT' hO f => ?_)
  have eS : (fun t' => su1 (sgI I m) t v t') = fun t' => sgI (i2_u I (m + 1) (200 + 14 * t + 6) v) m t' := funext (fun t' => sg_u.symm)
  have eL : ∀ t', lmI (i2_u I (m + 1) (200 + 14 * t + 6) v) m t' = lmI I m t' := fun t' => by unfold lmI; rw [T_u6 (by decide) (by decide)]
  have tv' := tv_u6 (t := t) a2 hs hv
  have hB' : bd0 M' b n (sgI (i2_u I (m + 1) (200 + 14 * t + 6) v) m) (lmI (i2_u I (m + 1) (200 + 14 * t + 6) v) m) ta := bd0_sg hB (fun t' _ => sg_u) (fun t' _ => eL t')
  have old : ∀ t', t' < n → sd_ (sgI (i2_u I (m + 1) (200 + 14 * t + 6) v) m t') = true → t' = t ∨ sd_ (sgI I m t') = true := fun t' _ hs' => by
    rw [sg_u] at hs'
    unfold su1 at hs'
    by_cases e : t' = t
    · exact Or.inl e
    · rw [if_neg e] at hs'
      exact Or.inr hs'
  refine K M' ⟨hB', tv', fun l hl => ?_, fun k hk => ?_, fun t' ht' hs' => ?_, fun t1 t2 h1 h2 h3 h4 h5 => ?_⟩ ?_ (fun l hl => ?_) f
  · rw [L_u6 hl (by decide), L_u6 hl (by decide), L_u6 hl (by decide), L_u6 hl (by decide), f.2.2.1 _ _ (by unfold chI; omega), f.2.2.1 _ _ (by unfold chI; omega), f.2.2.1 _ _ (by unfold chI; omega), f.2.2.1 _ _ (by unfold chI; omega)]
    exact a3 l hl
  · rw [i2_uj (by omega), f.2.2.1 _ _ (by unfold chI; omega)]
    exact a4 k hk
  · rw [T_u6 (by decide) (by decide), T_u6 (by decide) (by decide), T_u6 (by decide) (by decide)]
    have hh : mm_i M (ta t') 3 = ra_T I m t' 1 ∧ mm_i M (ta t') 4 = ra_T I m t' 2 ∧ mm_i M (ta t') 6 = ra_T I m t' 5 := by
      rcases old t' ht' hs' with e | e
      · rw [e]; exact hf
      · exact a5 t' ht' e
    have hne : ta t' ≠ b + 4 ∧ ta t' ≠ b + 6 + lmI I m t := by
      rcases old t' ht' hs' with e | e
      · rw [e]; exact ⟨n5, n7 _ hT.2.2.2.2⟩
      · have := tc_ne hS (a1.2.2.2.2.2 t' ht' e).1
        exact ⟨this.2.2.2.2.1, this.2.2.2.2.2.2 _ hT.2.2.2.2⟩
    rw [f.2.2.1 _ _ (by unfold chI; omega), f.2.2.1 _ _ (by unfold chI; omega), f.2.2.1 _ _ (by unfold chI; omega)]
    exact hh
  · rcases old t1 h1 h3 with e1 | e1
    · rcases old t2 h2 h4 with e2 | e2
      · rw [e1, e2]
      · rw [e1] at h5 ⊢
        exact (inj t2 h2 e2 h5.symm).symm
    · rcases old t2 h2 h4 with e2 | e2
      · rw [e2] at h5 ⊢
        exact inj t1 h1 e1 h5
      · exact a6 t1 t2 h1 h2 e1 e2 h5
  · obtain ⟨g1, g2, g3, g4, g5⟩ := hT'
    exact ⟨g1, g2, by rw [sg_u]; exact g3, g4, g5⟩
  · rw [hO l hl]
    have e7 : c7_ (su1 (sgI I m) t v) (lmI I m) n l = cn_ (ra_st (i2_u I (m + 1) (200 + 14 * t + 6) v) m (nI l)) n := by
      rw [← lk7 tv' hl]
      unfold c7_
      refine cn_eq (fun t' _ => ?_)
      rw [sg_u, eL]
    rw [e7]
/-- the same for one that stands -/
theorem cb_changeS (h : br_ M b ta I m n) {t s : Nat} (ht : t < n) (hst : sd_ (sgI I m t) = true) {v : Int32} (hv : v = nI s) (hs : s < 7) {P : mm_T → Prop}
    (K : ∀ M', br_ M' b ta (i2_u I (m + 1) (200 + 14 * t + 6) v) m n → tc_ M' b (sgI (i2_u I (m + 1) (200 + 14 * t + 6) v) m) (lmI I m) ta t → (∀ l, l < 5 → mm_i M' (b + 6 + l) 4 = if l = lmI I m t ∧ sd_ v = false ∧ mm_i M (b + 6 + l) 4 = 1 ∧ cn_ (ra_st (i2_u I (m + 1) (200 + 14 * t + 6) v) m (nI l)) n = 0 then 2 else mm_i M (b + 6 + l) 4) → fx_ (chI b (lmI I m t) (ta t)) (fun p _ => p = b + 3) M M' → P M') : cs_v mt_X0_change [pv_r b, pv_r (ta t), pv_i v] M P := by
  refine cb_change h ht (br_tc h ht hst) (h.2.2.2.2.1 t ht hst) (fun t' h1 h2 h3 => h.2.2.2.2.2 t' t h1 ht h2 hst h3) hv hs (fun q => by rw [hst] at q; cases q) (fun M' h1 h2 h3 h4 => K M' h1 h2 (fun l hl => ?_) h4)
  rw [h3 l hl]
  by_cases c : l = lmI I m t ∧ sd_ v = false ∧ mm_i M (b + 6 + l) 4 = 1 ∧ cn_ (ra_st (i2_u I (m + 1) (200 + 14 * t + 6) v) m (nI l)) n = 0
  · rw [if_pos c, if_pos ⟨c.1, hst, c.2⟩]
  · rw [if_neg c, if_neg (fun q => c ⟨q.1, q.2.2⟩)]
/-! waiting -/
def awI (b l a : Nat) (p j : Nat) : Prop := chI b l a p j ∨ (p = b + 6 + l ∧ j = 5)
theorem cb_await (h : br_ M b ta I m n) {t : Nat} (ht : t < n) (hst : sd_ (sgI I m t) = true) {P : mm_T → Prop}
    (K : ∀ M', br_ M' b ta (sp_wt I m n t) m n → tc_ M' b (sgI (sp_wt I m n t) m) (lmI I m) ta t → (∀ l, l < 5 → mm_i M' (b + 6 + l) 4 = mm_i M (b + 6 + l) 4) → fx_ (awI b (lmI I m t) (ta t)) (fun p _ => p = b + 3) M M' → P M') : cs_v mt_X0_awaitTurn [pv_r b, pv_r (ta t)] M P := by
  obtain ⟨g1, g2, g3, g4, g5⟩ := br_tc h ht hst
  refine wc_X0_awaitTurn_0 (br_S h).1 ⟨g1, ?_⟩
  rw [g4]
  refine cb_liftPass h g5 (fun M1 h1 f1 => ?_)
  have hst1 : sd_ (sgI (lft_ I m n (lmI I m t)) m t) = true := by
    unfold sgI ra_T
    rw [lft_o (by omega)]
    exact hst
  have eL : lmI (lft_ I m n (lmI I m t)) m t = lmI I m t := by
    show (lft_ I m n (lmI I m t) (m + 1) (200 + 14 * t + 0)).toNatClampNeg = _
    rw [lft_o (by omega)]
    rfl
  have eL' : lmI (lft_ I m n (lmI I m t)) m = lmI I m := by
    funext t'
    show (lft_ I m n (lmI I m t) (m + 1) (200 + 14 * t' + 0)).toNatClampNeg = _
    rw [lft_o (by omega)]
    rfl
  refine cb_changeS h1 (s := 0) (v := 0) ht hst1 rfl (by decide) (fun M' h2 h3 h4 h5 => ?_)
  rw [eL] at h5 h4
  rw [eL'] at h3
  refine K M' h2 h3 (fun l hl => ?_) (fx_tr (fx_up f1 (fun p j q => Or.inr q) (fun _ _ q => q.elim)) (fx_up h5 (fun p j q => Or.inl q) (fun _ _ q => q)))
  rw [h4 l hl, if_neg (fun q => absurd q.2.1 (by decide))]
  exact f1.2.2.1 _ _ (by omega)
/-! orders, the least -/
def ordv (M : mm_T) (b a : Nat) : Int32 := if mm_i M a 7 = 2 then mm_i M a 9 else if mm_i M a 7 = 3 then mm_i M a 12 else -(mm_i M a 3 * mm_i M (b + 5) 0 - mm_i M a 6)
theorem cb_order (hS : bS M b) {a : Nat} (ha : mm_k M a = (6, 17)) {P : Int32 → mm_T → Prop} (K : P (ordv M b a) M) : cs_i mt_X0_orderOf [pv_r b, pv_r a] M P := by
  obtain ⟨h1, h2, h3, h4, h5, h6, h7, h8, h9, h10, h11, h12⟩ := hS
  unfold ordv at K
  refine wc_X0_orderOf_0 h1 ⟨ha, fun c => ⟨fun c2 => ⟨6, by rw [h10]; exact h11, by decide, ?_⟩, fun c2 => ?_⟩, fun c => ?_⟩
  · rw [if_neg c, if_neg c2] at K
    rw [h10]
    exact wc_X6_rankBy_0 ha K
  · rw [if_neg c, if_pos c2] at K
    exact K
  · rw [if_pos c] at K
    exact K
/-- of a state, and of a lane l; or of any lane -/
def iof_ (I : Nat → Nat → Int32) (m : Nat) (x : Int32) (o : Option Nat) (t : Nat) : Bool := decide (ra_T I m t 6 = x) && (match o with
  | none => true
  | some l => decide (lmI I m t = l))
theorem cb_isOf (h : br_ M b ta I m n) {t : Nat} (ht : t < n) (hst : sd_ (sgI I m t) = true) {x1 : Int32} {o : Option Nat} (ho : ∀ l, o = some l → l < 5) {P : Int32 → mm_T → Prop} (K : P (if iof_ I m x1 o t = true then 1 else 0) M) : cs_i mt_X0_isOf [pv_r (ta t), pv_i x1, pv_r (oa_ (fun l => b + 6 + l) o)] M P := by
  obtain ⟨g1, g2, g3, g4, g5⟩ := br_tc h ht hst
  have g3 : mm_i M (ta t) 7 = ra_T I m t 6 := g3
  have ob : ∀ l, l < 5 → ob_ M (b + 6 + l) := fun l hl => ⟨3, by decide, (br_ln h hl).1⟩
  refine wc_X0_isOf_0 ⟨g1, fun c => ?_, fun c => ⟨fun c2 => ?_, fun c2 => ?_⟩⟩
  · rw [g3] at c
    have e : iof_ I m x1 o t = false := by unfold iof_; rw [decide_eq_false c]; rfl
    rw [if_neg (by rw [e]; decide)] at K
    exact K
  · rw [g3] at c
    cases o with
    | none =>
      rw [if_pos (by unfold iof_; rw [decide_eq_true c]; rfl)] at K
      exact K
    | some l => exact absurd c2 (by show ¬ b + 6 + l = 0; omega)
  · rw [g3] at c
    cases o with
    | none => exact absurd rfl c2
    | some l =>
      have hl := ho l rfl
      rw [g4]
      refine ⟨Or.inr (ob _ g5), Or.inr (ob _ hl), fun c3 => ?_, fun c3 => ?_⟩
      · have hne : ¬ lmI I m t = l := fun q => c3 (by show b + 6 + lmI I m t = b + 6 + l; rw [q])
        rw [if_neg (by unfold iof_; rw [decide_eq_true c]; simp [hne])] at K
        exact K
      · have he : lmI I m t = l := by
          have c3 : b + 6 + lmI I m t = b + 6 + l := c3
          omega
        rw [if_pos (by unfold iof_; rw [decide_eq_true c]; simp [he])] at K
        exact K
theorem cb_least (h : br_ M b ta I m n) {x1 : Int32} (hx : sd_ x1 = true) {o : Option Nat} (ho : ∀ l, o = some l → l < 5) {od : Nat → Int32} (hod : ∀ t, t < n → iof_ I m x1 o t = true → ordv M b (ta t) = od t) (h0 : ∀ t, t < n → sd_ (sgI I m t) = true → ta t ≠ 0) {P : Nat → mm_T → Prop} (K : P (oa_ ta (bs_ (iof_ I m x1 o) (fun a c => decide (od a < od c)) n)) M) : cs_r mt_X0_least [pv_r b, pv_i x1, pv_r (oa_ (fun l => b + 6 + l) o)] M P := by
  have hB := h.1
  obtain ⟨k1, k2, k3, k4, k5, k6⟩ := row_k hB
  have hS := br_S h
  have sd_i : ∀ t, t < n → iof_ I m x1 o t = true → sd_ (sgI I m t) = true := fun t _ q => by
    unfold iof_ at q
    rw [Bool.and_eq_true, decide_eq_true_eq] at q
    unfold sgI
    rw [q.1]
    exact hx
  refine wc_X0_least_0 hS.1 ?_
  have loop : ∀ (suf pre : List Nat), pre ++ suf = sl_ (sgI I m) n → (∀ q, pre.foldl (bs_s1 (iof_ I m x1 o) (fun a c => decide (od a < od c))) none = some q → q < n ∧ sd_ (sgI I m q) = true) → ∀ x4, (∀ q, pre.foldl (bs_s1 (iof_ I m x1 o) (fun a c => decide (od a < od c))) none = some q → x4 = od q) → cw_r mt_X0_least 8 [some (pv_r b), some (pv_i x1), some (pv_r (oa_ (fun l => b + 6 + l) o)), some (pv_r (oa_ ta (pre.foldl (bs_s1 (iof_ I m x1 o) (fun a c => decide (od a < od c))) none))), some (pv_i x4), some (pv_i (nI pre.length)), none, none] [] M P := by
    intro suf
    induction suf with
    | nil =>
      intro pre hp _ x4 _
      refine wc_X0_least_8 hS.1 ?_
      rw [k1]
      refine ⟨k2, fun _ => ?_, fun c => absurd (row_end hB hp) c⟩
      rw [show pre = sl_ (sgI I m) n by simpa using hp, fo_sl sd_i]
      exact K
    | cons y suf ih =>
      intro pre hp hq x4 hx4
      obtain ⟨e1, e2, e3, e4, e5, e6⟩ := row_at hB hp
      have ih := ih (pre ++ [y]) (app1 hp)
      rw [List.foldl_append, ← len1] at ih
      simp only [List.foldl_cons, List.foldl_nil] at ih
      refine wc_X0_least_8 hS.1 ?_
      rw [k1, k3]
      refine ⟨k2, fun c => absurd c (row_go hB hp), fun _ => ⟨48, k4, pre.length, ⟨rfl, e5⟩, ?_⟩⟩
      rw [e1]
      refine cb_isOf h e2 e3 ho ?_
      cases hi : iof_ I m x1 o y with
      | false =>
        refine ⟨fun c => absurd rfl c, fun _ => ?_⟩
        have e : ∀ a, bs_s1 (iof_ I m x1 o) (fun a c => decide (od a < od c)) a y = a := fun a => by unfold bs_s1; rw [if_neg (by rw [hi]; decide)]
        rw [e] at ih
        exact ih hq x4 hx4
      | true =>
        refine ⟨fun _ => cb_order hS e6.1 ?_, fun c => absurd c (by decide)⟩
        rw [hod y e2 hi]
        cases hb : pre.foldl (bs_s1 (iof_ I m x1 o) (fun a c => decide (od a < od c))) none with
        | none =>
          have e : bs_s1 (iof_ I m x1 o) (fun a c => decide (od a < od c)) none y = some y := by unfold bs_s1; rw [if_pos hi]
          rw [hb, e] at ih
          exact ⟨fun _ => ih (fun q z => by cases z; exact ⟨e2, e3⟩) (od y) (fun q z => by cases z; rfl), fun c => absurd rfl c⟩
        | some q =>
          obtain ⟨q1, q2⟩ := hq q hb
          have e : bs_s1 (iof_ I m x1 o) (fun a c => decide (od a < od c)) (some q) y = if od y < od q then some y else some q := by
            unfold bs_s1
            rw [if_pos hi]
            simp
          rw [hb, e] at ih
          refine ⟨fun c => absurd c (h0 q q1 q2), fun _ => ⟨fun c => ?_, fun c => ?_⟩⟩
          · rw [hx4 q hb] at c
            rw [if_neg (Int32.not_lt.mpr c)] at ih
            exact ih (fun r z => by cases z; exact ⟨q1, q2⟩) x4 (fun r z => by cases z; exact hx4 q hb)
          · rw [hx4 q hb] at c
            rw [if_pos (Int32.not_le.mp c)] at ih
            exact ih (fun r z => by cases z; exact ⟨e2, e3⟩) (od y) (fun r z => by cases z; rfl)
  exact loop (sl_ (sgI I m) n) [] rfl (fun q z => by cases z) 0 (fun q z => by cases z)
/-! serving -/
theorem i32_ng {x : Int32} (h : x.toInt ≠ -2147483648) : (-x).toInt = -x.toInt := by
  have a := x.toInt_lt
  have c := x.le_toInt
  rw [Int32.toInt_neg, Int.bmod_def]
  omega
theorem neg_lt {x y : Int32} (hx : x.toInt ≠ -2147483648) (hy : y.toInt ≠ -2147483648) : -x < -y ↔ y < x := by
  rw [Int32.lt_iff_toInt_lt, Int32.lt_iff_toInt_lt, i32_ng hx, i32_ng hy]
  omega
def rk_ok (I : Nat → Nat → Int32) (m n : Nat) : Prop := ∀ t, t < n → (ra_rank I m t).toInt ≠ -2147483648
theorem cb_first (h : br_ M b ta I m n) (hrk : rk_ok I m n) {l : Nat} (hl : l < 5) (h0 : ∀ t, t < n → sd_ (sgI I m t) = true → ta t ≠ 0) {P : Nat → mm_T → Prop} (K : P (oa_ ta (ra_first I m n (nI l))) M) : cs_r mt_X0_least [pv_r b, pv_i 0, pv_r (b + 6 + l)] M P := by
  refine cb_least (o := some l) h (by decide) (fun l' q => by cases q; exact hl) (od := fun t => -(ra_rank I m t)) (fun t ht hi => ?_) h0 ?_
  · unfold iof_ at hi
    rw [Bool.and_eq_true, decide_eq_true_eq] at hi
    have hst : sd_ (sgI I m t) = true := sd_3 (Or.inl hi.1)
    have e7 : mm_i M (ta t) 7 = 0 := (br_tc h ht hst).2.2.1.trans hi.1
    unfold ordv
    rw [if_neg (by rw [e7]; decide), if_neg (by rw [e7]; decide), (h.2.2.2.2.1 t ht hst).1, (h.2.2.2.2.1 t ht hst).2.2, h.2.2.2.1 0 (by decide)]
    rfl
  · have e : bs_ (iof_ I m 0 (some l)) (fun a c => decide (-(ra_rank I m a) < -(ra_rank I m c))) n = ra_first I m n (nI l) := by
      unfold ra_first
      rw [bs_cong (p := ra_wt I m (nI l)) (b := ra_ah I m) (b' := fun a c => decide (-(ra_rank I m a) < -(ra_rank I m c))) (fun t q hq ht _ _ => ?_)]
      · refine bs_eq (fun t ht => ?_) (fun _ _ _ _ => rfl)
        unfold iof_ ra_wt
        rw [Bool.eq_iff_iff, Bool.and_eq_true, decide_eq_true_eq, decide_eq_true_eq, decide_eq_true_eq, lm_eq h.2.1 ht hl]
        exact ⟨fun q => ⟨q.2, q.1⟩, fun q => ⟨q.2, q.1⟩⟩
      · unfold ra_ah
        rw [decide_eq_decide, neg_lt (hrk t ht) (hrk q (by omega))]
        exact ⟨fun z => z.elim id (fun z => by omega), fun z => Or.inl z⟩
    rw [e]
    exact K
theorem pay_eq : ∀ w, w < 10 → 1 ≤ w → ∀ s, s < 21 → ¬ (if (1 : Int32) < nI w then nI w else 1) = 0 ∧ (2520 * nI s) / (if (1 : Int32) < nI w then nI w else 1) = 2520 / nI w * nI s := by decide +kernel
def wz_ (I : Nat → Nat → Int32) (m n : Nat) : Prop := (∀ l, l < 5 → ∃ w, w < 10 ∧ 1 ≤ w ∧ ra_L I m l 0 = nI w) ∧ ∀ t, t < n → ∃ s, s < 21 ∧ 1 ≤ s ∧ ra_T I m t 2 = nI s
def sp_srv (I : Nat → Nat → Int32) (m t l : Nat) : Nat → Nat → Int32 := sp_pass (i2_u I (m + 1) (200 + 14 * t + 6) 3) m t l
theorem br_L4 (h : br_ M b ta I m n) {l : Nat} (hl : l < 5) {x : Int32} : br_ (mm_pi M (b + 6 + l) 5 x) b ta (i2_u I (m + 1) (10 + 10 * l + 4) x) m n := by
  obtain ⟨a1, a2, a3, a4, a5, a6⟩ := id h
  have hS := br_S h
  have eT : ∀ t f, ra_T (i2_u I (m + 1) (10 + 10 * l + 4) x) m t f = ra_T I m t f := fun t f => i2_uj (by omega)
  have tne : ∀ t, t < n → sd_ (sgI I m t) = true → ta t ≠ b + 6 + l := fun t h1 h2 => (tc_ne hS (a1.2.2.2.2.2 t h1 h2).1).2.2.2.2.2.2 l hl
  have eS : sgI (i2_u I (m + 1) (10 + 10 * l + 4) x) m = sgI I m := funext (fun t => eT t 6)
  have eLm : lmI (i2_u I (m + 1) (10 + 10 * l + 4) x) m = lmI I m := funext (fun t => by unfold lmI; rw [eT])
  refine ⟨?_, tv_o a2 (i2_uj (by omega)) (fun t _ => ⟨eT t 0, eT t 6⟩), fun l' hl' => ?_, fun k hk => ?_, fun t ht hs => ?_, ?_⟩
  · rw [eS, eLm]
    exact bd0_o a1 (fun _ => rfl) (fun _ _ _ => rfl) (fun l' j _ hj => mi_pij (by omega)) (fun j => mi_pia (by omega)) (mi_pia (by omega)) (fun t h1 h2 => ⟨mi_pia (tne t h1 h2), mi_pia (tne t h1 h2), rfl⟩)
  · have eL : ∀ g, g ≠ 4 → g < 10 → ra_L (i2_u I (m + 1) (10 + 10 * l + 4) x) m l' g = ra_L I m l' g := fun g _ _ => i2_uj (by omega)
    rw [eL 0 (by decide) (by decide), eL 1 (by decide) (by decide), eL 2 (by decide) (by decide), mi_pij (by decide), mi_pij (by decide), mi_pij (by decide)]
    refine ⟨(a3 l' hl').1, (a3 l' hl').2.1, (a3 l' hl').2.2.1, ?_⟩
    unfold ra_L
    by_cases q : l' = l
    · subst q
      rw [mi_pis, i2_us]
    · rw [mi_pia (by omega), i2_uj (by omega)]
      exact (a3 l' hl').2.2.2
  · rw [i2_uj (by omega), mi_pia (by omega)]
    exact a4 k hk
  · rw [eS] at hs
    rw [eT, eT, eT, mi_pia (tne t ht hs), mi_pia (tne t ht hs), mi_pia (tne t ht hs)]
    exact a5 t ht hs
  · rw [eS]
    exact a6
theorem cb_serve (h : br_ M b ta I m n) (hrk : rk_ok I m n) (hwz : wz_ I m n) (h0 : ∀ t, t < n → sd_ (sgI I m t) = true → ta t ≠ 0) {x1 : Int32} {P : Nat → mm_T → Prop} (K0 : ra_lane I m n x1 = none → P 0 M)
    (K : ∀ l t M', ra_lane I m n x1 = some l → l < 5 → ra_first I m n (nI l) = some t → t < n → ra_T I m t 0 = nI l → ra_T I m t 6 = 0 → br_ M' b ta (sp_srv I m t l) m n → tc_ M' b (sgI (sp_srv I m t l) m) (lmI I m) ta t → (∀ l, l < 5 → mm_i M' (b + 6 + l) 4 = mm_i M (b + 6 + l) 4) → fx_ (awI b l (ta t)) (fun p _ => p = b + 3) M M' → P (ta t) M') : cs_r mt_X0_serve [pv_r b, pv_i x1] M P := by
  refine wc_X0_serve_0 (br_S h).1 (cb_theLane h ?_)
  cases hl : ra_lane I m n x1 with
  | none => exact ⟨fun c => absurd rfl c, fun _ => K0 hl⟩
  | some l =>
    have hl5 := ra_lane_5 hl
    obtain ⟨t, ht⟩ := lane_live hl
    obtain ⟨htn, hT0, hT6⟩ := first_of ht
    have hst : sd_ (sgI I m t) = true := sd_3 (Or.inl hT6)
    have hlm : lmI I m t = l := (lm_eq h.2.1 htn hl5).mp hT0
    refine ⟨fun _ => cb_first h hrk hl5 h0 ?_, fun c => absurd c (by show ¬ b + 6 + l = 0; omega)⟩
    rw [ht]
    refine ⟨fun c => absurd c (h0 t htn hst), fun _ => cb_changeS h (s := 3) (v := 3) htn hst rfl (by decide) (fun M1 h1 h2 h3 f1 => ⟨h2.1, (br_ln h1 hl5).1, ?_⟩)⟩
    rw [hlm] at f1 h3
    obtain ⟨w, hw, hw1, ew⟩ := hwz.1 l hl5
    obtain ⟨s, hs, hs1, es⟩ := hwz.2 t htn
    have e4 : mm_i M1 (ta t) 4 = nI s := by
      have := (h1.2.2.2.2.1 t htn (by rw [sg_u]; unfold su1; rw [if_pos rfl]; decide)).2.1
      rw [T_u6 (by decide) (by decide), es] at this
      exact this
    have e1 : mm_i M1 (b + 6 + l) 1 = nI w := by
      have := (h1.2.2.1 l hl5).1
      rw [L_u6 hl5 (by decide), ew] at this
      exact this
    obtain ⟨p1, p2⟩ := pay_eq w hw hw1 s hs
    have e5 : mm_i M1 (b + 6 + l) 5 = i2_u I (m + 1) (200 + 14 * t + 6) 3 (m + 1) (10 + 10 * l + 4) := (h1.2.2.1 l hl5).2.2.2
    refine wc_X3_payFor_0 (br_ln h1 hl5).1 ?_
    rw [show mm_i M1 (oa_ (fun l => b + 6 + l) (some l)) 1 = nI w from e1, show mm_i M1 (oa_ ta (some t)) 4 = nI s from e4]
    refine ⟨p1, fun M2 hM2 => ?_⟩
    have hM2 : M2 = mm_pi M1 (b + 6 + l) 5 (mm_i M1 (b + 6 + l) 5 + 2520 * nI s / (if (1 : Int32) < nI w then nI w else 1)) := hM2
    have eI : sp_srv I m t l = i2_u (i2_u I (m + 1) (200 + 14 * t + 6) 3) (m + 1) (10 + 10 * l + 4) (mm_i M1 (b + 6 + l) 5 + 2520 * nI s / (if (1 : Int32) < nI w then nI w else 1)) := by
      unfold sp_srv sp_pass
      rw [p2, e5, show i2_u I (m + 1) (200 + 14 * t + 6) 3 (m + 1) (10 + 10 * l + 0) = nI w from (i2_uj (by omega)).trans ew, show i2_u I (m + 1) (200 + 14 * t + 6) 3 (m + 1) (200 + 14 * t + 2) = nI s from (i2_uj (by omega)).trans es]
    have hb2 := br_L4 h1 hl5 (x := mm_i M1 (b + 6 + l) 5 + 2520 * nI s / (if (1 : Int32) < nI w then nI w else 1))
    rw [← eI, ← hM2] at hb2
    have tne : ta t ≠ b + 6 + l := (tc_ne (br_S h1) h2.1).2.2.2.2.2.2 l hl5
    refine K l t M2 hl hl5 ht htn hT0 hT6 hb2 ?_ (fun l' hl' => ?_) ?_
    · obtain ⟨g1, g2, g3, g4, g5⟩ := h2
      rw [hM2]
      refine ⟨g1, (mi_pia tne).trans g2, ?_, g4, g5⟩
      rw [mi_pia tne, g3, eI]
      unfold sgI ra_T
      exact (i2_uj (by omega)).symm
    · rw [hM2, mi_pij (by decide), h3 l' hl', if_neg (fun q => absurd q.2.1 (by decide))]
    · rw [hM2]
      exact fx_tr (fx_up f1 (fun p j q => Or.inl q) (fun _ _ q => q)) (fx_pi (Or.inr ⟨rfl, rfl⟩))
end CB2
