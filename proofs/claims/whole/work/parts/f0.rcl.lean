/-! the run on paper in the class: completing, waking -/
section Rcl
variable {M M' : mm_T} {I J N : Nat → Nat → Int32} {m n Pb t w X : Nat} {en : Nat → Int32} {ta tm : Nat → Nat} {pb : Int32}
def cB_ (M : mm_T) (I J : fI) (m n : Nat) (ta tm : Nat → Nat) (en : Nat → Int32) : Prop := pB_ M I J m n ta tm (tc_n I m) ∧ (∀ t, t < n → ra_T J m t 6 = 3 → mm_i M (tc_n I m t) 12 = en t) ∧ (∀ t, t < n → ra_T J m t 6 = 2 → mm_i M (tc_n I m t) 9 = ra_T J m t 8) ∧ hb_ M (tc_n I m) J m n ∧ ∀ t, t < n → sd_ (sgI J m t) = true → mm_r M (tc_n I m t) 1 = 0 ∨ 112 ≤ mm_r M (tc_n I m t) 1
def cF_ (M : mm_T) (x0 v fr id la : Int32) (e : Nat → Int32) : Prop := mm_i M 17 3 = x0 ∧ mm_i M 17 4 = v ∧ mm_i M 17 5 = fr ∧ mm_i M 17 6 = id ∧ mm_i M 17 7 = la ∧ ∀ l, l < 5 → mm_i M 30 l = e l
def bI_ (a j : Nat) : Prop := (18 ≤ a ∧ a < 30 ∧ (a < 24 ∨ 29 ≤ a ∨ 0 < j)) ∨ (31 ≤ a ∧ a < 79 ∧ j = 7)
def bR_ (a _j : Nat) : Prop := a = 21
theorem tc_31 {t : Nat} : 31 ≤ tc_n I m t := by
  unfold tc_n
  omega
theorem bI_aw {l a : Nat} (hl : l < 5) (h1 : 31 ≤ a) (h2 : a < 79) : ∀ p j, awI 18 l a p j → bI_ p j := fun p j q => by
  unfold awI chI at q
  unfold bI_
  omega
theorem cF_o {x0 v fr id la : Int32} {e : Nat → Int32} (h : cF_ M x0 v fr id la e) (f : fx_ bI_ bR_ M M') : cF_ M' x0 v fr id la e := by
  have e17 : ∀ j, mm_i M' 17 j = mm_i M 17 j := fun j => f.2.2.1 17 j (by unfold bI_; omega)
  have e30 : ∀ j, mm_i M' 30 j = mm_i M 30 j := fun j => f.2.2.1 30 j (by unfold bI_; omega)
  unfold cF_
  rw [e17, e17, e17, e17, e17]
  exact ⟨h.1, h.2.1, h.2.2.1, h.2.2.2.1, h.2.2.2.2.1, fun l q => (e30 l).trans (h.2.2.2.2.2 l q)⟩
theorem rk_sj (g : sj_6 m J N) (h : rk_ok J m n) : rk_ok N m n := rk_row h (fun t _ => ⟨sj_T g (by decide) (by decide) (by decide), sj_T g (by decide) (by decide) (by decide)⟩) (g 4 (by omega) (by omega) (by omega))
theorem wz_sj (g : sj_6 m J N) (h : wz_ J m n) : wz_ N m n := wz_row h (fun t _ => sj_T g (by decide) (by decide) (by decide)) (fun l q => sj_L g q (by decide) (by decide))
/-- a step of the board -/
theorem cB_step (h : cB_ M I J m n ta tm en) (f : fx_ bI_ bR_ M M') (hB : br_ M' 18 (tc_n I m) N m n) (g : sj_6 m J N) (hs : ∀ x, x < n → sd_ (sgI N m x) = true → sd_ (sgI J m x) = true) (h3 : ∀ x, x < n → ra_T N m x 6 = 3 → ra_T J m x 6 = 3) (h2 : ∀ x, x < n → ra_T N m x 6 = 2 → ra_T J m x 6 = 2 ∧ ra_T N m x 8 = ra_T J m x 8) : cB_ M' I N m n ta tm en := by
  obtain ⟨⟨a1, a2, a3, a4, a5⟩, b1, b2, b3, b4⟩ := h
  have eR : ∀ x, mm_r M' (tc_n I m x) 1 = mm_r M (tc_n I m x) 1 := fun x => f.2.2.2.1 _ _ (by have := tc_31 (I := I) (m := m) (t := x); unfold bR_; omega)
  have eI : ∀ x j, j ≠ 7 → mm_i M' (tc_n I m x) j = mm_i M (tc_n I m x) j := fun x j q => f.2.2.1 _ _ (by have := tc_31 (I := I) (m := m) (t := x); unfold bI_; omega)
  refine ⟨⟨re_z a1 (fx_up f (fun a j q => ?_) (fun a j q => ?_)), hB, fun x hx q => a3 x hx (hs x hx q), rk_sj g a4, wz_sj g a5⟩, fun x hx q => (eI x 12 (by decide)).trans (b1 x hx (h3 x hx q)), fun x hx q => ?_, fun x hx q => ?_, fun x hx q => ?_⟩
  · unfold bI_ at q
    unfold zI_
    omega
  · unfold bR_ at q
    unfold zR_
    omega
  · rw [eI x 9 (by decide), (h2 x hx q).2]
    exact b2 x hx (h2 x hx q).1
  · rw [eR x, sj_T g (by decide) (by decide) (by decide)]
    have hst := hs x hx q
    rcases b3 x hx hst with z | ⟨y, y1, y2, y3, y4, y5⟩
    · exact Or.inl z
    · refine Or.inr ⟨y, y1, y2, y3, by rw [f.2.1]; exact y4, ?_⟩
      have y6 := b4 x hx hst
      rw [f.2.2.1 _ _ (by unfold bI_; omega)]
      exact y5
  · rw [eR x]
    exact b4 x hx (hs x hx q)
/-- the trial's own fields -/
theorem cB_f (h : cB_ M I J m n ta tm en) (f : fx_ (fun a _ => a = 17 ∨ a = 30) (fun _ _ => False) M M') : cB_ M' I J m n ta tm en := by
  obtain ⟨⟨a1, a2, a3, a4, a5⟩, b1, b2, b3, b4⟩ := h
  have eR : ∀ a j, mm_r M' a j = mm_r M a j := fun a j => f.2.2.2.1 a j id
  have eI : ∀ a j, a ≠ 17 → a ≠ 30 → mm_i M' a j = mm_i M a j := fun a j q1 q2 => f.2.2.1 a j (by omega)
  have tn : ∀ x, tc_n I m x ≠ 17 ∧ tc_n I m x ≠ 30 := fun x => by have := tc_31 (I := I) (m := m) (t := x); omega
  refine ⟨⟨re_z a1 (fx_up f (fun a j q => ?_) (fun a j q => q.elim)), br_o a2 (fun a _ => f.2.1 a) (fun a j _ => eR a j) (fun l j _ _ _ => eI _ _ (by omega) (by omega)) (fun j => eI _ _ (by omega) (by omega)) (fun j _ => eI _ _ (by omega) (by omega)) (eI _ _ (by omega) (by omega)) (fun x j _ _ => eI _ _ (tn x).1 (tn x).2) (fun x _ => eR _ _) (fun _ _ => rfl) (fun _ _ _ _ => rfl) (fun _ _ _ _ => rfl), a3, a4, a5⟩, fun x hx q => (eI _ _ (tn x).1 (tn x).2).trans (b1 x hx q), fun x hx q => (eI _ _ (tn x).1 (tn x).2).trans (b2 x hx q), fun x hx q => ?_, fun x hx q => ?_⟩
  · unfold zI_
    omega
  · rw [eR]
    rcases b3 x hx q with z | ⟨y, y1, y2, y3, y4, y5⟩
    · exact Or.inl z
    · have y6 := b4 x hx q
      exact Or.inr ⟨y, y1, y2, y3, by rw [f.2.1]; exact y4, (eI _ _ (by omega) (by omega)).trans y5⟩
  · rw [eR]
    exact b4 x hx q
/-- another tick -/
theorem cB_0 (h : cB_ M I J m n ta tm en) {v : Int32} : cB_ M I (i2_u J (m + 1) 0 v) m n ta tm en := by
  have eT : ∀ x f, ra_T (i2_u J (m + 1) 0 v) m x f = ra_T J m x f := fun x f => i2_uj (by omega)
  have eS : ∀ x, sgI (i2_u J (m + 1) 0 v) m x = sgI J m x := fun x => eT x 6
  have g : sj_6 m J (i2_u J (m + 1) 0 v) := fun j q _ _ => i2_uj q
  refine cB_step h fx_rf (br_o h.1.2.1 (fun _ _ => rfl) (fun _ _ _ => rfl) (fun _ _ _ _ _ => rfl) (fun _ => rfl) (fun _ _ => rfl) rfl (fun _ _ _ _ => rfl) (fun _ _ => rfl) (fun j _ => i2_uj (by omega)) (fun l f _ _ => i2_uj (by omega)) (fun t f _ _ => eT t f)) g (fun x _ q => by rw [eS] at q; exact q) (fun x _ q => by rw [eT] at q; exact q) (fun x _ q => by rw [eT] at q ⊢; exact ⟨q, rfl⟩)
theorem wt_sj (hb : rb_ J m n pb) (ht : t < n) : sj_6 m J (sp_wt J m n t) := fun j q1 q2 q3 => sp_wt_o hb ht (by omega)
theorem wt_6 (hb : rb_ J m n pb) (ht : t < n) {x : Nat} : ra_T (sp_wt J m n t) m x 6 = if x = t then 0 else ra_T J m x 6 := by
  by_cases z : x = t
  · rw [if_pos z, z]
    exact sp_wt_6
  · rw [if_neg z]
    exact sp_wt_o hb ht (by omega)
/-- waiting, on the trial's board -/
theorem cB_wt (h : cB_ M I J m n ta tm en) (hb : rb_ J m n pb) (ht : t < n) (h6 : ra_T J m t 6 = 1 ∨ ra_T J m t 6 = 2) {P : mm_T → Prop} (K : ∀ M', cB_ M' I (sp_wt J m n t) m n ta tm en → fx_ bI_ bR_ M M' → P M') : cs_v mt_X0_awaitTurn [pv_r 18, pv_r (tc_n I m t)] M P := by
  have hst : sd_ (sgI J m t) = true := sd_3 (h6.elim (fun z => Or.inr (Or.inl z)) (fun z => Or.inr (Or.inr (Or.inl z))))
  have hg := h.1.2.2.1 t ht hst
  have l5 := (lm_of h.1.2.1.2.1 ht).1
  refine cb_await h.1.2.1 ht hst (fun M' hB _ _ f => ?_)
  have f' : fx_ bI_ bR_ M M' := fx_up f (bI_aw l5 hg.1 hg.2) (fun a j q => q)
  refine K M' (cB_step h f' hB (wt_sj hb ht) (fun x hx q => ?_) (fun x hx q => ?_) (fun x hx q => ?_)) f'
  · by_cases z : x = t
    · rw [z]; exact hst
    · have e : sgI (sp_wt J m n t) m x = sgI J m x := (wt_6 hb ht).trans (if_neg z)
      rw [← e]; exact q
  · rw [wt_6 hb ht] at q
    by_cases z : x = t
    · rw [if_pos z] at q
      exact absurd q (by decide)
    · rw [if_neg z] at q
      exact q
  · rw [wt_6 hb ht] at q
    by_cases z : x = t
    · rw [if_pos z] at q
      exact absurd q (by decide)
    · rw [if_neg z] at q
      exact ⟨q, sp_wt_o hb ht (by omega)⟩
/-- paper: no log -/
theorem cB_row (h : cB_ M I J m n ta tm en) (e : N (m + 1) = J (m + 1)) : cB_ M I N m n ta tm en := by
  have eT : ∀ x f, ra_T N m x f = ra_T J m x f := fun x f => by unfold ra_T; rw [e]
  have eS : ∀ x, sgI N m x = sgI J m x := fun x => eT x 6
  exact cB_step h fx_rf (br_row h.1.2.1 (fun j => by rw [e])) (fun j _ _ _ => by rw [e]) (fun x _ q => by rw [eS] at q; exact q) (fun x _ q => by rw [eT] at q; exact q) (fun x _ q => by rw [eT] at q ⊢; exact ⟨q, rfl⟩)
theorem ce_rel {i0 : Nat} (hi0 : i0 < 400) {a1 : Nat} {P : mm_T → Prop} : ∀ (ts : List Nat) {M : mm_T} {J : fI} {i : Nat}, cB_ M I J m n ta tm en → rb_ J m n pb → mm_k M a1 = (6, 17) → mm_i M a1 0 = nI i0 → (31 ≤ a1) → (List.range n).filter (sp_hp J m (nI i0)) = ts → i + ts.length ≤ 48 → (∀ M', cB_ M' I (sp_frs J m n ts) m n ta tm en → fx_ bI_ bR_ M M' → P M') → cw_v mt_X8_releaseBehind 2 [some (pv_r 17), some (pv_r a1), some (pv_i (nI i)), none] [] M P
  | [], M, J, i, h, hb, hk, hq, ha, hts, hi, K => by
    have r17 := re_17 h.1.1
    refine wc_X8_releaseBehind_2 r17.1 ⟨fun _ => K M h fx_rf, fun _ => ?_⟩
    rw [r17.2.1]
    refine ⟨(br_S h.1.2.1).1, cb_held h.1.2.1 h.2.2.2.1 hk hq hi0 ?_⟩
    rw [hs_nil hts]
    exact ⟨fun c => absurd rfl c, fun _ => K M h fx_rf⟩
  | y :: ts, M, J, i, h, hb, hk, hq, ha, hts, hi, K => by
    have r17 := re_17 h.1.1
    rw [List.length_cons] at hi
    have hy : y < n ∧ sp_hp J m (nI i0) y = true := by
      have : y ∈ (List.range n).filter (sp_hp J m (nI i0)) := by rw [hts]; exact List.mem_cons_self
      rw [List.mem_filter, List.mem_range] at this
      exact this
    have hy1 : ra_T J m y 6 = 1 ∧ ra_T J m y 4 = nI i0 := of_decide_eq_true hy.2
    refine wc_X8_releaseBehind_2 r17.1 ⟨fun c => absurd c (i48 (by omega)), fun _ => ?_⟩
    rw [r17.2.1]
    refine ⟨(br_S h.1.2.1).1, cb_held h.1.2.1 h.2.2.2.1 hk hq hi0 ?_⟩
    rw [hs_hd hts]
    refine ⟨fun _ => ⟨by rw [r17.2.1]; exact (br_S h.1.2.1).1, ?_⟩, fun c => absurd c (by have := tc_31 (I := I) (m := m) (t := y); show ¬ tc_n I m y = 0; omega)⟩
    rw [r17.2.1]
    refine cB_wt h hb hy.1 (Or.inl hy1.1) (fun M1 h1 f1 => ?_)
    rw [nI_1]
    have e1 : sp_fr1 J m n y (m + 1) = sp_wt J m n y (m + 1) := funext (fun j => sp_log_r)
    have f6 : ∀ x, ra_T (sp_fr1 J m n y) m x 6 = if x = y then 0 else ra_T J m x 6 := fun x => by
      show sp_fr1 J m n y (m + 1) _ = _
      rw [e1]
      exact wt_6 hb hy.1
    have f4 : ∀ x, ra_T (sp_fr1 J m n y) m x 4 = ra_T J m x 4 := fun x => sp_fr1_o hb hy.1 (by omega) (by omega) (by omega)
    refine ce_rel hi0 ts (cB_row h1 e1) (rb_fr1 hb hy.1) ((f1.2.1 _).trans hk) ((f1.2.2.1 _ _ (by unfold bI_; omega)).trans hq) ha (hs_tl hts (fun j hj => ?_)) (by omega) (fun M' h' f' => K M' h' (fx_tr f1 f'))
    unfold sp_hp
    rw [f4, f6]
    by_cases z : j = y
    · rw [if_pos z]
      simp [z]
    · rw [if_neg z]
      simp [z]
end Rcl
