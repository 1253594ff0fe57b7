/-! again -/
section Agn
variable {B M M' : mm_T} {I J E Y : Nat → Nat → Int32} {m n T W P L : Nat} {ta tm : Nat → Nat} {S : Nat → Nat → Bool}
theorem ce_lift (h : re_ M I m n ta tm) {l : Nat} (hl : l < 5) {Q : mm_T → Prop} (K : ∀ M', re_ M' (lft_ I m n l) m n ta tm → Q M') : cs_v mt_X0_liftPass [pv_r 6, pv_r (12 + l)] M Q := by
  have h4 := re_4 h
  refine cb_liftPass h.1.2.1 hl (fun M' hB f => K M' (re_B h (fx_up f (fun a j q => Or.inl (by omega)) (fun _ _ q => q.elim)) (fun a j q => lft_o (by omega)) hB (rT_o h.1.2.2.1 (kd_fx f) (fun a j q _ => f.2.2.1 _ _ (by omega)) (fun a j q _ => f.2.2.2.1 _ _ (fun y => y)) (fun t f' q1 q2 => lft_o (by omega)) (fun t q => lft_o (by omega)) (fun j => lft_o (by omega))) (rL_o h.1.2.2.2 (fun l' j q1 q2 => f.2.2.1 _ _ (by omega)) (fun l' f' q1 q2 q3 => lft_o (by omega)) (fun t q => ⟨lft_o (by omega), lft_o (by omega)⟩))))
theorem lv_o {x : Int32} (h : ∀ t, t < n → ra_wt J m x t = ra_wt I m x t) : ra_live J m n x = ra_live I m n x := by
  unfold ra_live
  rw [cn_eq h]
theorem up_o (h1 : ∀ l, l < 5 → ra_live J m n (nI l) = ra_live I m n (nI l)) (h2 : ∀ l, l < 5 → ra_L J m l 4 = ra_L I m l 4) {l : Nat} (hl : l < 5) : ra_up J m n l = ra_up I m n l := by
  have e : ra_lane J m n 0 = ra_lane I m n 0 := by
    unfold ra_lane
    refine bs_eq (fun l' q => ?_) (fun a c q1 q2 => ?_)
    · unfold ra_may
      rw [h1 l' q]
      simp
    · unfold ra_ps
      rw [h2 a (by omega), h2 c (by omega)]
  unfold ra_up
  rw [e, h2 l hl]
  cases hq : ra_lane I m n 0 with
  | none => rfl
  | some q => simp only [h2 q (ra_lane_5 hq)]
theorem lft_log {l t : Nat} (hl : l < 5) {x1 x3 x4 : Int32} : sp_log (lft_ Y m n l) m x1 t x3 x4 = lft_ (sp_log Y m x1 t x3 x4) m n l := by
  have e1 : ∀ x, ra_live (sp_log Y m x1 t x3 x4) m n x = ra_live Y m n x := fun x => lv_o (fun t' _ => by unfold ra_wt ra_T; rw [sp_log_r, sp_log_r])
  have e2 : ra_up (sp_log Y m x1 t x3 x4) m n l = ra_up Y m n l := up_o (fun _ _ => e1 _) (fun _ _ => sp_log_r) hl
  unfold lft_
  rw [e1, e2]
  split
  · rfl
  · exact log_cm (by omega) (by omega) (by omega)
theorem lft_u6 {l t : Nat} (hl : l < 5) {v : Int32} (hv : ¬ v = 0) (hY : ¬ ra_T Y m t 6 = 0) : lft_ (i2_u Y (m + 1) (200 + 14 * t + 6) v) m n l = i2_u (lft_ Y m n l) (m + 1) (200 + 14 * t + 6) v := by
  have e1 : ∀ x, ra_live (i2_u Y (m + 1) (200 + 14 * t + 6) v) m n x = ra_live Y m n x := fun x => lv_o (fun t' _ => by
    unfold ra_wt ra_T
    rw [i2_uj (by omega)]
    by_cases z : t' = t
    · rw [z, i2_us, decide_eq_false (fun y => hv y.2), decide_eq_false (fun y => hY y.2)]
    · rw [i2_uj (by omega)])
  have e2 : ra_up (i2_u Y (m + 1) (200 + 14 * t + 6) v) m n l = ra_up Y m n l := up_o (fun _ _ => e1 _) (fun l' _ => by unfold ra_L; rw [i2_uj (by omega)]) hl
  unfold lft_
  rw [e1, e2]
  split
  · rfl
  · exact i2_cm (by omega)
theorem ce_settle (h : re_ M I m n ta tm) (hb : bl_ I m n) {t : Nat} (ht : t < n) (hr : (sl_ (sgI I m) n).length < 48 ∧ ra_L I m (lmI I m t) 3 ≠ 1) {Q : mm_T → Prop} (K : ∀ M', re_ M' (if ra_held I m t = true then i2_u I (m + 1) (200 + 14 * t + 6) 1 else i2_u (lft_ I m n (lmI I m t)) (m + 1) (200 + 14 * t + 6) 0) m n ta tm → Q M') : cs_v mt_X0_settle [pv_r 6, pv_r (ta t)] M Q := by
  have h4 := re_4 h
  obtain ⟨b1, b2⟩ := re_bk h
  have a5 : mm_r M (ta t) 2 = 12 + lmI I m t := (h.1.2.2.1.1 t ht).1.2.2.2.2.1
  obtain ⟨l1, l2⟩ := lm_of h.1.2.1.2.1 ht
  have fin : ra_held I m t = false → cs_v mt_X0_liftPass [pv_r 6, pv_r (12 + lmI I m t)] M (fun M2 => cs_v mt_X0_change [pv_r 6, pv_r (ta t), pv_i 0] M2 (fun M5 => Q M5)) := fun e => by
    rw [if_neg (by rw [e]; decide)] at K
    refine ce_lift h l1 (fun M2 h2 => ce_change h2 (s := 0) ht rfl (by decide) (fun _ _ => ?_) (fun M5 h5 => K M5 h5))
    have e1 : sgI (lft_ I m n (lmI I m t)) m = sgI I m := funext (fun t' => lft_o (by omega))
    have e2 : lmI (lft_ I m n (lmI I m t)) m t = lmI I m t := by
      show (ra_T (lft_ I m n (lmI I m t)) m t 0).toNatClampNeg = _
      rw [show ra_T (lft_ I m n (lmI I m t)) m t 0 = ra_T I m t 0 from lft_o (by omega)]
      rfl
    rw [e1, e2, show ra_L (lft_ I m n (lmI I m t)) m (lmI I m t) 3 = ra_L I m (lmI I m t) 3 from lft_o (by omega)]
    exact hr
  rcases ce_behind h hb ht with ⟨e1, e2⟩ | ⟨q, hq, e1, e2, e3⟩
  · refine wc_X0_settle_0 b2 ⟨(re_ge h ht).2, fun _ => by rw [a5]; exact fin (decide_eq_false (fun z => z.1 e1)), fun z => absurd e2 z⟩
  · have g := re_ge h (show q < n by omega)
    refine wc_X0_settle_0 b2 ⟨(re_ge h ht).2, fun z => absurd z (by omega), fun _ => ?_⟩
    rw [e3, a5, re_7 h (show q < n by omega)]
    refine ⟨g.2, fun z => fin (decide_eq_false (fun y => y.2 (by rw [e2]; exact z))), fun z => ?_⟩
    have e : ra_held I m t = true := decide_eq_true ⟨by rw [e1]; exact nI_nm (by omega), by rw [e2]; exact z⟩
    rw [if_pos e] at K
    exact ce_change h (s := 1) ht rfl (by decide) (fun _ _ => hr) (fun M' h' => K M' h')
/-! why one can't be tried again -/
def sp_wya4 (I : fI) (m n l k : Nat) : Int32 := if ra_L I m l 1 ≤ nI (cn_ (ra_st I m (nI l)) n) ∨ ¬ nI (cn_ (ra_st I m (-1)) n) < I (m + 1) 8 then -4 else if ¬ fi_ (ra_kst I m (nI k)) n 0 = none then -5 else if I (m + 3) k < I (m + 1) 9 then 0 else -7
def sp_wya (I : fI) (m n t : Nat) : Int32 := if ¬ ra_T I m t 6 = 5 ∨ ¬ ra_L I m (ra_T I m t 0).toNatClampNeg 3 = 0 ∨ bhl_ I m t = true then -3 else sp_wya4 I m n (ra_T I m t 0).toNatClampNeg (ra_T I m t 3).toNatClampNeg
theorem nt_wya (hS : uf_ S m) {t : Nat} : sp_wya (pt_ S E I) m n t = sp_wya I m n t := by
  have eL : ∀ l f, ra_L (pt_ S E I) m l f = ra_L I m l f := fun l f => uf_at hS (by omega) (by omega)
  have eT : ∀ t f, ra_T (pt_ S E I) m t f = ra_T I m t f := fun l f => uf_at hS (by omega) (by omega)
  have e1 : ∀ j, pt_ S E I (m + 1) j = I (m + 1) j := fun j => uf_at hS (by omega) (by omega)
  have e3 : ∀ j, pt_ S E I (m + 3) j = I (m + 3) j := fun j => uf_at hS (by omega) (by omega)
  unfold sp_wya sp_wya4 bhl_
  simp only [eT, eL, e1, e3, nt_st (uf_us hS), nt_kst (uf_us hS)]
theorem rc_wyaT (RK : rf_ok B m) (hn : I (m + 1) 1 = nI n) (h4 : n ≤ 400) {x1 : Int32} {l k t : Nat} (h1 : x1 = nI l) (hl : l < 5) (hk : I (m + 1) (200 + 14 * t + 3) = nI k) (hk' : k < 10000) {Q : Int32 → (Nat → Nat → Int32) → Prop} (K : Q (sp_wya4 I m n l k) I) :
    rs_i mt_X11_hasRoom [pv_r m, pv_i x1] B I (fun v4 I3 => (((v4 = 0) → Q (-4) I3) ∧ ((¬ v4 = 0) → rs_i mt_X11_standing [pv_r m, pv_i (-1)] B I3 (fun v6 I5 => (((v6 < I5 (m + 1) 8) → rs_i mt_X11_standsWith [pv_r m, pv_i (I5 (m + 1) (200 + 14 * t + 3))] B I5 (fun v8 I7 => (((v8 = (-1)) → rs_i mt_X11_isBanned [pv_r m, pv_i (I7 (m + 1) (200 + 14 * t + 3))] B I7 (fun v10 I9 => (((v10 = 0) → Q (0) I9) ∧ ((¬ v10 = 0) → Q (-7) I9)))) ∧ ((¬ v8 = (-1)) → Q (-5) I7)))) ∧ ((¬ v6 < I5 (m + 1) 8) → Q (-4) I5)))))) := by
  unfold sp_wya4 at K
  refine rc_hasRoom RK hn h4 h1 hl ?_
  by_cases c1 : ra_L I m l 1 ≤ nI (cn_ (ra_st I m (nI l)) n)
  · rw [if_pos c1]
    rw [if_pos (Or.inl c1)] at K
    exact ⟨fun _ => K, fun c => absurd rfl c⟩
  · rw [if_neg c1]
    refine ⟨fun c => absurd c (by decide), fun _ => rc_standing RK hn h4 ⟨fun c2 => ?_, fun c2 => ?_⟩⟩
    · rw [if_neg (fun q => q.elim c1 (fun q => q c2))] at K
      rw [hk]
      refine rc_standsWith RK hn h4 ⟨fun c3 => ?_, fun c3 => ?_⟩
      · have hf := (io_eq (fun t ht => by have := (fi_lt ht).1; omega)).mp c3
        rw [if_neg (fun q => q hf)] at K
        rw [hk]
        refine rc_isBanned RK rfl hk' ?_
        by_cases c5 : I (m + 3) k < I (m + 1) 9
        · rw [if_pos c5]
          rw [if_pos c5] at K
          exact ⟨fun _ => K, fun c => absurd rfl c⟩
        · rw [if_neg c5]
          rw [if_neg c5] at K
          exact ⟨fun c => absurd c (by decide), fun _ => K⟩
      · have hf : ¬ fi_ (ra_kst I m (nI k)) n 0 = none := fun q => c3 ((io_eq (fun t ht => by have := (fi_lt ht).1; omega)).mpr q)
        rw [if_pos hf] at K
        exact K
    · rw [if_pos (Or.inr c2)] at K
      exact K
theorem rc_wya (RK : rf_ok B m) (h : ix_ I m n T W P L) {t : Nat} (ht : t < n) {Q : Int32 → fI → Prop} (K : Q (sp_wya I m n t) I) : rs_i mt_X11_whyNotAgain [pv_r m, pv_i (nI t)] B I Q := by
  have h4 := ix_4 h
  obtain ⟨l, hl, e0⟩ := ((ix_tv h).2.2 t ht).1
  obtain ⟨k, hk, e3⟩ := (h.1.1.2.2 t ht).2.2.1
  unfold sp_wya at K
  rw [e0, e3, nI_clamp (by omega), nI_clamp (by omega)] at K
  have no : (¬ ra_T I m t 6 = 5 ∨ ¬ ra_L I m l 3 = 0 ∨ bhl_ I m t = true) → Q (-3) I := fun z => by rw [if_pos z] at K; exact K
  have yes : ra_T I m t 6 = 5 → ra_L I m l 3 = 0 → bhl_ I m t = false → Q (sp_wya4 I m n l k) I := fun z1 z2 z3 => by
    rw [if_neg (fun z => z.elim (fun y => y z1) (fun y => y.elim (fun y => y z2) (fun y => by rw [z3] at y; cases y)))] at K
    exact K
  refine wq_X11_whyNotAgain_0 RK ⟨fun _ => ⟨t, ⟨rfl, by omega⟩, fun c4 => ⟨fun c6 => no (Or.inl c6), fun c6 => ⟨l, ⟨e0, hl⟩, fun c3 => no (Or.inr (Or.inl c3)), fun c3 => ?_⟩⟩, fun c4 => ?_⟩, fun q => absurd (by rw [ix_1 h]; exact (i32_tk h4).mpr ⟨t, ht, rfl⟩) q⟩
  · exact rc_wyaT RK (ix_1 h) h4 e0 hl e3 hk (yes c6 c3 (decide_eq_false (fun z => z.1 c4)))
  · rcases ix_bl h t ht with e | ⟨q, hq, e⟩
    · exact absurd e c4
    · obtain ⟨s, hs, es⟩ := ix_s h (show q < n by omega)
      have eq : (ra_T I m t 4).toNatClampNeg = q := by rw [e]; exact nI_clamp (by omega)
      have es' : I (m + 1) (200 + 14 * q + 6) = nI s := es
      rw [show (5 : Int32) = nI 5 from rfl]
      refine ⟨q, ⟨e, by omega⟩, fun c5 => ⟨fun c6 => no (Or.inl c6), fun c6 => ⟨l, ⟨e0, hl⟩, fun c3 => no (Or.inr (Or.inl c3)), fun c3 => ?_⟩⟩, fun c5 => ⟨fun c6 => no (Or.inl c6), fun c6 => ⟨l, ⟨e0, hl⟩, fun c3 => no (Or.inr (Or.inl c3)), fun c3 => no (Or.inr (Or.inr ?_))⟩⟩⟩
      · refine rc_wyaT RK (ix_1 h) h4 e0 hl e3 hk (yes c6 c3 (decide_eq_false (fun z => ?_)))
        rw [eq, es] at z
        rw [es', nI_ltI (by omega) (by decide)] at c5
        rcases z.2 with z | z
        · have := (nI_eq (b := 5) (by omega) (by decide)).mp z
          omega
        · have := (nI_eq (b := 6) (by omega) (by decide)).mp z
          omega
      · rw [es', nI_ltI (by omega) (by decide)] at c5
        refine decide_eq_true ⟨c4, ?_⟩
        rw [eq, es]
        have : s = 5 ∨ s = 6 := by omega
        rcases this with rfl | rfl
        · exact Or.inl rfl
        · exact Or.inr rfl
theorem ce_wya (h : re_ M I m n ta tm) (hi : ix_ I m n T W P L) {t : Nat} (ht : t < n) {Q : Int32 → mm_T → Prop} (K : Q (sp_wya I m n t) M) : cs_i mt_X10_whyNotAgain [pv_r 5, pv_r (ta t)] M Q := by
  have h4 := re_4 h
  obtain ⟨b1, b2⟩ := re_bk h
  obtain ⟨r1, r2, r3⟩ := re_rules h
  obtain ⟨k, hk, e3⟩ := (hi.1.1.2.2 t ht).2.2.1
  obtain ⟨l1, l2⟩ := lm_of (ix_tv hi) ht
  have a5 : mm_r M (ta t) 2 = 12 + lmI I m t := (h.1.2.2.1.1 t ht).1.2.2.2.2.1
  have b5 : mm_i M (ta t) 5 = nI k := (h.1.2.2.1.1 t ht).2.1.2.2.1.trans e3
  have o4 : mm_i M (12 + lmI I m t) 4 = ra_L I m (lmI I m t) 3 := (re_open h l1).trans (cls_id hi.2.1.1 _ l1)
  unfold sp_wya at K
  rw [l2, e3, nI_clamp (by omega), nI_clamp (by omega)] at K
  have no : (¬ ra_T I m t 6 = 5 ∨ ¬ ra_L I m (lmI I m t) 3 = 0 ∨ bhl_ I m t = true) → Q (-3) M := fun z => by rw [if_pos z] at K; exact K
  refine wc_X10_whyNotAgain_0 (re_m5 h) ⟨(re_ge h ht).2, ?_⟩
  rw [re_7 h ht, a5, o4]
  refine ⟨fun c => no (Or.inl c), fun c => ⟨(br_ln h.1.2.1 l1).1, fun c3 => no (Or.inr (Or.inl c3)), fun c3 => ce_lost h (ix_bl hi) ht ?_⟩⟩
  by_cases cb : bhl_ I m t = true
  · rw [if_pos cb]
    exact ⟨fun z => absurd z (by decide), fun _ => no (Or.inr (Or.inr cb))⟩
  · rw [if_neg cb]
    rw [if_neg (fun z => z.elim (fun y => y c) (fun y => y.elim (fun y => y c3) cb))] at K
    refine ⟨fun _ => ?_, fun z => absurd rfl z⟩
    unfold sp_wya4 at K
    rw [b1, a5]
    refine ⟨b2, cb_roomIn h.1.2.1 l1 ?_⟩
    by_cases c1 : ra_L I m (lmI I m t) 1 ≤ nI (cn_ (ra_st I m (nI (lmI I m t))) n) ∨ ¬ nI (cn_ (ra_st I m (-1)) n) < I (m + 1) 8
    · rw [if_pos c1] at K ⊢
      exact ⟨fun c => absurd rfl c, fun _ => K⟩
    · rw [if_neg c1] at K ⊢
      refine ⟨fun _ => ?_, fun c => absurd c (by decide)⟩
      rw [b1, b5]
      refine ⟨b2, cb_key h.1.2.1 (re_key h) ?_⟩
      cases hf : fi_ (ra_kst I m (nI k)) n 0 with
      | some t' =>
        rw [hf, if_pos (by simp)] at K
        have ht' := (fi_lt hf).1
        have := (re_ge h (show t' < n by omega)).1
        exact ⟨fun c => absurd c (by show ¬ ta t' = 0; omega), fun _ => K⟩
      | none =>
        rw [hf, if_neg (by simp)] at K
        refine ⟨fun _ => ?_, fun c => absurd rfl c⟩
        rw [h.1.1.1.2.2.2.2.2.2.2.2.1, b5]
        refine ⟨(re_k h).1, ce_count h hk ?_⟩
        rw [b1, r1]
        refine ⟨b2, 6, r2, by decide, ?_⟩
        rw [r3 5 (by decide)]
        exact ⟨fun c2 => by rw [if_pos c2] at K; exact K, fun c2 => by rw [if_neg c2] at K; exact K⟩
end Agn
