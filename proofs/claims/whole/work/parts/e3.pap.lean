/-! on paper -/
section Pap
variable {B M M' : mm_T} {I J N E : Nat → Nat → Int32} {m n T W P L : Nat} {ta tm tc : Nat → Nat} {S : Nat → Nat → Bool}
def sc_ (m : Nat) (I J : fI) : Prop := (∀ a j, ¬ (a = m + 2 ∨ (a = m ∧ 8 ≤ j) ∨ (m + 9 ≤ a ∧ a ≤ m + 12)) → J a j = I a j) ∧ J m 8 = I m 8
theorem sc_rf : sc_ m I I := ⟨fun _ _ _ => rfl, rfl⟩
theorem sc_tr (h : sc_ m I J) (h' : sc_ m J N) : sc_ m I N := ⟨fun a j q => (h'.1 a j q).trans (h.1 a j q), h'.2.trans h.2⟩
theorem sc_pt (hS : uf_ S m) (h : sc_ m (pt_ S E I) J) : ∃ I', sc_ m I I' ∧ J = pt_ S E I' := by
  refine ⟨fun a j => if S a j = true then I a j else J a j, ⟨fun a j q => ?_, ?_⟩, ?_⟩
  · show (if S a j = true then I a j else J a j) = I a j
    by_cases z : S a j = true
    · rw [if_pos z]
    · rw [if_neg z, h.1 a j q]
      exact if_neg z
  · show (if S m 8 = true then I m 8 else J m 8) = I m 8
    rw [if_neg (by rw [hS m 8 (by omega) (by omega)]; decide), h.2]
    exact uf_at hS (by omega) (by omega)
  · funext a j
    show J a j = if S a j = true then E a j else if S a j = true then I a j else J a j
    by_cases z : S a j = true
    · rw [if_pos z, h.1 a j (fun y => by
        have hin : m ≤ a ∧ a ≤ m + 12 := by omega
        rw [hS a j hin.1 hin.2] at z
        cases z)]
      exact if_pos z
    · rw [if_neg z, if_neg z]
def sq_ {α : Type} (I : fI) (m n : Nat) (v : α) (c : mm_T → (α → mm_T → Prop) → Prop) (r : mm_T → fI → (α → fI → Prop) → Prop) : Prop :=
  (∀ M ta tm Q, re_ M I m n ta tm → (∀ M', re_ M' I m n ta tm → Q v M') → c M Q) ∧ ∀ S E B Q, uf_ S m → rf_ok B m → (∀ I', sc_ m I I' → Q v (pt_ S E I')) → r B (pt_ S E I) Q
/-! begins, ends -/
def bg_ (I : fI) (m : Nat) : fI := fun a j => if a = m + 2 ∧ j < 6200 then I (m + 1) j else if a = m ∧ j = 8 then 1 else if a = m ∧ 9 ≤ j ∧ j ≤ 11 then 0 else I a j
def bgc (I : fI) (m c : Nat) : fI := fun a j => if a = m + 2 ∧ j < c then I (m + 1) j else I a j
theorem bgc_s {c : Nat} : i2_u (bgc I m c) (m + 2) c (bgc I m c (m + 1) c) = bgc I m (c + 1) := by
  funext a j
  rw [i2_at, show bgc I m c (m + 1) c = I (m + 1) c from if_neg (by omega)]
  unfold bgc
  by_cases z : a = m + 2 ∧ j = c
  · rw [if_pos z, if_pos (show a = m + 2 ∧ j < c + 1 by omega), z.2]
  · rw [if_neg z]
    by_cases y : a = m + 2 ∧ j < c
    · rw [if_pos y, if_pos (show a = m + 2 ∧ j < c + 1 by omega)]
    · rw [if_neg y, if_neg (show ¬ (a = m + 2 ∧ j < c + 1) by omega)]
theorem bgc_e : i2_u (i2_u (i2_u (i2_u (bgc I m 6200) m 8 1) m 9 0) m 10 0) m 11 0 = bg_ I m := by
  funext a j
  rw [i2_at, i2_at, i2_at, i2_at]
  unfold bgc bg_
  by_cases y : a = m + 2 ∧ j < 6200
  · rw [if_neg (show ¬ (a = m ∧ j = 11) by omega), if_neg (show ¬ (a = m ∧ j = 10) by omega), if_neg (show ¬ (a = m ∧ j = 9) by omega), if_neg (show ¬ (a = m ∧ j = 8) by omega), if_pos y, if_pos y]
  · rw [if_neg y, if_neg y]
    by_cases z1 : a = m ∧ j = 11
    · rw [if_pos z1, if_neg (show ¬ (a = m ∧ j = 8) by omega), if_pos (show a = m ∧ 9 ≤ j ∧ j ≤ 11 by omega)]
    · rw [if_neg z1]
      by_cases z2 : a = m ∧ j = 10
      · rw [if_pos z2, if_neg (show ¬ (a = m ∧ j = 8) by omega), if_pos (show a = m ∧ 9 ≤ j ∧ j ≤ 11 by omega)]
      · rw [if_neg z2]
        by_cases z3 : a = m ∧ j = 9
        · rw [if_pos z3, if_neg (show ¬ (a = m ∧ j = 8) by omega), if_pos (show a = m ∧ 9 ≤ j ∧ j ≤ 11 by omega)]
        · rw [if_neg z3, if_neg (show ¬ (a = m ∧ 9 ≤ j ∧ j ≤ 11) by omega)]
theorem i62 {c : Nat} (h : c < 6200) : ¬ (6200 : Int32) ≤ nI c := by
  show ¬ nI 6200 ≤ nI c
  exact nI_ge h (by decide)
theorem rc_begins (RK : rf_ok B m) {Q : fI → Prop} (K : Q (bg_ I m)) : rs_v mt_X11_begins [pv_r m] B I Q := by
  have loop : ∀ j c, c + j = 6200 → rw_v mt_X11_begins 2 [some (pv_r m), some (pv_i (nI c))] [] B (bgc I m c) Q := by
    intro j
    induction j with
    | zero =>
      intro c hc
      have : c = 6200 := by omega
      subst this
      refine wq_X11_begins_2 RK ⟨fun _ I1 e1 I2 e2 I3 e3 I4 e4 => ?_, fun q => absurd (Int32.le_refl _) q⟩
      rw [e4, e3, e2, e1, bgc_e]
      exact K
    | succ j ih =>
      intro c hc
      refine wq_X11_begins_2 RK ⟨fun q => absurd q (i62 (by omega)), fun _ => ⟨c, ⟨rfl, by omega⟩, fun I6 e6 => ?_⟩⟩
      rw [e6, bgc_s]
      exact ih (c + 1) (by omega)
  have st := loop 6200 0 (Nat.zero_add _)
  have e0 : bgc I m 0 = I := by
    funext a j
    exact if_neg (by omega)
  rw [e0] at st
  exact wq_X11_begins_0 RK st
def ed_ (J : fI) (m : Nat) : fI := fun a j => if a = m + 1 ∧ j < 6200 then J (m + 2) j else if a = m ∧ j = 8 then 0 else J a j
def edc (J : fI) (m c : Nat) : fI := fun a j => if a = m + 1 ∧ j < c then J (m + 2) j else J a j
theorem edc_s {c : Nat} : i2_u (edc J m c) (m + 1) c (edc J m c (m + 2) c) = edc J m (c + 1) := by
  funext a j
  rw [i2_at, show edc J m c (m + 2) c = J (m + 2) c from if_neg (by omega)]
  unfold edc
  by_cases z : a = m + 1 ∧ j = c
  · rw [if_pos z, if_pos (show a = m + 1 ∧ j < c + 1 by omega), z.2]
  · rw [if_neg z]
    by_cases y : a = m + 1 ∧ j < c
    · rw [if_pos y, if_pos (show a = m + 1 ∧ j < c + 1 by omega)]
    · rw [if_neg y, if_neg (show ¬ (a = m + 1 ∧ j < c + 1) by omega)]
theorem edc_e : i2_u (edc J m 6200) m 8 0 = ed_ J m := by
  funext a j
  rw [i2_at]
  unfold edc ed_
  by_cases y : a = m + 1 ∧ j < 6200
  · rw [if_neg (show ¬ (a = m ∧ j = 8) by omega), if_pos y, if_pos y]
  · rw [if_neg y, if_neg y]
theorem rc_ends (RK : rf_ok B m) {Q : fI → Prop} (K : Q (ed_ J m)) : rs_v mt_X11_ends [pv_r m] B J Q := by
  have loop : ∀ j c, c + j = 6200 → rw_v mt_X11_ends 2 [some (pv_r m), some (pv_i (nI c))] [] B (edc J m c) Q := by
    intro j
    induction j with
    | zero =>
      intro c hc
      have : c = 6200 := by omega
      subst this
      refine wq_X11_ends_2 RK ⟨fun _ I1 e1 => ?_, fun q => absurd (Int32.le_refl _) q⟩
      rw [e1, edc_e]
      exact K
    | succ j ih =>
      intro c hc
      refine wq_X11_ends_2 RK ⟨fun q => absurd q (i62 (by omega)), fun _ => ⟨c, ⟨rfl, by omega⟩, fun I6 e6 => ?_⟩⟩
      rw [e6, edc_s]
      exact ih (c + 1) (by omega)
  have st := loop 6200 0 (Nat.zero_add _)
  have e0 : edc J m 0 = J := by
    funext a j
    exact if_neg (by omega)
  rw [e0] at st
  exact wq_X11_ends_0 RK st
/-- what paper leaves -/
def pf_ (m : Nat) (I J : fI) : Prop := (∀ j, j < 6200 → J (m + 2) j = I (m + 1) j) ∧ ∀ a j, ¬ (a = m + 1 ∧ j < 6200) → ¬ (a = m + 2 ∧ j < 6200) → ¬ (a = m ∧ 8 ≤ j) → ¬ (m + 9 ≤ a ∧ a ≤ m + 12) → J a j = I a j
def tf_ (m : Nat) (J N : fI) : Prop := ∀ a j, ¬ (a = m + 1 ∧ j < 6200) → ¬ (a = m ∧ 8 ≤ j) → ¬ (m + 9 ≤ a ∧ a ≤ m + 12) → N a j = J a j
theorem tf_rf : tf_ m J J := fun _ _ _ _ _ => rfl
theorem tf_tr (h : tf_ m I J) (h' : tf_ m J N) : tf_ m I N := fun a j q1 q2 q3 => (h' a j q1 q2 q3).trans (h a j q1 q2 q3)
theorem pf_bg : pf_ m I (bg_ I m) := by
  refine ⟨fun j q => if_pos ⟨rfl, q⟩, fun a j q1 q2 q3 q4 => ?_⟩
  unfold bg_
  rw [if_neg q2, if_neg (by omega), if_neg (by omega)]
theorem pf_tf (h : pf_ m I J) (h' : tf_ m J N) : pf_ m I N := ⟨fun j q => (h' _ _ (by omega) (by omega) (by omega)).trans (h.1 j q), fun a j q1 q2 q3 q4 => (h' a j q1 q3 q4).trans (h.2 a j q1 q2 q3 q4)⟩
theorem sc_ed (h8 : I m 8 = 0) (h : pf_ m I J) : sc_ m I (ed_ J m) := by
  refine ⟨fun a j q => ?_, ?_⟩
  · unfold ed_
    by_cases z : a = m + 1 ∧ j < 6200
    · rw [if_pos z, h.1 j z.2, z.1]
    · rw [if_neg z, if_neg (by omega)]
      exact h.2 a j z (by omega) (by omega) (by omega)
  · unfold ed_
    rw [if_neg (by omega), if_pos ⟨rfl, rfl⟩, h8]
theorem bg_r {j : Nat} : bg_ I m (m + 1) j = I (m + 1) j := by
  unfold bg_
  rw [if_neg (by omega), if_neg (by omega), if_neg (by omega)]
theorem nt_bg (hS : uf_ S m) : bg_ (pt_ S E I) m = pt_ S E (bg_ I m) := by
  funext a j
  by_cases z : m ≤ a ∧ a ≤ m + 12
  · rw [uf_at hS z.1 z.2]
    unfold bg_
    rw [uf_at hS (by omega) (by omega), uf_at hS z.1 z.2]
  · have e1 : ∀ N : fI, bg_ N m a j = N a j := fun N => by
      unfold bg_
      rw [if_neg (show ¬ (a = m + 2 ∧ j < 6200) by omega), if_neg (show ¬ (a = m ∧ j = 8) by omega), if_neg (show ¬ (a = m ∧ 9 ≤ j ∧ j ≤ 11) by omega)]
    rw [e1]
    unfold pt_
    rw [e1]
/-! TAKEN ON -/
def wc_n (J : fI) (m n : Nat) : Nat := cn_ (fun t => decide (ra_T J m t 6 = 0)) n
def ton_ (m n : Nat) (x1 x2 : Int32) : Nat → Nat → fI → Int32
  | 0, _, _ => -1
  | f + 1, i, J => match ra_lane J m n 0 with
    | none => -1
    | some l => match ra_first J m n (nI l) with
      | none => -1
      | some t => if nI t = x2 then nI i else if nI i = x1 then nI t else ton_ m n x1 x2 f (i + 1) (sp_srv J m t l)
theorem srv_eq {t l : Nat} (hl : l < 5) : i2_u (sp_pass J m t l) (m + 1) (200 + 14 * t + 6) 3 = sp_srv J m t l := by
  unfold sp_srv sp_pass
  rw [i2_uj (show 10 + 10 * l + 4 ≠ 200 + 14 * t + 6 by omega), i2_uj (show 10 + 10 * l + 0 ≠ 200 + 14 * t + 6 by omega), i2_uj (show 200 + 14 * t + 2 ≠ 200 + 14 * t + 6 by omega)]
  exact i2_cm (by omega)
theorem srv_o {t l a j : Nat} (q : a ≠ m + 1 ∨ (j ≠ 200 + 14 * t + 6 ∧ j ≠ 10 + 10 * l + 4)) : sp_srv J m t l a j = J a j := by
  unfold sp_srv
  rw [pass_o (by omega), i2_at, if_neg (by omega)]
theorem srv_6 {t l x : Nat} (hl : l < 5) : ra_T (sp_srv J m t l) m x 6 = if x = t then 3 else ra_T J m x 6 := by
  unfold ra_T sp_srv
  rw [pass_o (by omega), i2_at]
  by_cases z : x = t
  · rw [if_pos ⟨rfl, by omega⟩, if_pos z]
  · rw [if_neg (by omega), if_neg z]
theorem srv_T {t l x f : Nat} (hl : l < 5) (hf : f < 14) (h6 : f ≠ 6) : ra_T (sp_srv J m t l) m x f = ra_T J m x f := srv_o (by omega)
theorem srv_wc {t l : Nat} (hl : l < 5) (ht : t < n) (h6 : ra_T J m t 6 = 0) : wc_n (sp_srv J m t l) m n + 1 = wc_n J m n := by
  have := cs_one (I := J) (J := sp_srv J m t l) (m := m) (n := n) (t := t) (v := 3) 0 ht (fun t' _ => srv_6 hl)
  rw [if_pos h6, if_neg (by decide)] at this
  exact this
theorem srv_tf {t l : Nat} (hl : l < 5) (ht : t < 400) : tf_ m J (sp_srv J m t l) := fun a j q1 _ _ => srv_o (by omega)
theorem ton_0 {x1 x2 : Int32} {f i : Nat} (h : wc_n J m n = 0) : ton_ m n x1 x2 f i J = -1 := by
  cases f with
  | zero => rfl
  | succ f =>
    unfold ton_
    cases hl : ra_lane J m n 0 with
    | none => rfl
    | some l =>
      obtain ⟨t, ht⟩ := lane_live hl
      obtain ⟨t1, t2, t3⟩ := first_of ht
      have := cn_none h t t1
      exact absurd t3 (of_decide_eq_false this)
theorem ton_big {k : Nat} (hk : k < 2 ^ 31) : ∀ (f i : Nat) {J : fI}, wc_n J m n + i ≤ k → n ≤ 400 → i + f ≤ 1000 → ton_ m n (nI k) (-1) f i J = -1
  | 0, _, _, _, _, _ => rfl
  | f + 1, i, J, h, hn, hf => by
    unfold ton_
    cases hl : ra_lane J m n 0 with
    | none => rfl
    | some l =>
      have l5 := ra_lane_5 hl
      obtain ⟨t, ht⟩ := lane_live hl
      obtain ⟨t1, t2, t3⟩ := first_of ht
      have hw := srv_wc l5 t1 t3
      simp only [ht]
      rw [if_neg (nI_nm (by omega)), if_neg (fun q => by
        have := (nI_eq (by omega) hk).mp q
        omega)]
      exact ton_big hk f (i + 1) (by omega) hn (by omega)
theorem nt_srv (hS : uf_ S m) {t l : Nat} : sp_srv (pt_ S E J) m t l = pt_ S E (sp_srv J m t l) := by
  unfold sp_srv sp_pass
  rw [uf_u hS (by omega) (by omega), uf_at hS (by omega) (by omega), uf_at hS (by omega) (by omega), uf_at hS (by omega) (by omega), uf_u hS (by omega) (by omega)]
theorem nt_ton (hS : uf_ S m) {x1 x2 : Int32} : ∀ (f i : Nat) {J : fI}, ton_ m n x1 x2 f i (pt_ S E J) = ton_ m n x1 x2 f i J
  | 0, _, _ => rfl
  | f + 1, i, J => by
    unfold ton_
    rw [nt_lane (uf_us hS)]
    cases hl : ra_lane J m n 0 with
    | none => rfl
    | some l =>
      simp only
      rw [nt_first (uf_us hS)]
      cases hf : ra_first J m n (nI l) with
      | none => rfl
      | some t =>
        simp only
        rw [nt_srv hS, nt_ton hS f (i + 1)]
theorem rc_ton (RK : rf_ok B m) {x1 x2 : Int32} (h4 : n ≤ 400) {Q : Int32 → fI → Prop} : ∀ (f i : Nat) {J : fI}, J (m + 1) 1 = nI n → (∀ l, l < 5 → ¬ ra_L J m l 0 = 0) → wc_n J m n < f → (∀ J', tf_ m J J' → Q (ton_ m n x1 x2 f i J) J') → rw_i mt_X11_takenOn 9 [some (pv_r m), some (pv_i x1), some (pv_i x2), some (pv_i (nI i)), some (pv_i (io_ (ra_lane J m n 0))), none] [] B J Q
  | 0, _, _, _, _, h, _ => by omega
  | f + 1, i, J, h1, hw, hc, K => by
    unfold ton_ at K
    cases hl : ra_lane J m n 0 with
    | none =>
      rw [hl] at K
      exact wq_X11_takenOn_9 RK ⟨fun _ => K J tf_rf, fun q => absurd rfl q⟩
    | some l =>
      have l5 := ra_lane_5 hl
      obtain ⟨t, ht⟩ := lane_live hl
      obtain ⟨t1, t2, t3⟩ := first_of ht
      rw [hl] at K
      simp only [ht] at K
      refine wq_X11_takenOn_9 RK ⟨fun q => absurd q (nI_nm (by omega)), fun _ => rc_firstOf RK h1 h4 ?_⟩
      rw [show io_ (some l) = nI l from rfl, ht, show io_ (some t) = nI t from rfl]
      refine ⟨fun q => ⟨fun q2 => rc_pass RK t2 l5 (hw l l5) rfl (by omega) ⟨t, ⟨rfl, by omega⟩, fun I5 e5 => ?_⟩, fun q2 => ?_⟩, fun q => ?_⟩
      · rw [srv_eq l5] at e5
        rw [e5]
        have n1 : sp_srv J m t l (m + 1) 1 = nI n := (srv_o (by omega)).trans h1
        refine rc_theLane RK n1 h4 ?_
        rw [nI_1]
        have hwc := srv_wc l5 t1 t3
        refine rc_ton RK h4 f (i + 1) n1 (fun l' q' => by rw [show ra_L (sp_srv J m t l) m l' 0 = ra_L J m l' 0 from srv_o (by omega)]; exact hw l' q') (by omega) (fun J' hJ' => ?_)
        have := K J' (tf_tr (srv_tf l5 (by omega)) hJ')
        rw [if_neg q, if_neg q2] at this
        exact this
      · have := K J tf_rf
        rw [if_neg q, if_pos q2] at this
        exact this
      · have := K J tf_rf
        rw [if_pos q] at this
        exact this
end Pap
