/-! hangs -/
section Hng
variable {B M M' : mm_T} {I J E : Nat → Nat → Int32} {m n T W P L : Nat} {ta tm : Nat → Nat} {S : Nat → Nat → Bool}
def hl_ (I : fI) (m x : Nat) : Bool := decide (ra_T I m x 6 ≤ 3 ∨ ra_T I m x 6 = 5)
def hf_ (I : fI) (m t : Nat) : Nat → Nat → Bool
  | 0, _ => false
  | k + 1, x => if x ≤ t then decide (x = t) else (decide (¬ ra_T I m x 4 = -1) && hl_ I m x) && hf_ I m t k (ra_T I m x 4).toNatClampNeg
theorem hf_k (hb : bl_ I m n) (h4 : n ≤ 400) {t : Nat} : ∀ (k k' x : Nat), x < n → x < k → x < k' → hf_ I m t k x = hf_ I m t k' x
  | 0, _, _, _, q, _ => by omega
  | _ + 1, 0, _, _, _, q => by omega
  | k + 1, k' + 1, x, hx, q1, q2 => by
    unfold hf_
    split
    · rfl
    · rcases hb x hx with e | ⟨p, hp, e⟩
      · rw [decide_eq_false (fun z => z e)]
        rfl
      · rw [e, nI_clamp (by omega), hf_k hb h4 k k' p (by omega) (by omega) (by omega)]
def hg_ (I : fI) (m t x : Nat) : Bool := hf_ I m t 401 x
theorem hg_le {t x : Nat} (h : x ≤ t) : hg_ I m t x = decide (x = t) := by
  unfold hg_ hf_
  rw [if_pos h]
theorem hg_gt (hb : bl_ I m n) (h4 : n ≤ 400) {t x : Nat} (hx : x < n) (h : t < x) : hg_ I m t x = ((decide (¬ ra_T I m x 4 = -1) && hl_ I m x) && hg_ I m t (ra_T I m x 4).toNatClampNeg) := by
  have e : hg_ I m t x = ((decide (¬ ra_T I m x 4 = -1) && hl_ I m x) && hf_ I m t 400 (ra_T I m x 4).toNatClampNeg) := by
    unfold hg_
    show (if x ≤ t then _ else _) = _
    rw [if_neg (by omega)]
  rw [e]
  rcases hb x hx with e | ⟨p, hp, e⟩
  · rw [decide_eq_false (fun z => z e), Bool.false_and, Bool.false_and, Bool.false_and]
  · rw [e, nI_clamp (by omega)]
    unfold hg_
    rw [hf_k hb h4 400 401 p (by omega) (by omega) (by omega)]
theorem ce_hangsOn (h : re_ M I m n ta tm) (hi : ix_ I m n T W P L) {t : Nat} (ht : t < n) {x0 : Nat} {Q : Int32 → mm_T → Prop} : ∀ (k x : Nat), x < k → x < n → Q (if hg_ I m t x = true then 1 else 0) M → cw_i mt_X10_hangsOn 2 [some (pv_r x0), some (pv_r (ta t)), some (pv_r (ta x))] [] M Q
  | 0, x, q, _, _ => by omega
  | k + 1, x, q1, hx, K => by
    have h4 := re_4 h
    have gx := re_ge h hx
    have gt := re_ge h ht
    have ex := (h.1.2.2.1.1 x hx).1.2.2.1
    have et := (h.1.2.2.1.1 t ht).1.2.2.1
    have inj : ta x = ta t ↔ x = t := ⟨fun z => h.1.2.2.1.2.1 x t hx ht z, fun z => by rw [z]⟩
    refine wc_X10_hangsOn_2 ⟨fun z => absurd z (by omega), fun _ => ⟨gx.2, gt.2, ?_⟩⟩
    rw [ex, et, nI_leI (by omega) (by omega), inj]
    refine ⟨fun c => ?_, fun c => cc_stands gx.2 ?_⟩
    · rw [hg_le c] at K
      refine ⟨fun z => ?_, fun z => ?_⟩
      · rw [if_neg (fun y => z (of_decide_eq_true y))] at K
        exact K
      · rw [if_pos (decide_eq_true z)] at K
        exact K
    · rw [hg_gt (ix_bl hi) h4 hx (by omega)] at K
      have e7 : mm_i M (ta x) 7 = ra_T I m x 6 := re_7 h hx
      obtain ⟨s, hs, es⟩ := ix_s hi hx
      have up : hl_ I m x = true → cw_i mt_X10_hangsOn 2 [some (pv_r x0), some (pv_r (ta t)), some (pv_r (mm_r M (ta x) 1))] [] M Q := fun z => by
        rw [z] at K
        rcases ce_behind h (ix_bl hi) hx with ⟨e1, e2⟩ | ⟨p, hp, e1, e2, e3⟩
        · rw [e2]
          rw [decide_eq_false (fun z => z e1)] at K
          refine wc_X10_hangsOn_2 ⟨fun _ => ⟨Or.inl rfl, Or.inr ⟨6, by decide, gt.2⟩, fun _ => K, fun z => absurd z (by omega)⟩, fun z => absurd rfl z⟩
        · rw [e3]
          rw [decide_eq_true (show ¬ ra_T I m x 4 = -1 by rw [e1]; exact nI_nm (by omega)), e2] at K
          exact ce_hangsOn h hi ht k p (by omega) (by omega) (by simpa using K)
      have no : hl_ I m x = false → Q 0 M := fun z => by
        rw [z] at K
        simpa using K
      have ne : ¬ x = t := by omega
      rw [e7]
      by_cases c1 : 0 ≤ ra_T I m x 6 ∧ ra_T I m x 6 ≤ 3
      · rw [if_pos c1]
        exact ⟨fun _ => up (decide_eq_true (Or.inl c1.2)), fun z => absurd z (by decide)⟩
      · rw [if_neg c1]
        have c2 : ¬ ra_T I m x 6 ≤ 3 := fun z => c1 ⟨by rw [es]; exact nI_pos' (by omega), z⟩
        exact ⟨fun z => absurd rfl z, fun _ => ⟨fun z => ⟨fun _ => no (decide_eq_false (fun y => y.elim c2 z)), fun y => absurd y ne⟩, fun z => up (decide_eq_true (Or.inr z))⟩⟩
/-! the reference's marks -/
def hm_ (I : fI) (m n t c : Nat) : fI := fun a j => if a = m + 12 ∧ j < n then (if (if j < c then hg_ I m t j else decide (j = t)) = true then 1 else 0) else I a j
theorem hm_o {t c a j : Nat} (h : a ≠ m + 12) : hm_ I m n t c a j = I a j := if_neg (fun q => h q.1)
theorem hm_at {t c j : Nat} (h : j < n) : hm_ I m n t c (m + 12) j = if (if j < c then hg_ I m t j else decide (j = t)) = true then 1 else 0 := if_pos ⟨rfl, h⟩
theorem hm_u {t c : Nat} (hc : c < n) {v : Int32} (hv : v = if hg_ I m t c = true then 1 else 0) : i2_u (hm_ I m n t c) (m + 12) c v = hm_ I m n t (c + 1) := by
  funext a j
  rw [i2_at]
  by_cases z : a = m + 12 ∧ j = c
  · rw [if_pos z, hv, z.1, z.2, hm_at hc, if_pos (show c < c + 1 by omega)]
  · rw [if_neg z]
    unfold hm_
    by_cases y : a = m + 12 ∧ j < n
    · rw [if_pos y, if_pos y]
      by_cases w : j < c
      · rw [if_pos w, if_pos (show j < c + 1 by omega)]
      · rw [if_neg w, if_neg (show ¬ j < c + 1 by omega)]
    · rw [if_neg y, if_neg y]
def h0_ (I : fI) (m t c : Nat) : fI := fun a j => if a = m + 12 ∧ j < c then (if j = t then 1 else 0) else I a j
theorem h0_u {t c : Nat} {v : Int32} (hv : v = if c = t then 1 else 0) : i2_u (h0_ I m t c) (m + 12) c v = h0_ I m t (c + 1) := by
  funext a j
  rw [i2_at]
  unfold h0_
  by_cases z : a = m + 12 ∧ j = c
  · rw [if_pos z, hv, if_pos (show a = m + 12 ∧ j < c + 1 from ⟨z.1, by omega⟩), z.2]
  · rw [if_neg z]
    by_cases y : a = m + 12 ∧ j < c
    · rw [if_pos y, if_pos (show a = m + 12 ∧ j < c + 1 from ⟨y.1, by omega⟩)]
    · rw [if_neg y, if_neg (show ¬ (a = m + 12 ∧ j < c + 1) by omega)]
theorem rc_hg14 (RK : rf_ok B m) (hn : I (m + 1) 1 = nI n) (h4 : n ≤ 400) {t : Nat} (ht : t < n) {x2 : Int32} {Q : Int32 → fI → Prop} (K : rw_i mt_X11_hangs 50 [some (pv_r m), some (pv_i (nI t)), some (pv_i x2), some (pv_i (nI (t + 1))), none] [] B (h0_ I m t n) Q) : ∀ (j c : Nat), c + j = n → rw_i mt_X11_hangs 14 [some (pv_r m), some (pv_i (nI t)), some (pv_i x2), some (pv_i (nI c)), none] [] B (h0_ I m t c) Q
  | 0, c, hc => by
    have : c = n := by omega
    subst this
    refine wq_X11_hangs_14 RK ⟨fun _ => by rw [nI_1]; exact K, fun q => absurd ?_ q⟩
    rw [show h0_ I m t c (m + 1) 1 = I (m + 1) 1 from if_neg (by omega)]
    exact nI_end hn
  | j + 1, c, hc => by
    have ih := rc_hg14 RK hn h4 ht K j (c + 1) (by omega)
    refine wq_X11_hangs_14 RK ?_
    rw [show h0_ I m t c (m + 1) 1 = I (m + 1) 1 from if_neg (by omega)]
    refine ⟨fun q => absurd q (nI_done hn h4 (by omega)), fun _ => ⟨fun q => ⟨c, ⟨rfl, by omega⟩, fun I2 e => ?_⟩, fun q => ⟨c, ⟨rfl, by omega⟩, fun I2 e => ?_⟩⟩⟩
    · rw [e, h0_u (by rw [if_neg (fun z => q (by rw [z]))])]
      exact ih
    · rw [e, h0_u (by rw [if_pos ((nI_eq (by omega) (by omega)).mp q)])]
      exact ih
theorem rc_hg50 (RK : rf_ok B m) (hn : I (m + 1) 1 = nI n) (h4 : n ≤ 400) (hb : bl_ I m n) {t : Nat} (ht : t < n) {Q : Int32 → fI → Prop} (K : Q (nI (cn_ (fun x => decide (t < x) && hg_ I m t x) n)) (hm_ I m n t n)) : ∀ (j c : Nat), t < c → c + j = n → rw_i mt_X11_hangs 50 [some (pv_r m), some (pv_i (nI t)), some (pv_i (nI (cn_ (fun x => decide (t < x) && hg_ I m t x) c))), some (pv_i (nI c)), none] [] B (hm_ I m n t c) Q
  | 0, c, _, hc => by
    have : c = n := by omega
    subst this
    refine wq_X11_hangs_50 RK ⟨fun _ => K, fun q => absurd ?_ q⟩
    rw [hm_o (by omega)]
    exact nI_end hn
  | j + 1, c, htc, hc => by
    have ih := rc_hg50 RK hn h4 hb ht K j (c + 1) (by omega) (by omega)
    have es : cn_ (fun x => decide (t < x) && hg_ I m t x) (c + 1) = cn_ (fun x => decide (t < x) && hg_ I m t x) c + if (decide (t < c) && hg_ I m t c) = true then 1 else 0 := rfl
    rw [es, decide_eq_true htc, Bool.true_and] at ih
    have f0 : hg_ I m t c = false → ∀ I2, I2 = i2_u (hm_ I m n t c) (m + 12) c 0 → (((I2 (m + 12) c = 0) → rw_i mt_X11_hangs 50 [some (pv_r m), some (pv_i (nI t)), some (pv_i (nI (cn_ (fun x => decide (t < x) && hg_ I m t x) c) + 0)), some (pv_i (nI (c + 1))), none] [] B I2 Q) ∧ ((¬ I2 (m + 12) c = 0) → rw_i mt_X11_hangs 50 [some (pv_r m), some (pv_i (nI t)), some (pv_i (nI (cn_ (fun x => decide (t < x) && hg_ I m t x) c) + 1)), some (pv_i (nI (c + 1))), none] [] B I2 Q)) := fun z I2 e => by
      rw [e]
      refine ⟨fun _ => ?_, fun q => absurd i2_us q⟩
      rw [hm_u (by omega) (by rw [z]; rfl), nI_a0]
      rw [z] at ih
      exact ih
    have f1 : hg_ I m t c = true → ∀ I2, I2 = i2_u (hm_ I m n t c) (m + 12) c 1 → (((I2 (m + 12) c = 0) → rw_i mt_X11_hangs 50 [some (pv_r m), some (pv_i (nI t)), some (pv_i (nI (cn_ (fun x => decide (t < x) && hg_ I m t x) c) + 0)), some (pv_i (nI (c + 1))), none] [] B I2 Q) ∧ ((¬ I2 (m + 12) c = 0) → rw_i mt_X11_hangs 50 [some (pv_r m), some (pv_i (nI t)), some (pv_i (nI (cn_ (fun x => decide (t < x) && hg_ I m t x) c) + 1)), some (pv_i (nI (c + 1))), none] [] B I2 Q)) := fun z I2 e => by
      rw [e]
      refine ⟨fun q => absurd (i2_us.symm.trans q) (by decide), fun _ => ?_⟩
      rw [hm_u (by omega) (by rw [z]; rfl), nI_1]
      rw [z] at ih
      exact ih
    have gg := hg_gt hb h4 (show c < n by omega) htc
    refine wq_X11_hangs_50 RK ?_
    have e1 : ∀ j, hm_ I m n t c (m + 1) j = I (m + 1) j := fun j => hm_o (by omega)
    simp only [e1]
    refine ⟨fun q => absurd q (nI_done hn h4 (by omega)), fun _ => ⟨c, ⟨rfl, by omega⟩, fun q => f0 ?_, fun q => ?_⟩⟩
    · rw [gg, decide_eq_false (fun z => z q)]
      rfl
    · rcases hb c (by omega) with e | ⟨p, hp, e⟩
      · exact absurd e q
      · rw [decide_eq_true (show ¬ ra_T I m c 4 = -1 from q), e, nI_clamp (by omega), Bool.true_and] at gg
        refine ⟨p, ⟨e, by omega⟩, ?_⟩
        rw [hm_at (show p < n by omega), if_pos hp]
        refine ⟨fun z => f0 ?_, fun z => ⟨fun y => f1 ?_, fun y => ⟨fun w => f0 ?_, fun w => f1 ?_⟩⟩⟩
        · rw [gg]
          cases hh : hg_ I m t p with
          | false => simp
          | true => rw [hh] at z; exact absurd z (by decide)
        · rw [gg]
          cases hh : hg_ I m t p with
          | false => rw [hh] at z; exact absurd rfl z
          | true => rw [show hl_ I m c = true from decide_eq_true (Or.inl y)]; rfl
        · rw [gg, show hl_ I m c = false from decide_eq_false (fun v => v.elim y w)]
          rfl
        · rw [gg]
          cases hh : hg_ I m t p with
          | false => rw [hh] at z; exact absurd rfl z
          | true => rw [show hl_ I m c = true from decide_eq_true (Or.inr w)]; rfl
theorem nt_hf (hS : uf_ S m) {t : Nat} : ∀ (k x : Nat), hf_ (pt_ S E I) m t k x = hf_ I m t k x
  | 0, _ => rfl
  | k + 1, x => by
    have eT : ∀ t f, ra_T (pt_ S E I) m t f = ra_T I m t f := fun l f => uf_at hS (by omega) (by omega)
    unfold hf_ hl_
    rw [eT, eT, nt_hf hS k]
def ap_hng (I : fI) (m n : Nat) (x1 : Int32) : Int32 × fI := if 0 ≤ x1 ∧ x1 ≤ nI n - 1 then (nI (cn_ (fun x => decide (x1.toNatClampNeg < x) && hg_ I m x1.toNatClampNeg x) n), hm_ I m n x1.toNatClampNeg n) else (-1, I)
theorem sm_hangs (h : ix_ I m n T W P L) {x1 : Int32} : sm_ I m n T W P L (ap_hng I m n x1) (fun M Q => cs_i mt_X10_hangs [pv_r 5, pv_i x1] M Q) (fun B J Q => rs_i mt_X11_hangs [pv_r m, pv_i x1] B J Q) := by
  have h4 := ix_4 h
  have nJ : ∀ {S E}, uf_ S m → pt_ S E I (m + 1) 1 = nI n := fun hS => (uf_at hS (by omega) (by omega)).trans (ix_1 h)
  by_cases c : 0 ≤ x1 ∧ x1 ≤ nI n - 1
  · obtain ⟨t, ht, rfl⟩ := (i32_tk h4).mp c
    rw [show ap_hng I m n (nI t) = (nI (cn_ (fun x => decide (t < x) && hg_ I m t x) n), hm_ I m n t n) by unfold ap_hng; rw [if_pos c, nI_clamp (by omega)]]
    have hX : ix_ (hm_ I m n t n) m n T W P L := ix_o h (fun a j q1 q2 q3 q4 q5 q6 _ => hm_o (by omega)) (by rw [hm_o (by omega)]; exact ix_log h) (hm_o (by omega))
    refine ⟨⟨n, ix_up hX (by omega) (by omega) (by omega) (by omega)⟩, fun M ta tm Q hr K => ?_, fun S E B Q hS RK K => ?_⟩
    · have K := K M n ta tm (re_I hr fx_rf (fun a j q => hm_o (by omega)))
      refine wc_X10_hangs_0 (re_m5 hr) (ce_taskAt hr (fun t' ht' e => ?_) (fun q => absurd c q))
      have : t = t' := (nI_eq (by omega) (by omega)).mp e
      subst this
      have g := re_ge hr ht
      refine ⟨fun _ => ⟨g.2, ?_⟩, fun q => absurd q (by omega)⟩
      rw [(hr.1.2.2.1.1 t ht).1.2.2.1, nI_1]
      obtain ⟨c1, c2, c3, c4, c5, c6, c7, c8⟩ := hr.2.1.1
      rw [List.length_map, List.length_range] at c6
      have loop : ∀ j c, t < c → c + j = n → cw_i mt_X10_hangs 22 [some (pv_r 5), some (pv_i (nI t)), some (pv_r (ta t)), some (pv_i (nI (cn_ (fun x => decide (t < x) && hg_ I m t x) c))), some (pv_i (nI c))] [] M Q := by
        intro j
        induction j with
        | zero =>
          intro c _ hc
          have : c = n := by omega
          subst this
          refine wc_X10_hangs_22 (re_m5 hr) ?_
          rw [hr.1.1.1.2.2.2.1, c6]
          exact ⟨c1, fun _ => K, fun q => absurd (Int32.le_refl _) q⟩
        | succ j ih =>
          intro c htc hc
          have ih := ih (c + 1) (by omega) (by omega)
          have es : cn_ (fun x => decide (t < x) && hg_ I m t x) (c + 1) = cn_ (fun x => decide (t < x) && hg_ I m t x) c + if (decide (t < c) && hg_ I m t c) = true then 1 else 0 := rfl
          rw [es, decide_eq_true htc, Bool.true_and] at ih
          refine wc_X10_hangs_22 (re_m5 hr) ?_
          rw [hr.1.1.1.2.2.2.1, c6, c2]
          refine ⟨c1, fun q => absurd q (nI_ge (by omega) (by omega)), fun _ => ⟨400, c3, c, ⟨rfl, by omega⟩, ?_⟩⟩
          rw [c7 c (ta c) (by rw [List.getElem?_map, List.getElem?_range (by omega)]; rfl)]
          refine wc_X10_hangsOn_0 (ce_hangsOn hr h ht (c + 1) c (by omega) (by omega) ?_)
          by_cases z : hg_ I m t c = true
          · rw [if_pos z]
            rw [if_pos z] at ih
            refine ⟨fun q => absurd q (by decide), fun _ => ?_⟩
            rw [nI_1]
            exact ih
          · rw [if_neg z]
            rw [if_neg z] at ih
            exact ⟨fun _ => ih, fun q => absurd rfl q⟩
      have e0 : cn_ (fun x => decide (t < x) && hg_ I m t x) (t + 1) = 0 := cn_0 (fun i hi => by rw [decide_eq_false (show ¬ t < i by omega)]; rfl)
      have := loop (n - (t + 1)) (t + 1) (by omega) (by omega)
      rw [e0] at this
      exact this
    · have hJ := ix_pt (E := E) h hS
      have hb := ix_bl hJ
      have eg : ∀ x, hg_ (pt_ S E I) m t x = hg_ I m t x := fun x => nt_hf hS 401 x
      have em : hm_ (pt_ S E I) m n t n = pt_ S E (hm_ I m n t n) := by
        funext a j
        by_cases z : a = m + 12 ∧ j < n
        · rw [z.1, hm_at z.2, uf_at hS (by omega) (by omega), hm_at z.2, if_pos z.2, if_pos z.2, eg]
        · rw [show hm_ (pt_ S E I) m n t n a j = pt_ S E I a j from if_neg z]
          unfold pt_
          rw [show hm_ I m n t n a j = I a j from if_neg z]
      refine wq_X11_hangs_0 RK ⟨fun _ => ?_, fun q => absurd (by rw [nJ hS]; exact c) q⟩
      have e0 : cn_ (fun x => decide (t < x) && hg_ (pt_ S E I) m t x) (t + 1) = 0 := cn_0 (fun i hi => by rw [decide_eq_false (show ¬ t < i by omega)]; rfl)
      have eh : h0_ (pt_ S E I) m t n = hm_ (pt_ S E I) m n t (t + 1) := by
        funext a j
        unfold h0_ hm_
        by_cases z : a = m + 12 ∧ j < n
        · rw [if_pos z, if_pos z]
          by_cases y : j < t + 1
          · rw [if_pos y, hg_le (by omega)]
            by_cases w : j = t
            · rw [if_pos w, if_pos (decide_eq_true w)]
            · rw [if_neg w, if_neg (fun v => w (of_decide_eq_true v))]
          · rw [if_neg y]
            by_cases w : j = t
            · rw [if_pos w, if_pos (decide_eq_true w)]
            · rw [if_neg w, if_neg (fun v => w (of_decide_eq_true v))]
        · rw [if_neg z, if_neg z]
      have fin := rc_hg50 (Q := Q) RK (ix_1 hJ) h4 hb ht (by
        rw [em, cn_eq (p := fun x => decide (t < x) && hg_ (pt_ S E I) m t x) (q := fun x => decide (t < x) && hg_ I m t x) (fun x _ => by rw [eg])]
        exact K) (n - (t + 1)) (t + 1) (by omega) (by omega)
      rw [e0, ← eh] at fin
      have st := rc_hg14 RK (ix_1 hJ) h4 ht fin n 0 (by omega)
      have ez : h0_ (pt_ S E I) m t 0 = pt_ S E I := by
        funext a j
        exact if_neg (by omega)
      rw [ez] at st
      exact st
  · rw [show ap_hng I m n x1 = (-1, I) from if_neg c]
    refine ⟨⟨n, ix_up h (by omega) (by omega) (by omega) (by omega)⟩, fun M ta tm Q hr K => ?_, fun S E B Q hS RK K => ?_⟩
    · exact wc_X10_hangs_0 (re_m5 hr) (ce_taskAt hr (fun t ht e => absurd ((i32_tk h4).mpr ⟨t, ht, e⟩) c) (fun _ => ⟨fun y => absurd rfl y, fun _ => K _ _ _ _ hr⟩))
    · exact wq_X11_hangs_0 RK ⟨fun q => absurd (by rw [nJ hS] at q; exact q) c, fun _ => K⟩
end Hng
