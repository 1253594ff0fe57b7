/-! dragging: all that are HELD behind one go aside, level by level -/
section Drag
variable {B : mm_T} {I : Nat → Nat → Int32} {m n : Nat}
def sp_p (I : Nat → Nat → Int32) (m : Nat) (lv : List Nat) (t : Nat) : Bool := decide (ra_T I m t 6 = 1) && lv.any (fun b => decide (ra_T I m t 4 = nI b))
def sp_as1 (I : Nat → Nat → Int32) (m t : Nat) (c : Int32) : Nat → Nat → Int32 := sp_ga (sp_bl I m t c) m t c
def sp_asd (I : Nat → Nat → Int32) (m : Nat) (ts : List Nat) (c : Int32) : Nat → Nat → Int32 := ts.foldl (fun J t => sp_as1 J m t c) I
def sp_dr : Nat → (Nat → Nat → Int32) → Nat → Nat → List Nat → Int32 → (Nat → Nat → Int32) × Nat
  | 0, I, _, _, _, _ => (I, 0)
  | k + 1, I, m, n, lv, c => ((sp_dr k (sp_asd I m ((List.range n).filter (sp_p I m lv)) c) m n ((List.range n).filter (sp_p I m lv)) 100).1, ((List.range n).filter (sp_p I m lv)).length + (sp_dr k (sp_asd I m ((List.range n).filter (sp_p I m lv)) c) m n ((List.range n).filter (sp_p I m lv)) 100).2)
/-- the ints with other scratch rows -/
def ov_ (m : Nat) (I : Nat → Nat → Int32) (f g : Nat → Int32) : Nat → Nat → Int32 := fun a j => if a = m + 7 then f j else if a = m + 8 then g j else I a j
theorem ov_o {f g : Nat → Int32} {a j : Nat} (h : a ≠ m + 7) (h' : a ≠ m + 8) : ov_ m I f g a j = I a j := by
  unfold ov_
  rw [if_neg h, if_neg h']
theorem ov_u {f g : Nat → Int32} {a j : Nat} {x : Int32} (h : a ≠ m + 7) (h' : a ≠ m + 8) : i2_u (ov_ m I f g) a j x = ov_ m (i2_u I a j x) f g := by
  funext p q
  unfold ov_ i2_u
  by_cases c : p = a ∧ q = j
  · rw [if_pos c, if_neg (by omega), if_neg (by omega), if_pos c]
  · rw [if_neg c, if_neg c]
theorem ov_7 {f g : Nat → Int32} {j : Nat} {x : Int32} : i2_u (ov_ m I f g) (m + 7) j x = ov_ m I (fun k => if k = j then x else f k) g := by
  funext p q
  unfold ov_ i2_u
  by_cases c : p = m + 7
  · subst c
    simp
  · simp [c]
theorem ov_8 {f g : Nat → Int32} {j : Nat} {x : Int32} : i2_u (ov_ m I f g) (m + 8) j x = ov_ m I f (fun k => if k = j then x else g k) := by
  funext p q
  unfold ov_ i2_u
  by_cases c : p = m + 8
  · subst c
    simp
  · simp [c]
theorem ov_r7 {f g : Nat → Int32} {j : Nat} : ov_ m I f g (m + 7) j = f j := if_pos rfl
theorem ov_r8 {f g : Nat → Int32} {j : Nat} : ov_ m I f g (m + 8) j = g j := by
  unfold ov_
  rw [if_neg (by omega), if_pos rfl]
theorem ov_log {f g : Nat → Int32} {x1 x3 x4 : Int32} {t : Nat} : sp_log (ov_ m I f g) m x1 t x3 x4 = ov_ m (sp_log I m x1 t x3 x4) f g := by
  unfold sp_log
  rw [ov_o (by omega) (by omega), ov_o (by omega) (by omega)]
  split
  · unfold ra_wr ra_T
    rw [ov_o (by omega) (by omega), ov_o (by omega) (by omega)]
    simp only [ov_u (show m + 6 ≠ m + 7 by omega) (show m + 6 ≠ m + 8 by omega), ov_u (show m ≠ m + 7 by omega) (show m ≠ m + 8 by omega)]
  · rfl
theorem ov_bl {f g : Nat → Int32} {x : Int32} {t : Nat} : sp_bl (ov_ m I f g) m t x = ov_ m (sp_bl I m t x) f g := by
  unfold sp_bl
  rw [ov_o (by omega) (by omega), ov_o (by omega) (by omega)]
  split
  · unfold ra_blame
    split
    · rw [ov_u (by omega) (by omega)]
    · rw [ov_u (by omega) (by omega), ov_u (by omega) (by omega), ov_u (by omega) (by omega)]
  · rw [ov_u (by omega) (by omega)]
theorem ov_ga {f g : Nat → Int32} {x : Int32} {t : Nat} : sp_ga (ov_ m I f g) m t x = ov_ m (sp_ga I m t x) f g := by
  unfold sp_ga
  rw [ov_o (by omega) (by omega), ov_o (by omega) (by omega), ov_u (by omega) (by omega), ov_u (by omega) (by omega), ov_u (by omega) (by omega), ov_u (by omega) (by omega), ov_log]
/-- what dragging asks of the ints -/
def dv_ (I : Nat → Nat → Int32) (m n b : Nat) : Prop := I (m + 1) 1 = nI n ∧ n ≤ 400 ∧ (∀ t, t < n → ra_T I m t 4 = -1 ∨ ∃ q, q < t ∧ ra_T I m t 4 = nI q) ∧ (∀ t, t < n → cb_ I m t) ∧ I (m + 1) 3 = nI (cn_ (fun t => decide (ra_T I m t 6 = 5)) n) ∧ lb_ I m b
theorem as1_o {c : Int32} {t a j : Nat} (h : a ≠ m + 1 ∨ (j ≠ 200 + 14 * t + 6 ∧ j ≠ 200 + 14 * t + 13 ∧ j ≠ 3 ∧ j < 5800)) (h' : a ≠ m ∨ (j ≠ 10 ∧ j ≠ 6)) (h6 : a ≠ m + 6) (h4 : a ≠ m + 4) (h5 : a ≠ m + 5) : sp_as1 I m t c a j = I a j := by
  unfold sp_as1
  rw [sp_ga_o (by omega) h' h6, sp_bl_o (by omega) h4 h5]
theorem as1_6 {c : Int32} {t : Nat} (ht : t < 400) : sp_as1 I m t c (m + 1) (200 + 14 * t + 6) = 5 := by
  unfold sp_as1 sp_ga
  rw [sp_log_r, i2_ua (by omega), i2_uj (by omega), i2_at, if_neg, i2_us]
  rintro ⟨-, h⟩
  omega
theorem as1_s {c : Int32} {t t' : Nat} (ht : t < 400) (ht' : t' < 400) : ra_T (sp_as1 I m t c) m t' 6 = if t' = t then 5 else ra_T I m t' 6 := by
  by_cases e : t' = t
  · rw [if_pos e, e]
    exact as1_6 ht
  · rw [if_neg e]
    exact as1_o (by omega) (by omega) (by omega) (by omega) (by omega)
theorem as1_f {c : Int32} {t t' f : Nat} (ht' : t' < 400) (hf : f < 14) (h6 : f ≠ 6) (h13 : f ≠ 13) : ra_T (sp_as1 I m t c) m t' f = ra_T I m t' f := as1_o (by omega) (by omega) (by omega) (by omega) (by omega)
theorem as1_3 {c : Int32} {t a : Nat} (ha : I (m + 1) 3 = nI a) (ha4 : a < 400) : sp_as1 I m t c (m + 1) 3 = nI (a + 1) := by
  unfold sp_as1 sp_ga
  rw [sp_log_r, i2_ua (by omega), i2_us, sp_bl_o (by omega) (by omega) (by omega), ha, nI_clamp (by omega)]
theorem dv_as1 {b t : Nat} {c : Int32} (h : dv_ I m n b) (hb : b < 2000000000) (ht : t < n) (h5 : ra_T I m t 6 = 1) : dv_ (sp_as1 I m t c) m n (b + 1) := by
  obtain ⟨h1, h2, h3, h4, h6, h7⟩ := h
  have hcn := cn_one (p := fun t' => decide (ra_T (sp_as1 I m t c) m t' 6 = 5) && decide (t' < n)) (q := fun t' => decide (ra_T I m t' 6 = 5) && decide (t' < n)) (t := t) (fun i hi => by
    by_cases hin : i < n
    · simp only [hin, decide_true, Bool.and_true]
      rw [as1_s (by omega) (by omega), if_neg hi]
    · simp [hin]) ht
  have e1 : cn_ (fun t' => decide (ra_T (sp_as1 I m t c) m t' 6 = 5) && decide (t' < n)) n = cn_ (fun t' => decide (ra_T (sp_as1 I m t c) m t' 6 = 5)) n := cn_eq (fun i hi => by simp [hi])
  have e2 : cn_ (fun t' => decide (ra_T I m t' 6 = 5) && decide (t' < n)) n = cn_ (fun t' => decide (ra_T I m t' 6 = 5)) n := cn_eq (fun i hi => by simp [hi])
  have e3 : ra_T (sp_as1 I m t c) m t 6 = 5 := as1_6 (by omega)
  rw [e1, e2, e3, h5] at hcn
  simp [ht] at hcn
  have hle : cn_ (fun t' => decide (ra_T (sp_as1 I m t c) m t' 6 = 5)) n ≤ n := cn_le _ _
  refine ⟨(as1_o (by omega) (by omega) (by omega) (by omega) (by omega)).trans h1, h2, fun t' ht' => ?_, fun t' ht' => ?_, ?_, ?_⟩
  · rw [as1_f (by omega) (by omega) (by omega) (by omega)]
    exact h3 t' ht'
  · exact cb_o (cb_bl (h4 t' ht')) (sp_ga_o (by omega) (by omega) (by omega)) (sp_ga_o (by omega) (by omega) (by omega))
  · rw [as1_3 h6 (by omega)]
    congr 1
    omega
  · exact lb_ga (lb_o h7 (sp_bl_o (by omega) (by omega) (by omega)) (sp_bl_o (by omega) (by omega) (by omega)) (Nat.le_refl _)) hb
/-- how many are HELD -/
def hc_ (I : Nat → Nat → Int32) (m n : Nat) : Nat := cn_ (fun t => decide (ra_T I m t 6 = 1)) n
theorem hc_as1 {t : Nat} {c : Int32} (h4 : n ≤ 400) (ht : t < n) (h5 : ra_T I m t 6 = 1) : hc_ (sp_as1 I m t c) m n + 1 = hc_ I m n := by
  have hcn := cn_one (p := fun t' => decide (ra_T (sp_as1 I m t c) m t' 6 = 1) && decide (t' < n)) (q := fun t' => decide (ra_T I m t' 6 = 1) && decide (t' < n)) (t := t) (fun i hi => by
    by_cases hin : i < n
    · simp only [hin, decide_true, Bool.and_true]
      rw [as1_s (by omega) (by omega), if_neg hi]
    · simp [hin]) ht
  have e1 : cn_ (fun t' => decide (ra_T (sp_as1 I m t c) m t' 6 = 1) && decide (t' < n)) n = hc_ (sp_as1 I m t c) m n := cn_eq (fun i hi => by simp [hi])
  have e2 : cn_ (fun t' => decide (ra_T I m t' 6 = 1) && decide (t' < n)) n = hc_ I m n := cn_eq (fun i hi => by simp [hi])
  have e3 : ra_T (sp_as1 I m t c) m t 6 = 5 := as1_6 (by omega)
  rw [e1, e2, e3, h5] at hcn
  simp [ht] at hcn
  exact hcn
def lf_ (lv : List Nat) (j : Nat) : Int32 := if j ∈ lv then 1 else 0
theorem lf_t {lv : List Nat} {j : Nat} (h : j ∈ lv) : lf_ lv j = 1 := if_pos h
theorem lf_f {lv : List Nat} {j : Nat} (h : ¬ j ∈ lv) : lf_ lv j = 0 := if_neg h
theorem sp_p_t {lv : List Nat} {t b : Nat} (h : ra_T I m t 6 = 1) (h4 : ra_T I m t 4 = nI b) (hb : b ∈ lv) : sp_p I m lv t = true := by
  unfold sp_p
  rw [decide_eq_true h, Bool.true_and, List.any_eq_true]
  exact ⟨b, hb, decide_eq_true h4⟩
theorem sp_p_of {lv : List Nat} {t : Nat} (h : sp_p I m lv t = true) : ra_T I m t 6 = 1 ∧ ∃ b, b ∈ lv ∧ ra_T I m t 4 = nI b := by
  unfold sp_p at h
  rw [Bool.and_eq_true, List.any_eq_true] at h
  obtain ⟨h1, b, h2, h3⟩ := h
  exact ⟨of_decide_eq_true h1, b, h2, of_decide_eq_true h3⟩
theorem sp_dr_nil : ∀ (k : Nat) {c : Int32}, sp_dr k I m n [] c = (I, 0)
  | 0, _ => rfl
  | k + 1, c => by
    have e : (List.range n).filter (sp_p I m []) = [] := List.filter_eq_nil_iff.mpr (fun a _ => by simp [sp_p])
    show (_, _) = _
    rw [e]
    have : sp_asd I m [] c = I := rfl
    rw [this, sp_dr_nil k]
    rfl
/-- the second pass over a level -/
theorem rc_drag125 (RK : rf_ok B m) {x1 x2 x3 c : Int32} {lv : List Nat} {b : Nat} (hd : dv_ I m n b) (hb : b + hc_ I m n < 2000000000) {P : Int32 → (Nat → Nat → Int32) → Prop}
    (K : rw_i mt_X11_drags 42 [some (pv_r m), some (pv_i x1), some (pv_i x2), some (pv_i (x3 + nI ((List.range n).filter (sp_p I m lv)).length)), some (pv_i 100), some (pv_i (nI ((List.range n).filter (sp_p I m lv)).length)), none] [] B (ov_ m (sp_asd I m ((List.range n).filter (sp_p I m lv)) c) (fun j => if j < n then lf_ ((List.range n).filter (sp_p I m lv)) j else lf_ lv j) (fun _ => 0)) P) :
    rw_i mt_X11_drags 125 [some (pv_r m), some (pv_i x1), some (pv_i x2), some (pv_i x3), some (pv_i c), some (pv_i (nI ((List.range n).filter (sp_p I m lv)).length)), some (pv_i 0)] [] B (ov_ m I (lf_ lv) (fun j => if j < n then lf_ ((List.range n).filter (sp_p I m lv)) j else 0)) P := by
  have h4 := hd.2.1
  obtain ⟨ts, hts⟩ : ∃ ts, ts = (List.range n).filter (sp_p I m lv) := ⟨_, rfl⟩
  rw [← hts] at K ⊢
  have mem : ∀ j, j ∈ ts ↔ j < n ∧ sp_p I m lv j = true := fun j => by rw [hts, List.mem_filter, List.mem_range]
  have loop : ∀ k s (J : Nat → Nat → Int32) b', s + k = n → dv_ J m n b' → b' + hc_ J m n < 2000000000 → (∀ s' f, s ≤ s' → s' < n → f < 13 → ra_T J m s' f = ra_T I m s' f) → sp_asd J m ((List.range' s k).filter (sp_p I m lv)) c = sp_asd I m ts c →
      rw_i mt_X11_drags 125 [some (pv_r m), some (pv_i x1), some (pv_i x2), some (pv_i x3), some (pv_i c), some (pv_i (nI ts.length)), some (pv_i (nI s))] [] B (ov_ m J (fun j => if j < s then lf_ ts j else lf_ lv j) (fun j => if s ≤ j ∧ j < n then lf_ ts j else 0)) P := by
    intro k
    induction k with
    | zero =>
      intro s J b' hs hJ _ _ hK
      have hs : s = n := by omega
      subst hs
      refine wq_X11_drags_125 RK ⟨fun _ => ?_, fun c => absurd (nI_end (by rw [ov_o (by omega) (by omega)]; exact hJ.1)) c⟩
      have e : sp_asd J m ((List.range' s 0).filter (sp_p I m lv)) c = J := rfl
      rw [e] at hK
      rw [hK, show (fun j => if s ≤ j ∧ j < s then lf_ ts j else 0) = (fun _ => (0 : Int32)) from funext (fun j => if_neg (by omega))]
      exact K
    | succ k ih =>
      intro s J b' hs hJ hb' hT hK
      have hs' : s < n := by omega
      have e8 : ov_ m J (fun j => if j < s then lf_ ts j else lf_ lv j) (fun j => if s ≤ j ∧ j < n then lf_ ts j else 0) (m + 8) s = lf_ ts s := by
        rw [ov_r8]
        exact if_pos ⟨Nat.le_refl _, hs'⟩
      refine wq_X11_drags_125 RK ⟨fun c => absurd c (nI_done (by rw [ov_o (by omega) (by omega)]; exact hJ.1) h4 hs'), fun _ => ⟨s, ⟨rfl, by omega⟩, ?_, fun I2 h2 I3 h3 => ?_⟩⟩
      · rw [e8]
        unfold lf_
        split
        · exact Or.inr rfl
        · exact Or.inl rfl
      · have e3 : I3 = ov_ m J (fun j => if j < s + 1 then lf_ ts j else lf_ lv j) (fun j => if s + 1 ≤ j ∧ j < n then lf_ ts j else 0) := by
          rw [h3, h2, e8, ov_7, ov_8]
          congr 1
          · funext j
            by_cases q : j = s
            · rw [if_pos q, q, if_pos (by omega)]
            · rw [if_neg q]
              by_cases q2 : j < s
              · rw [if_pos q2, if_pos (by omega)]
              · rw [if_neg q2, if_neg (by omega)]
          · funext j
            by_cases q : j = s
            · rw [if_pos q, q, if_neg (by omega)]
            · rw [if_neg q]
              by_cases q2 : s ≤ j ∧ j < n
              · rw [if_pos q2, if_pos (by omega)]
              · rw [if_neg q2, if_neg (by omega)]
        have e7 : I3 (m + 7) s = lf_ ts s := by
          rw [e3, ov_r7]
          exact if_pos (by omega)
        refine ⟨fun c1 => ?_, fun c1 => ?_⟩
        · have hin : s ∈ ts := by
            rw [e7] at c1
            unfold lf_ at c1
            split at c1
            · assumption
            · exact absurd rfl c1
          have hp := ((mem s).mp hin).2
          have h61 : ra_T J m s 6 = 1 := (hT s 6 (Nat.le_refl _) hs' (by decide)).trans (sp_p_of hp).1
          rw [rg_cons hp] at hK
          have hhc := hc_as1 (c := c) h4 hs' h61
          rw [e3]
          refine rc_bl RK (cb_o (hJ.2.2.2.1 s hs') (ov_o (by omega) (by omega)) (ov_o (by omega) (by omega))) rfl (by omega) ?_
          rw [ov_bl]
          have ha : cn_ (fun t => decide (ra_T J m t 6 = 5)) n < 400 := by
            have := cn_lt (p := fun t => decide (ra_T J m t 6 = 5)) (q := fun _ => true) (t := s) (n := n) (fun _ _ _ => rfl) hs' (decide_eq_false (by rw [h61]; decide)) rfl
            have h' : cn_ (fun _ => true) n ≤ n := cn_le _ _
            omega
          refine rc_ga RK (b := b') (a := cn_ (fun t => decide (ra_T J m t 6 = 5)) n) (lb_o hJ.2.2.2.2.2 ?_ ?_ (Nat.le_refl _)) (by omega) ?_ ha rfl (by omega) ?_
          · rw [ov_o (by omega) (by omega), sp_bl_o (by omega) (by omega) (by omega)]
          · rw [ov_o (by omega) (by omega), sp_bl_o (by omega) (by omega) (by omega)]
          · rw [ov_o (by omega) (by omega), sp_bl_o (by omega) (by omega) (by omega)]
            exact hJ.2.2.2.2.1
          · rw [ov_ga]
            exact ih (s + 1) (sp_as1 J m s c) (b' + 1) (by omega) (dv_as1 hJ (by omega) hs' h61) (by omega) (fun s' f h1 h2 h3 => by
              rw [← hT s' f (by omega) h2 h3]
              exact as1_o (by omega) (by omega) (by omega) (by omega) (by omega)) hK
        · have hin : ¬ s ∈ ts := by
            intro q
            rw [e7, lf_t q] at c1
            exact absurd c1 (by decide)
          have hp : sp_p I m lv s = false := by
            cases hq : sp_p I m lv s with
            | false => rfl
            | true => exact absurd ((mem s).mpr ⟨hs', hq⟩) hin
          rw [rg_skip hp] at hK
          rw [e3]
          exact ih (s + 1) J b' (by omega) hJ hb' (fun s' f h1 h2 h3 => hT s' f (by omega) h2 h3) hK
  have := loop n 0 I b (by omega) hd hb (fun _ _ _ _ _ => rfl) (by rw [← rg_0, ← hts])
  rw [show (fun j => if j < 0 then lf_ ts j else lf_ lv j) = lf_ lv from funext (fun j => if_neg (by omega)), show (fun j => if 0 ≤ j ∧ j < n then lf_ ts j else 0) = (fun j => if j < n then lf_ ts j else 0) from funext (fun j => by simp)] at this
  exact this
/-- the first pass over a level -/
theorem rc_drag53 (RK : rf_ok B m) {x1 x2 x3 c : Int32} {lv : List Nat} {b : Nat} (hd : dv_ I m n b) (hlv : ∀ b, b ∈ lv → b < n) {P : Int32 → (Nat → Nat → Int32) → Prop}
    (K : rw_i mt_X11_drags 125 [some (pv_r m), some (pv_i x1), some (pv_i x2), some (pv_i x3), some (pv_i c), some (pv_i (nI ((List.range n).filter (sp_p I m lv)).length)), some (pv_i 0)] [] B (ov_ m I (lf_ lv) (fun j => if j < n then lf_ ((List.range n).filter (sp_p I m lv)) j else 0)) P) :
    rw_i mt_X11_drags 53 [some (pv_r m), some (pv_i x1), some (pv_i x2), some (pv_i x3), some (pv_i c), some (pv_i 0), some (pv_i 0)] [] B (ov_ m I (lf_ lv) (fun _ => 0)) P := by
  have h4 := hd.2.1
  obtain ⟨ts, hts⟩ : ∃ ts, ts = (List.range n).filter (sp_p I m lv) := ⟨_, rfl⟩
  rw [← hts] at K
  have mem : ∀ j, j < n → (j ∈ ts ↔ sp_p I m lv j = true) := fun j hj => by rw [hts, List.mem_filter, List.mem_range]; exact ⟨fun q => q.2, fun q => ⟨hj, q⟩⟩
  have loop : ∀ k s, s + k = n → rw_i mt_X11_drags 53 [some (pv_r m), some (pv_i x1), some (pv_i x2), some (pv_i x3), some (pv_i c), some (pv_i (nI (cn_ (sp_p I m lv) s))), some (pv_i (nI s))] [] B (ov_ m I (lf_ lv) (fun j => if j < s then lf_ ts j else 0)) P := by
    intro k
    induction k with
    | zero =>
      intro s hs
      have hs : s = n := by omega
      subst hs
      refine wq_X11_drags_53 RK ⟨fun _ => ?_, fun c => absurd (nI_end (by rw [ov_o (by omega) (by omega)]; exact hd.1)) c⟩
      rw [cn_len, ← hts]
      exact K
    | succ k ih =>
      intro s hs
      have hs' : s < n := by omega
      have ih := ih (s + 1) (by omega)
      have no : sp_p I m lv s = false → rw_i mt_X11_drags 53 [some (pv_r m), some (pv_i x1), some (pv_i x2), some (pv_i x3), some (pv_i c), some (pv_i (nI (cn_ (sp_p I m lv) s))), some (pv_i (nI (s + 1)))] [] B (ov_ m I (lf_ lv) (fun j => if j < s then lf_ ts j else 0)) P := fun hf => by
        have hin : ¬ s ∈ ts := fun q => by rw [(mem s hs').mp q] at hf; cases hf
        rw [cn_f hf, show (fun j => if j < s + 1 then lf_ ts j else 0) = (fun j => if j < s then lf_ ts j else 0) from funext (fun j => by
          by_cases q : j = s
          · rw [q, if_pos (by omega), if_neg (by omega), lf_f hin]
          · by_cases q2 : j < s
            · rw [if_pos q2, if_pos (by omega)]
            · rw [if_neg q2, if_neg (by omega)])] at ih
        exact ih
      refine wq_X11_drags_53 RK ⟨fun c => absurd c (nI_done (by rw [ov_o (by omega) (by omega)]; exact hd.1) h4 hs'), fun _ => ⟨s, ⟨rfl, by omega⟩, ?_⟩⟩
      rw [ov_o (by omega) (by omega), ov_o (by omega) (by omega)]
      refine ⟨fun c1 => no ?_, fun c1 => ⟨fun c2 => no ?_, fun c2 => ?_⟩⟩
      · unfold sp_p ra_T
        rw [decide_eq_false c1]; rfl
      · cases hq : sp_p I m lv s with
        | false => rfl
        | true =>
          obtain ⟨-, b, hb, e⟩ := sp_p_of hq
          have := hlv b hb
          exact absurd (e.symm.trans c2) (nI_nm (by omega))
      · rcases hd.2.2.1 s hs' with e2 | ⟨q, h1, h2⟩
        · exact absurd e2 c2
        · refine ⟨q, ⟨h2, by omega⟩, ?_⟩
          rw [ov_r7]
          refine ⟨fun c3 I3 h3 => ?_, fun c3 => no ?_⟩
          · have hq : q ∈ lv := by
              unfold lf_ at c3
              split at c3
              · assumption
              · exact absurd rfl c3
            have hp : sp_p I m lv s = true := sp_p_t c1 h2 hq
            have hin : s ∈ ts := (mem s hs').mpr hp
            rw [h3, ov_8, cn_e1 hp, show (fun k => if k = s then (1 : Int32) else if k < s then lf_ ts k else 0) = (fun j => if j < s + 1 then lf_ ts j else 0) from funext (fun j => by
              by_cases q : j = s
              · rw [if_pos q, q, if_pos (by omega), lf_t hin]
              · rw [if_neg q]
                by_cases q2 : j < s
                · rw [if_pos q2, if_pos (by omega)]
                · rw [if_neg q2, if_neg (by omega)])]
            exact ih
          · cases hp : sp_p I m lv s with
            | false => rfl
            | true =>
              obtain ⟨-, b, hb, e⟩ := sp_p_of hp
              have := hlv b hb
              have e2 : b = q := (nI_eq (by omega) (by omega)).mp (e.symm.trans h2)
              rw [← e2, lf_t hb] at c3
              exact absurd c3 (by decide)
  have := loop n 0 (by omega)
  rw [show (fun j => if j < 0 then lf_ ts j else (0 : Int32)) = (fun _ => 0) from funext (fun j => if_neg (by omega))] at this
  exact this
def zr_ (I : Nat → Nat → Int32) (m : Nat) : Prop := ∀ j, I (m + 7) j = 0 ∧ I (m + 8) j = 0
theorem ov_z (h : zr_ I m) : ov_ m I (fun _ => 0) (fun _ => 0) = I := by
  funext a j
  unfold ov_
  split
  · next e => rw [e, (h j).1]
  · split
    · next e => rw [e, (h j).2]
    · rfl
theorem zr_o {J : Nat → Nat → Int32} (h : zr_ I m) (h7 : ∀ j, J (m + 7) j = I (m + 7) j) (h8 : ∀ j, J (m + 8) j = I (m + 8) j) : zr_ J m := fun j => ⟨(h7 j).trans (h j).1, (h8 j).trans (h j).2⟩
theorem zr_as1 {t : Nat} {c : Int32} (h : zr_ I m) : zr_ (sp_as1 I m t c) m := zr_o h (fun _ => as1_o (by omega) (by omega) (by omega) (by omega) (by omega)) (fun _ => as1_o (by omega) (by omega) (by omega) (by omega) (by omega))
theorem asd_ok {c : Int32} (h4 : n ≤ 400) : ∀ {ts : List Nat} {I : Nat → Nat → Int32} {b : Nat}, ts.Nodup → (∀ t, t ∈ ts → t < n ∧ ra_T I m t 6 = 1) → dv_ I m n b → zr_ I m → b + hc_ I m n < 2000000000 → hc_ (sp_asd I m ts c) m n + ts.length = hc_ I m n ∧ dv_ (sp_asd I m ts c) m n (b + ts.length) ∧ zr_ (sp_asd I m ts c) m
  | [], I, b, _, _, hd, hz, _ => ⟨rfl, hd, hz⟩
  | t :: ts, I, b, hn, hm, hd, hz, hb => by
    have ht := hm t List.mem_cons_self
    have hn' := List.nodup_cons.mp hn
    have e := hc_as1 (c := c) h4 ht.1 ht.2
    have ih := asd_ok (c := c) h4 (ts := ts) (I := sp_as1 I m t c) (b := b + 1) hn'.2 (fun t' ht' => by
      have h2 := hm t' (List.mem_cons_of_mem _ ht')
      refine ⟨h2.1, ?_⟩
      rw [as1_s (by omega) (by omega), if_neg (show ¬ t' = t from fun q => hn'.1 (by rw [← q]; exact ht'))]
      exact h2.2) (dv_as1 hd (by omega) ht.1 ht.2) (zr_as1 hz) (by omega)
    show hc_ (sp_asd (sp_as1 I m t c) m ts c) m n + (ts.length + 1) = _ ∧ dv_ (sp_asd (sp_as1 I m t c) m ts c) m n (b + (ts.length + 1)) ∧ zr_ (sp_asd (sp_as1 I m t c) m ts c) m
    refine ⟨by omega, ?_, ih.2.2⟩
    rw [show b + (ts.length + 1) = b + 1 + ts.length by omega]
    exact ih.2.1
theorem rg_nd {p : Nat → Bool} : ((List.range n).filter p).Nodup := List.Nodup.sublist List.filter_sublist List.nodup_range
theorem rc_drag42 (RK : rf_ok B m) {x1 x2 : Int32} {P : Int32 → (Nat → Nat → Int32) → Prop} : ∀ (k : Nat) {I : Nat → Nat → Int32} {lv : List Nat} {c x3 x5 : Int32} {b : Nat}, dv_ I m n b → zr_ I m → b + hc_ I m n < 2000000000 → (∀ b, b ∈ lv → b < n) → hc_ I m n < k → ¬ x5 ≤ 0 → P (x3 + nI (sp_dr k I m n lv c).2) (sp_dr k I m n lv c).1 →
    rw_i mt_X11_drags 42 [some (pv_r m), some (pv_i x1), some (pv_i x2), some (pv_i x3), some (pv_i c), some (pv_i x5), none] [] B (ov_ m I (lf_ lv) (fun _ => 0)) P
  | 0, I, lv, c, x3, x5, b, _, _, _, _, hk, _, _ => by omega
  | k + 1, I, lv, c, x3, x5, b, hd, hz, hb, hlv, hk, h5, K => by
    refine wq_X11_drags_42 RK ⟨fun q => absurd q h5, fun _ => rc_drag53 RK hd hlv (rc_drag125 RK hd hb ?_)⟩
    have K : P (x3 + nI (((List.range n).filter (sp_p I m lv)).length + (sp_dr k (sp_asd I m ((List.range n).filter (sp_p I m lv)) c) m n ((List.range n).filter (sp_p I m lv)) 100).2)) (sp_dr k (sp_asd I m ((List.range n).filter (sp_p I m lv)) c) m n ((List.range n).filter (sp_p I m lv)) 100).1 := K
    obtain ⟨ts, hts⟩ : ∃ ts, ts = (List.range n).filter (sp_p I m lv) := ⟨_, rfl⟩
    have hnd : ts.Nodup := by rw [hts]; exact rg_nd
    have mem : ∀ j, j ∈ ts → j < n ∧ ra_T I m j 6 = 1 := fun j hj => by
      rw [hts, List.mem_filter, List.mem_range] at hj
      exact ⟨hj.1, (sp_p_of hj.2).1⟩
    rw [← hts] at K ⊢
    obtain ⟨o1, o2, o3⟩ := asd_ok (c := c) hd.2.1 hnd mem hd hz hb
    have ef : (fun j => if j < n then lf_ ts j else lf_ lv j) = lf_ ts := funext (fun j => by
      by_cases q : j < n
      · rw [if_pos q]
      · rw [if_neg q, lf_f (fun z => q (hlv j z)), lf_f (fun z => q (mem j z).1)])
    rw [ef]
    by_cases hne : ts = []
    · subst hne
      refine wq_X11_drags_42 RK ⟨fun _ => ?_, fun q => absurd (by decide) q⟩
      rw [sp_dr_nil] at K
      rw [show lf_ [] = (fun _ => (0 : Int32)) from funext (fun j => lf_f List.not_mem_nil), ov_z o3]
      exact K
    · have hpos : 0 < ts.length := List.length_pos_iff.mpr hne
      have hle : ts.length ≤ hc_ I m n := by omega
      refine rc_drag42 RK k o2 o3 (by omega) (fun j hj => (mem j hj).1) (by omega) (nI_nle hpos (by omega)) ?_
      rw [Int32.add_assoc, nI_add]
      exact K
def sp_drags (I : Nat → Nat → Int32) (m n t : Nat) (c : Int32) : (Nat → Nat → Int32) × Nat := sp_dr 401 I m n [t] c
theorem rc_drags (RK : rf_ok B m) {b t : Nat} {x1 c : Int32} (hd : dv_ I m n b) (hz : zr_ I m) (hb : b + hc_ I m n < 2000000000) (h1 : x1 = nI t) (ht : t < n) {P : Int32 → (Nat → Nat → Int32) → Prop} (K : P (nI (sp_drags I m n t c).2) (sp_drags I m n t c).1) : rs_i mt_X11_drags [pv_r m, pv_i x1, pv_i c] B I P := by
  subst h1
  have h4 := hd.2.1
  refine wq_X11_drags_0 RK ?_
  have loop : ∀ k s, s + k = n → rw_i mt_X11_drags 2 [some (pv_r m), some (pv_i (nI t)), some (pv_i c), some (pv_i (nI s)), none, none, none] [] B (ov_ m I (fun j => if j < s then lf_ [t] j else 0) (fun _ => 0)) P := by
    intro k
    induction k with
    | zero =>
      intro s hs
      have hs : s = n := by omega
      subst hs
      refine wq_X11_drags_2 RK ⟨fun _ => ?_, fun c => absurd (nI_end (by rw [ov_o (by omega) (by omega)]; exact hd.1)) c⟩
      rw [show (fun j => if j < s then lf_ [t] j else 0) = lf_ [t] from funext (fun j => by
        by_cases q : j < s
        · rw [if_pos q]
        · rw [if_neg q, lf_f (by simp; omega)])]
      have hc : hc_ I m s ≤ s := cn_le _ _
      refine rc_drag42 RK 401 hd hz hb (fun j hj => by simp at hj; omega) (by omega) (by decide) ?_
      rw [Int32.zero_add]
      exact K
    | succ k ih =>
      intro s hs
      have ih := ih (s + 1) (by omega)
      have st : ∀ v : Int32, v = lf_ [t] s → i2_u (ov_ m I (fun j => if j < s then lf_ [t] j else 0) (fun _ => 0)) (m + 7) s v = ov_ m I (fun j => if j < s + 1 then lf_ [t] j else 0) (fun _ => 0) := fun v hv => by
        rw [ov_7]
        congr 1
        funext j
        by_cases q : j = s
        · rw [if_pos q, q, if_pos (by omega), hv]
        · rw [if_neg q]
          by_cases q2 : j < s
          · rw [if_pos q2, if_pos (by omega)]
          · rw [if_neg q2, if_neg (by omega)]
      refine wq_X11_drags_2 RK ⟨fun c => absurd c (nI_done (by rw [ov_o (by omega) (by omega)]; exact hd.1) h4 (by omega)), fun _ => ⟨fun c1 => ⟨s, ⟨rfl, by omega⟩, fun I2 h2 => ?_⟩, fun c1 => ⟨s, ⟨rfl, by omega⟩, fun I2 h2 => ?_⟩⟩⟩
      · rw [h2, st _ (lf_f (by simp; intro q; rw [q] at c1; exact c1 rfl)).symm]
        exact ih
      · rw [h2, st _ (lf_t (by simp; exact (nI_eq (by omega) (by omega)).mp c1)).symm]
        exact ih
  have := loop n 0 (by omega)
  rw [show (fun j => if j < 0 then lf_ [t] j else (0 : Int32)) = (fun _ => 0) from funext (fun j => if_neg (by omega)), ov_z hz] at this
  exact this
end Drag
