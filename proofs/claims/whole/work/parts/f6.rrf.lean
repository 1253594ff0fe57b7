/-! the run on paper in the reference: completing -/
section Rrf
variable {B : mm_T} {I J N : Nat → Nat → Int32} {m n Pb t w X : Nat} {en : Nat → Int32} {pb : Int32}
/-- who is at the trial's workers -/
def mt_ (N : fI) (m n w : Nat) (J : fI) (en : Nat → Int32) : Prop := (∀ k, k < w → N (m + 9) k = -1 ∨ ∃ t, t < n ∧ N (m + 9) k = nI t ∧ ra_T J m t 6 = 3 ∧ N (m + 10) k = en t) ∧ (∀ k k', k < w → k' < w → N (m + 9) k = N (m + 9) k' → ¬ N (m + 9) k = -1 → k = k') ∧ (∀ t, t < n → ra_T J m t 6 = 3 → ∃ k, k < w ∧ N (m + 9) k = nI t) ∧ cn_ (fun k => decide (N (m + 9) k = -1)) w + ou_ J m n = w
def rq_ (N : fI) (m n w : Nat) (J : fI) (en : Nat → Int32) : Prop := N (m + 1) = J (m + 1) ∧ N m 8 = 1 ∧ mt_ N m n w J en
def nd_ (N : fI) (m w : Nat) : Option Nat := bs_ (fun k => decide (¬ N (m + 9) k = -1 ∧ ¬ N (m + 1) 0 < N (m + 10) k)) (fun a b => decide (N (m + 9) a < N (m + 9) b)) w
theorem rc_nd (RK : rf_ok B m) (hw6 : w ≤ 6) {P : Int32 → fI → Prop} (K : P (io_ (nd_ N m w)) N) : rs_i mt_X11_nextDone [pv_r m, pv_i (nI w)] B N P := by
  refine wq_X11_nextDone_0 RK ?_
  have loop : ∀ k t, t + k = w → rw_i mt_X11_nextDone 4 [some (pv_r m), some (pv_i (nI w)), some (pv_i (io_ (nd_ N m t))), some (pv_i (nI t))] [] B N P := by
    intro k
    induction k with
    | zero =>
      intro t ht
      have ht : t = w := by omega
      subst ht
      exact wq_X11_nextDone_4 RK ⟨fun _ => K, fun c => absurd (Int32.le_refl _) c⟩
    | succ k ih =>
      intro t ht
      have ih := ih (t + 1) (by omega)
      unfold nd_ at ih ⊢
      refine wq_X11_nextDone_4 RK ⟨fun c => absurd c (nI_ge (by omega) (by omega)), fun _ => ⟨t, ⟨rfl, by omega⟩, fun c => ?_, fun c => ⟨fun c2 => ?_, fun c2 => ?_⟩⟩⟩
      · rw [bs_f (decide_eq_false (fun q => q.1 c))] at ih
        exact ih
      · rw [bs_f (decide_eq_false (fun q => q.2 c2))] at ih
        exact ih
      · have hp : (fun k => decide (¬ N (m + 9) k = -1 ∧ ¬ N (m + 1) 0 < N (m + 10) k)) t = true := decide_eq_true ⟨c, c2⟩
        cases hb : bs_ (fun k => decide (¬ N (m + 9) k = -1 ∧ ¬ N (m + 1) 0 < N (m + 10) k)) (fun a b => decide (N (m + 9) a < N (m + 9) b)) t with
        | none =>
          rw [bs_n hp hb] at ih
          exact ⟨fun _ => ih, fun c2 => absurd rfl c2⟩
        | some q =>
          have hq := (bs_lt hb).1
          rw [bs_s hp hb] at ih
          refine ⟨fun c2 => absurd c2 (nI_nm (by omega)), fun _ => ⟨q, ⟨rfl, by omega⟩, fun c3 => ?_, fun c3 => ?_⟩⟩
          · rw [if_neg (show ¬ decide (N (m + 9) t < N (m + 9) q) = true from fun z => Int32.not_lt.mpr c3 (of_decide_eq_true z))] at ih
            exact ih
          · rw [if_pos (show decide (N (m + 9) t < N (m + 9) q) = true from decide_eq_true (Int32.not_le.mp c3))] at ih
            exact ih
  exact loop w 0 (by omega)
theorem rg_hd {p : Nat → Bool} {t : Nat} {ts : List Nat} (h : (List.range n).filter p = t :: ts) : ∀ x, x ∈ ts → t < x := by
  have hp : ((List.range n).filter p).Pairwise (· < ·) := List.Pairwise.filter _ List.pairwise_lt_range
  rw [h, List.pairwise_cons] at hp
  exact hp.1
theorem mt_due (h : mt_ N m n w J en) (h4 : n ≤ 400) {k : Nat} (hk : k < w) (hb : ¬ N (m + 9) k = -1) : ∃ t, t < n ∧ N (m + 9) k = nI t ∧ ra_T J m t 6 = 3 ∧ N (m + 10) k = en t := (h.1 k hk).resolve_left hb
theorem mt_of (h : mt_ N m n w J en) (h4 : n ≤ 400) {t : Nat} (ht : t < n) (h3 : ra_T J m t 6 = 3) : ∃ k, k < w ∧ N (m + 9) k = nI t ∧ N (m + 10) k = en t := by
  obtain ⟨k, k1, k2⟩ := h.2.2.1 t ht h3
  obtain ⟨t', t1, t2, t3, t4⟩ := mt_due h h4 k1 (by rw [k2]; exact nI_nm (by omega))
  rw [k2, nI_eq (by omega) (by omega)] at t2
  rw [← t2] at t4
  exact ⟨k, k1, k2, t4⟩
theorem nd_nil (h : rq_ N m n w J en) (h4 : n ≤ 400) (hts : dl_ J m n en = []) : nd_ N m w = none := by
  cases e : nd_ N m w with
  | none => rfl
  | some k =>
    have hk := bs_lt e
    have hp := of_decide_eq_true hk.2
    obtain ⟨t', t1, t2, t3, t4⟩ := mt_due h.2.2 h4 hk.1 hp.1
    have : t' ∈ dl_ J m n en := dl_mem t1 t3 (by rw [← t4, ← h.1]; exact hp.2)
    rw [hts] at this
    cases this
theorem nd_cons (h : rq_ N m n w J en) (h4 : n ≤ 400) {ts : List Nat} (hts : dl_ J m n en = t :: ts) : ∃ k, nd_ N m w = some k ∧ k < w ∧ N (m + 9) k = nI t := by
  obtain ⟨t1, t2, t3⟩ := dl_m (J := J) (m := m) (n := n) (en := en) (t := t) (by rw [hts]; exact List.mem_cons_self)
  obtain ⟨k2, a1, a2, a3⟩ := mt_of h.2.2 h4 t1 t2
  have hp2 : (fun k => decide (¬ N (m + 9) k = -1 ∧ ¬ N (m + 1) 0 < N (m + 10) k)) k2 = true := decide_eq_true ⟨by rw [a2]; exact nI_nm (by omega), by rw [a3, h.1]; exact t3⟩
  cases e : nd_ N m w with
  | none =>
    have := bs_none e k2 a1
    exact absurd (of_decide_eq_true hp2) (of_decide_eq_false this)
  | some k =>
    have hk := bs_lt e
    have hp := of_decide_eq_true hk.2
    obtain ⟨t', b1, b2, b3, b4⟩ := mt_due h.2.2 h4 hk.1 hp.1
    have hin : t' ∈ dl_ J m n en := dl_mem b1 b3 (by rw [← b4, ← h.1]; exact hp.2)
    have hmin := bs_min (f := fun k => N (m + 9) k) e k2 a1 hp2
    have hmin : ¬ nI t < nI t' := by rw [← a2, ← b2]; exact hmin
    rw [nI_ltI (by omega) (by omega)] at hmin
    have : t' = t := by
      rw [hts] at hin
      rcases List.mem_cons.mp hin with z | z
      · exact z
      · have := rg_hd hts t' z
        omega
    exact ⟨k, rfl, hk.1, by rw [b2, this]⟩
theorem fre_tf (hb : rb_ N m n pb) (h8 : N m 8 = 1) (h4 : n ≤ 400) : (∀ a j, a ≠ m + 1 → sp_frees N m n t a j = N a j) := by
  have f1 : ∀ {ts : List Nat} {K : fI}, (∀ x, x ∈ ts → x < n) → rb_ K m n pb → K m 8 = 1 → ∀ a j, a ≠ m + 1 → sp_frs K m n ts a j = K a j := by
    intro ts
    induction ts with
    | nil => exact fun _ _ _ _ _ _ => rfl
    | cons y ts ih =>
      intro K hm hk h8 a j q
      have hy := hm y List.mem_cons_self
      have e1 : ∀ a j, a ≠ m + 1 → sp_fr1 K m n y a j = K a j := fun a j q => by
        have h8' : sp_wt K m n y m 8 = 1 := (sp_wt_o hk hy (by omega)).trans h8
        unfold sp_fr1 sp_log
        rw [if_neg (by rw [h8']; decide)]
        exact sp_wt_o hk hy (Or.inl q)
      show sp_frs (sp_fr1 K m n y) m n ts a j = _
      rw [ih (fun x hx => hm x (List.mem_cons_of_mem _ hx)) (rb_fr1 hk hy) ((e1 _ _ (by omega)).trans h8) a j q]
      exact e1 a j q
  intro a j q
  unfold sp_frees
  rw [f1 (fun x hx => (hs_lt hx).1) (rb_T6 hb) ((i2_ua (by omega)).trans h8) a j q]
  exact i2_ua q
/-- one is done -/
theorem mt_fre (h : mt_ N m n w J en) (h4 : n ≤ 400) (hb : rb_ J m n pb) {k : Nat} (hk : k < w) (hkt : N (m + 9) k = nI t) (ht : t < n) (h3 : ra_T J m t 6 = 3) {N' : fI} (e9 : ∀ i, N' (m + 9) i = if i = k then -1 else N (m + 9) i) (e10 : ∀ i, N' (m + 10) i = N (m + 10) i) : mt_ N' m n w (sp_frees J m n t) en := by
  have f3 : ∀ x, x ≠ t → (ra_T (sp_frees J m n t) m x 6 = 3 ↔ ra_T J m x 6 = 3) := fun x hx => by
    rw [fre_6 hb]
    by_cases z : x < n ∧ x ≠ t ∧ ra_T J m x 6 = 1 ∧ ra_T J m x 4 = nI t
    · rw [if_pos z, z.2.2.1]
      decide
    · rw [if_neg z, if_neg hx]
  have ft : ¬ ra_T (sp_frees J m n t) m t 6 = 3 := by
    rw [fre_6 hb, if_neg (fun q => q.2.1 rfl), if_pos rfl]
    decide
  refine ⟨fun i hi => ?_, fun i i' hi hi' q1 q2 => ?_, fun x hx q => ?_, ?_⟩
  · rw [e9, e10]
    by_cases z : i = k
    · exact Or.inl (if_pos z)
    · rw [if_neg z]
      rcases h.1 i hi with y | ⟨x, x1, x2, x3, x4⟩
      · exact Or.inl y
      · refine Or.inr ⟨x, x1, x2, (f3 x (fun q => z ?_)).mpr x3, x4⟩
        exact h.2.1 i k hi hk (by rw [x2, hkt, q]) (by rw [x2]; exact nI_nm (by omega))
  · rw [e9] at q1 q2
    rw [e9] at q1
    by_cases z : i = k
    · rw [if_pos z] at q2
      exact absurd rfl q2
    · rw [if_neg z] at q1 q2
      by_cases z' : i' = k
      · rw [if_pos z'] at q1
        exact absurd q1 q2
      · rw [if_neg z'] at q1
        exact h.2.1 i i' hi hi' q1 q2
  · have hx3 : x ≠ t := fun z => ft (z ▸ q)
    obtain ⟨i, i1, i2⟩ := h.2.2.1 x hx ((f3 x hx3).mp q)
    refine ⟨i, i1, ?_⟩
    rw [e9, if_neg (fun z => hx3 ?_)]
    · exact i2
    · rw [z, hkt, nI_eq (by omega) (by omega)] at i2
      exact i2.symm
  · have c := cn_one (p := fun i => decide (N' (m + 9) i = -1)) (q := fun i => decide (N (m + 9) i = -1)) (t := k) (fun i hi => by
      show decide _ = decide _
      rw [e9, if_neg hi]) hk
    rw [e9, if_pos rfl, hkt, if_pos (show decide ((-1 : Int32) = -1) = true by decide), if_neg (show ¬ decide (nI t = -1) = true from fun z => nI_nm (by omega) (of_decide_eq_true z))] at c
    have := ou_fre hb ht h3
    have := h.2.2.2
    omega
end Rrf
