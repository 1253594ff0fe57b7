section Rc2
variable {B : mm_T} {I : Nat → Nat → Int32} {m n : Nat}
theorem nI_done {t n : Nat} {x : Int32} (hn : x = nI n) (h4 : n ≤ 400) (h : t < n) : ¬ x ≤ nI t := by rw [hn]; exact nI_ge h (by omega)
theorem nI_end {x : Int32} (hn : x = nI n) : x ≤ nI n := by rw [hn]; exact Int32.le_refl _
theorem kt_ {b : Bool} {P : Int32 → (Nat → Nat → Int32) → Prop} (K : P (if b = true then 1 else 0) I) (h : b = true) : P 1 I := by rw [if_pos h] at K; exact K
theorem kf_ {b : Bool} {P : Int32 → (Nat → Nat → Int32) → Prop} (K : P (if b = true then 1 else 0) I) (h : b = false) : P 0 I := by rw [if_neg (by rw [h]; decide)] at K; exact K
def ra_st (I : Nat → Nat → Int32) (m : Nat) (x1 : Int32) (t : Nat) : Bool := decide ((x1 = -1 ∨ ra_T I m t 0 = x1) ∧ ra_T I m t 6 ≤ 3)
theorem rc_standing (RK : rf_ok B m) (hn : I (m + 1) 1 = nI n) (h4 : n ≤ 400) {x1 : Int32} {P : Int32 → (Nat → Nat → Int32) → Prop} (K : P (nI (cn_ (ra_st I m x1) n)) I) : rs_i mt_X11_standing [pv_r m, pv_i x1] B I P := by
  refine wq_X11_standing_0 RK ?_
  have loop : ∀ k t, t + k = n → rw_i mt_X11_standing 4 [some (pv_r m), some (pv_i x1), some (pv_i (nI (cn_ (ra_st I m x1) t))), some (pv_i (nI t))] [] B I P := by
    intro k
    induction k with
    | zero =>
      intro t ht
      have ht : t = n := by omega
      subst ht
      exact wq_X11_standing_4 RK ⟨fun _ => K, fun c => absurd (nI_end hn) c⟩
    | succ k ih =>
      intro t ht
      refine wq_X11_standing_4 RK ⟨fun c => absurd c (nI_done hn h4 (by omega)), fun _ => ⟨fun h1 => ⟨t, ⟨rfl, by omega⟩, fun c => ?_, fun c => ?_⟩, fun h1 => ⟨t, ⟨rfl, by omega⟩, fun c => ?_, fun c => ⟨fun c2 => ?_, fun c2 => ?_⟩⟩⟩⟩
      · rw [cn_e1 (by simp only [ra_st, ra_T, h1, true_or, true_and]; exact decide_eq_true c)]; exact ih _ (by omega)
      · rw [cn_e0 (by simp only [ra_st, ra_T, h1, true_or, true_and]; exact decide_eq_false c)]; exact ih _ (by omega)
      · rw [cn_e0 (decide_eq_false (fun q => q.1.elim h1 c))]; exact ih _ (by omega)
      · rw [cn_e1 (decide_eq_true ⟨Or.inr c, c2⟩)]; exact ih _ (by omega)
      · rw [cn_e0 (decide_eq_false (fun q => c2 q.2))]; exact ih _ (by omega)
  exact loop n 0 (by omega)
/-- it waits in the lane x1 -/
def ra_wt (I : Nat → Nat → Int32) (m : Nat) (x1 : Int32) (t : Nat) : Bool := decide (ra_T I m t 0 = x1 ∧ ra_T I m t 6 = 0)
def ra_live (I : Nat → Nat → Int32) (m n : Nat) (x1 : Int32) : Bool := decide (0 < cn_ (ra_wt I m x1) n)
theorem rc_isLive (RK : rf_ok B m) (hn : I (m + 1) 1 = nI n) (h4 : n ≤ 400) {x1 : Int32} {P : Int32 → (Nat → Nat → Int32) → Prop} (K : P (if ra_live I m n x1 = true then 1 else 0) I) : rs_i mt_X11_isLive [pv_r m, pv_i x1] B I P := by
  refine wq_X11_isLive_0 RK ?_
  have loop : ∀ k t, t + k = n → (∀ i, i < t → ra_wt I m x1 i = false) → rw_i mt_X11_isLive 2 [some (pv_r m), some (pv_i x1), some (pv_i (nI t))] [] B I P := by
    intro k
    induction k with
    | zero =>
      intro t ht hf
      have ht : t = n := by omega
      subst ht
      refine wq_X11_isLive_2 RK ⟨fun _ => ?_, fun c => absurd (nI_end hn) c⟩
      exact kf_ K (by unfold ra_live; rw [cn_0 hf]; rfl)
    | succ k ih =>
      intro t ht hf
      have nx : ra_wt I m x1 t = false → rw_i mt_X11_isLive 2 [some (pv_r m), some (pv_i x1), some (pv_i (nI (t + 1)))] [] B I P := fun h => ih _ (by omega) (fun i hi => by
        rcases Nat.lt_or_ge i t with q | q
        · exact hf i q
        · rw [show i = t by omega]; exact h)
      refine wq_X11_isLive_2 RK ⟨fun c => absurd c (nI_done hn h4 (by omega)), fun _ => ⟨t, ⟨rfl, by omega⟩, fun c => nx (decide_eq_false (fun q => c q.1)), fun c => ⟨fun c2 => nx (decide_eq_false (fun q => c2 q.2)), fun c2 => ?_⟩⟩⟩
      exact kt_ K (decide_eq_true (cn_pos (t := t) (decide_eq_true ⟨c, c2⟩) (by omega)))
  exact loop n 0 (by omega) (fun i hi => by omega)
def ra_ah (I : Nat → Nat → Int32) (m a b : Nat) : Bool := decide (ra_rank I m b < ra_rank I m a ∨ (ra_rank I m a = ra_rank I m b ∧ a < b))
theorem rc_isAheadOf (RK : rf_ok B m) {a b : Nat} {x1 x2 : Int32} (h1 : x1 = nI a) (h2 : x2 = nI b) (ha : a < 400) (hb : b < 400) {P : Int32 → (Nat → Nat → Int32) → Prop} (K : P (if ra_ah I m a b = true then 1 else 0) I) : rs_i mt_X11_isAheadOf [pv_r m, pv_i x1, pv_i x2] B I P := by
  subst h1
  subst h2
  refine wq_X11_isAheadOf_0 RK ⟨a, ⟨rfl, ha⟩, b, ⟨rfl, hb⟩, fun c => ?_, fun c => ⟨fun c2 => ?_, fun c2 => ⟨fun c3 => ?_, fun c3 => ?_⟩⟩⟩
  · exact kt_ K (decide_eq_true (Or.inl c))
  · exact kf_ K (decide_eq_false (fun q => q.elim c (fun q => c2 q.1)))
  · have h : ¬ a < b := fun q => absurd c3 (nI_ge q (by omega))
    exact kf_ K (decide_eq_false (fun q => q.elim c (fun q => h q.2)))
  · have h : a < b := by
      rcases Nat.lt_or_ge a b with q | q
      · exact q
      · exact absurd (nI_le q (by omega)) c3
    exact kt_ K (decide_eq_true (Or.inr ⟨c2, h⟩))
theorem bl_1 {b : Bool} (h : ¬ (if b = true then (1 : Int32) else 0) = 0) : b = true := by
  cases b with
  | true => rfl
  | false => exact absurd rfl h
theorem bl_0 {b : Bool} (h : (if b = true then (1 : Int32) else 0) = 0) : b = false := by
  cases b with
  | true => exact absurd h (by decide)
  | false => rfl
/-- the first of a lane -/
def ra_first (I : Nat → Nat → Int32) (m n : Nat) (x1 : Int32) : Option Nat := bs_ (ra_wt I m x1) (ra_ah I m) n
theorem rc_firstOf (RK : rf_ok B m) (hn : I (m + 1) 1 = nI n) (h4 : n ≤ 400) {x1 : Int32} {P : Int32 → (Nat → Nat → Int32) → Prop} (K : P (io_ (ra_first I m n x1)) I) : rs_i mt_X11_firstOf [pv_r m, pv_i x1] B I P := by
  refine wq_X11_firstOf_0 RK ?_
  have loop : ∀ k t, t + k = n → rw_i mt_X11_firstOf 4 [some (pv_r m), some (pv_i x1), some (pv_i (io_ (bs_ (ra_wt I m x1) (ra_ah I m) t))), some (pv_i (nI t))] [] B I P := by
    intro k
    induction k with
    | zero =>
      intro t ht
      have ht : t = n := by omega
      subst ht
      exact wq_X11_firstOf_4 RK ⟨fun _ => K, fun c => absurd (nI_end hn) c⟩
    | succ k ih =>
      intro t ht
      have ih := ih (t + 1) (by omega)
      refine wq_X11_firstOf_4 RK ⟨fun c => absurd c (nI_done hn h4 (by omega)), fun _ => ⟨t, ⟨rfl, by omega⟩, fun c => ?_, fun c => ⟨fun c2 => ?_, fun c2 => ?_⟩⟩⟩
      · rw [bs_f (decide_eq_false (fun q => c q.1))] at ih; exact ih
      · rw [bs_f (decide_eq_false (fun q => c2 q.2))] at ih; exact ih
      · have hp : ra_wt I m x1 t = true := decide_eq_true ⟨c, c2⟩
        cases hb : bs_ (ra_wt I m x1) (ra_ah I m) t with
        | none =>
          rw [bs_n hp hb] at ih
          exact ⟨fun _ => ih, fun c3 => absurd rfl c3⟩
        | some q =>
          have hq := (bs_lt hb).1
          rw [bs_s hp hb] at ih
          refine ⟨fun c3 => absurd c3 (nI_nm (by omega)), fun _ => rc_isAheadOf RK rfl rfl (by omega) (by omega) ⟨fun c4 => ?_, fun c4 => ?_⟩⟩
          · rw [if_neg (by rw [bl_0 c4]; decide)] at ih; exact ih
          · rw [if_pos (bl_1 c4)] at ih; exact ih
  exact loop n 0 (by omega)
def ra_kst (I : Nat → Nat → Int32) (m : Nat) (x1 : Int32) (t : Nat) : Bool := decide (ra_T I m t 3 = x1 ∧ ra_T I m t 6 ≤ 3)
theorem rc_standsWith (RK : rf_ok B m) (hn : I (m + 1) 1 = nI n) (h4 : n ≤ 400) {x1 : Int32} {P : Int32 → (Nat → Nat → Int32) → Prop} (K : P (io_ (fi_ (ra_kst I m x1) n 0)) I) : rs_i mt_X11_standsWith [pv_r m, pv_i x1] B I P := by
  refine wq_X11_standsWith_0 RK ?_
  have loop : ∀ k t, t + k = n → P (io_ (fi_ (ra_kst I m x1) k t)) I → rw_i mt_X11_standsWith 2 [some (pv_r m), some (pv_i x1), some (pv_i (nI t))] [] B I P := by
    intro k
    induction k with
    | zero =>
      intro t ht hf
      have ht : t = n := by omega
      subst ht
      exact wq_X11_standsWith_2 RK ⟨fun _ => hf, fun c => absurd (nI_end hn) c⟩
    | succ k ih =>
      intro t ht hf
      have nx : ra_kst I m x1 t = false → rw_i mt_X11_standsWith 2 [some (pv_r m), some (pv_i x1), some (pv_i (nI (t + 1)))] [] B I P := fun h => ih _ (by omega) (by rw [fi_f h] at hf; exact hf)
      refine wq_X11_standsWith_2 RK ⟨fun c => absurd c (nI_done hn h4 (by omega)), fun _ => ⟨t, ⟨rfl, by omega⟩, fun c => nx (decide_eq_false (fun q => c q.1)), fun c => ⟨fun c2 => ?_, fun c2 => nx (decide_eq_false (fun q => c2 q.2))⟩⟩⟩
      rw [fi_t (decide_eq_true ⟨c, c2⟩)] at hf
      exact hf
  exact loop n 0 (by omega) K
theorem rc_hasRoom (RK : rf_ok B m) (hn : I (m + 1) 1 = nI n) (h4 : n ≤ 400) {x1 : Int32} {l : Nat} (h1 : x1 = nI l) (hl : l < 5) {P : Int32 → (Nat → Nat → Int32) → Prop} (K : P (if ra_L I m l 1 ≤ nI (cn_ (ra_st I m (nI l)) n) then 0 else 1) I) : rs_i mt_X11_hasRoom [pv_r m, pv_i x1] B I P := by
  subst h1
  refine wq_X11_hasRoom_0 RK (rc_standing RK hn h4 ⟨l, ⟨rfl, hl⟩, fun c => ?_, fun c => ?_⟩)
  · rw [if_pos (show ra_L I m l 1 ≤ _ from c)] at K; exact K
  · rw [if_neg (show ¬ ra_L I m l 1 ≤ _ from c)] at K; exact K
theorem rc_isBanned (RK : rf_ok B m) {x1 : Int32} {k : Nat} (h1 : x1 = nI k) (hk : k < 10000) {P : Int32 → (Nat → Nat → Int32) → Prop} (K : P (if I (m + 3) k < I (m + 1) 9 then 0 else 1) I) : rs_i mt_X11_isBanned [pv_r m, pv_i x1] B I P :=
  wq_X11_isBanned_0 RK ⟨k, ⟨h1, hk⟩, fun c => by rw [if_pos c] at K; exact K, fun c => by rw [if_neg c] at K; exact K⟩
/-- behind which one comes, if any -/
def ra_held (I : Nat → Nat → Int32) (m t : Nat) : Bool := decide (¬ ra_T I m t 4 = -1 ∧ ¬ ra_T I m (ra_T I m t 4).toNatClampNeg 6 = 4)
theorem rc_isHeldBack (RK : rf_ok B m) {x1 : Int32} {t : Nat} (h1 : x1 = nI t) (ht : t < 400) (hb : ¬ ra_T I m t 4 = -1 → ∃ b, ra_T I m t 4 = nI b ∧ b < 400) {P : Int32 → (Nat → Nat → Int32) → Prop} (K : P (if ra_held I m t = true then 1 else 0) I) : rs_i mt_X11_isHeldBack [pv_r m, pv_i x1] B I P := by
  refine wq_X11_isHeldBack_0 RK ⟨t, ⟨h1, ht⟩, fun c => ?_, fun c => ?_⟩
  · exact kf_ K (decide_eq_false (fun q => q.1 c))
  · obtain ⟨b, e, hb⟩ := hb c
    have e2 : (ra_T I m t 4).toNatClampNeg = b := by rw [e]; exact nI_clamp (by omega)
    refine ⟨b, ⟨e, hb⟩, fun c2 => ?_, fun c2 => ?_⟩
    · exact kf_ K (decide_eq_false (fun q => q.2 (by rw [e2]; exact c2)))
    · exact kt_ K (decide_eq_true ⟨c, by rw [e2]; exact c2⟩)
end Rc2
