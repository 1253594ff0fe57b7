section Rc3
variable {B : mm_T} {I : Nat → Nat → Int32} {m n : Nat}
def ra_may (I : Nat → Nat → Int32) (m n : Nat) (x1 : Int32) (l : Nat) : Bool := ra_live I m n (nI l) && (decide (x1 = 0) || decide (nI (cn_ (ra_many I m (nI l) 3) n) < ra_L I m l 2))
def ra_ps (I : Nat → Nat → Int32) (m a b : Nat) : Bool := decide (ra_L I m a 4 < ra_L I m b 4)
def ra_lane (I : Nat → Nat → Int32) (m n : Nat) (x1 : Int32) : Option Nat := bs_ (ra_may I m n x1) (ra_ps I m) 5
theorem nI_5 {t : Nat} (h : t < 5) : ¬ (5 : Int32) ≤ nI t := by
  have : (5 : Int32) = nI 5 := rfl
  rw [this]; exact nI_ge h (by omega)
theorem rc_theLane (RK : rf_ok B m) (hn : I (m + 1) 1 = nI n) (h4 : n ≤ 400) {x1 : Int32} {P : Int32 → (Nat → Nat → Int32) → Prop} (K : P (io_ (ra_lane I m n x1)) I) : rs_i mt_X11_theLane [pv_r m, pv_i x1] B I P := by
  refine wq_X11_theLane_0 RK ?_
  have loop : ∀ k t, t + k = 5 → rw_i mt_X11_theLane 4 [some (pv_r m), some (pv_i x1), some (pv_i (io_ (bs_ (ra_may I m n x1) (ra_ps I m) t))), some (pv_i (nI t))] [] B I P := by
    intro k
    induction k with
    | zero =>
      intro t ht
      have ht : t = 5 := by omega
      subst ht
      exact wq_X11_theLane_4 RK ⟨fun _ => K, fun c => absurd (Int32.le_refl _) c⟩
    | succ k ih =>
      intro t ht
      have ih := ih (t + 1) (by omega)
      refine wq_X11_theLane_4 RK ⟨fun c => absurd c (nI_5 (by omega)), fun _ => ?_⟩
      cases hb : bs_ (ra_may I m n x1) (ra_ps I m) t with
      | none =>
        refine ⟨fun _ => rc_isLive RK hn h4 ⟨fun c => ?_, fun c => ?_⟩, fun c => absurd rfl c⟩
        · have hl := bl_1 c
          refine ⟨fun c2 => ?_, fun c2 => rc_manyOf RK hn h4 ⟨t, ⟨rfl, by omega⟩, fun c3 => ?_, fun c3 => ?_⟩⟩
          · rw [bs_n (by unfold ra_may; rw [hl, decide_eq_true c2]; rfl) hb] at ih
            rw [nI_1]; exact ih
          · rw [bs_f (by unfold ra_may ra_L; rw [hl, decide_eq_false c2, decide_eq_false (Int32.not_lt.mpr c3)]; rfl), hb] at ih
            exact ih
          · rw [bs_n (by unfold ra_may ra_L; rw [hl, decide_eq_true (Int32.not_le.mp c3)]; simp) hb] at ih
            exact ih
        · rw [bs_f (by unfold ra_may; rw [bl_0 c]; rfl), hb] at ih
          rw [nI_1]; exact ih
      | some q =>
        have hq := (bs_lt hb).1
        refine ⟨fun c => absurd c (nI_nm (by omega)), fun _ => ⟨t, ⟨rfl, by omega⟩, q, ⟨rfl, by omega⟩, fun c => ?_, fun c => rc_isLive RK hn h4 ⟨fun c2 => ?_, fun c2 => ?_⟩⟩⟩
        · have hnb : ra_ps I m t q = false := decide_eq_false (Int32.not_lt.mpr c)
          cases hp : ra_may I m n x1 t with
          | false => rw [bs_f hp, hb] at ih; exact ih
          | true => rw [bs_s hp hb, if_neg (by rw [hnb]; decide)] at ih; exact ih
        · have hl := bl_1 c2
          have hbt : ra_ps I m t q = true := decide_eq_true (Int32.not_le.mp c)
          refine ⟨fun c3 => ?_, fun c3 => rc_manyOf RK hn h4 ⟨fun c4 => ?_, fun c4 => ?_⟩⟩
          · rw [bs_s (by unfold ra_may; rw [hl, decide_eq_true c3]; rfl) hb, if_pos hbt] at ih
            exact ih
          · rw [bs_f (by unfold ra_may ra_L; rw [hl, decide_eq_false c3, decide_eq_false (Int32.not_lt.mpr c4)]; rfl), hb] at ih
            exact ih
          · rw [bs_s (by unfold ra_may ra_L; rw [hl, decide_eq_true (Int32.not_le.mp c4)]; simp) hb, if_pos hbt] at ih
            exact ih
        · rw [bs_f (by unfold ra_may; rw [bl_0 c2]; rfl), hb] at ih
          exact ih
  exact loop 5 0 (by omega)
/-- a draining lane in which none stands is closed -/
def ra_cls (I : Nat → Nat → Int32) (m n : Nat) : Nat → Nat → Nat → Int32
  | 0 => I
  | l + 1 => if I (m + 1) (10 + 10 * l + 3) = 1 ∧ cn_ (ra_st I m (nI l)) n = 0 then i2_u (ra_cls I m n l) (m + 1) (10 + 10 * l + 3) 2 else ra_cls I m n l
theorem ra_cls_o : ∀ (k : Nat) {a j : Nat}, (a ≠ m + 1 ∨ (∀ l, l < k → j ≠ 10 + 10 * l + 3)) → ra_cls I m n k a j = I a j
  | 0, _, _, _ => rfl
  | l + 1, a, j, h => by
    have ih := ra_cls_o l (a := a) (j := j) (h.imp id (fun q x hx => q x (by omega)))
    show (if _ then i2_u _ _ _ _ else _ : Nat → Nat → Int32) a j = _
    split
    · rw [← ih]
      rcases h with h | h
      · exact i2_ua h
      · exact i2_uj (h l (by omega))
    · exact ih
theorem ra_st_eq {I J : Nat → Nat → Int32} {x : Int32} {t : Nat} (h : ∀ f, f < 14 → ra_T J m t f = ra_T I m t f) : ra_st J m x t = ra_st I m x t := by
  unfold ra_st
  rw [h 0 (by decide), h 6 (by decide)]
theorem ra_cls_T {k t f : Nat} (hk : k ≤ 5) : ra_T (ra_cls I m n k) m t f = ra_T I m t f := ra_cls_o k (Or.inr (fun l hl => by omega))
theorem rc_closes (RK : rf_ok B m) (hn : I (m + 1) 1 = nI n) (h4 : n ≤ 400) {P : (Nat → Nat → Int32) → Prop} (K : P (ra_cls I m n 5)) : rs_v mt_X11_closes [pv_r m] B I P := by
  refine wq_X11_closes_0 RK ?_
  have loop : ∀ k t, t + k = 5 → rw_v mt_X11_closes 2 [some (pv_r m), some (pv_i (nI t))] [] B (ra_cls I m n t) P := by
    intro k
    induction k with
    | zero =>
      intro t ht
      have ht : t = 5 := by omega
      subst ht
      exact wq_X11_closes_2 RK ⟨fun _ => K, fun c => absurd (Int32.le_refl _) c⟩
    | succ k ih =>
      intro t ht
      have ih := ih (t + 1) (by omega)
      have e3 : ra_cls I m n t (m + 1) (10 + 10 * t + 3) = I (m + 1) (10 + 10 * t + 3) := ra_cls_o t (Or.inr (fun l hl => by omega))
      have e1 : ra_cls I m n t (m + 1) 1 = nI n := (ra_cls_o t (Or.inr (fun l hl => by omega))).trans hn
      have es : cn_ (ra_st (ra_cls I m n t) m (nI t)) n = cn_ (ra_st I m (nI t)) n := cn_eq (fun i _ => ra_st_eq (fun f _ => ra_cls_T (by omega)))
      have hle := cn_le (ra_st I m (nI t)) n
      refine wq_X11_closes_2 RK ⟨fun c => absurd c (nI_5 (by omega)), fun _ => ⟨t, ⟨rfl, by omega⟩, fun c => ?_, fun c => rc_standing RK e1 h4 ⟨fun c2 => ?_, fun c2 I4 h => ?_⟩⟩⟩
      · rw [e3] at c
        rw [show ra_cls I m n (t + 1) = ra_cls I m n t from if_neg (fun q => c q.1)] at ih
        exact ih
      · rw [es] at c2
        rw [show ra_cls I m n (t + 1) = ra_cls I m n t from if_neg (fun q => c2 (by rw [q.2]; rfl))] at ih
        exact ih
      · rw [es] at c2
        rw [e3] at c
        have hz : cn_ (ra_st I m (nI t)) n = 0 := (nI_eq (by omega) (by omega)).mp (show nI _ = nI 0 from c2)
        rw [show ra_cls I m n (t + 1) = i2_u (ra_cls I m n t) (m + 1) (10 + 10 * t + 3) 2 from if_pos ⟨c, hz⟩] at ih
        rw [h]
        exact ih
  exact loop 5 0 (by omega)
end Rc3
