/-! the reference's ints at first -/
section Ini
variable {B : mm_T} {I J : Nat → Nat → Int32} {m : Nat}
def inb_ (j : Nat) : Int32 := if j = 4 then 8 else if j = 5 then 10 else if j = 6 then 2 else if j = 7 then 3 else if j = 8 then 32 else if j = 9 then 2 else 0
def inf_ (r : Nat) : Int32 := if r = 0 then 1 else if r = 1 then 12 else if r = 2 then 6 else if r = 8 then -1 else if r = 9 then -1 else 0
def inl_ (c w j : Nat) : Int32 := if 10 ≤ j ∧ j < 10 + 10 * c then inf_ (j % 10) else if 60 ≤ j ∧ j < 60 + 4 * w ∧ j % 4 = 0 then -1 else inb_ j
def ini_ (I : fI) (m c w : Nat) : fI := fun a j => if a = m + 1 then inl_ c w j else I a j
theorem inb_10 {j : Nat} (h : 10 ≤ j) : inb_ j = 0 := by
  unfold inb_
  rw [if_neg (by omega), if_neg (by omega), if_neg (by omega), if_neg (by omega), if_neg (by omega), if_neg (by omega)]
theorem ini_l {c : Nat} (hc : c < 5) : i2_u (i2_u (i2_u (i2_u (i2_u (ini_ I m c 0) (m + 1) (10 + 10 * c + 0) 1) (m + 1) (10 + 10 * c + 1) 12) (m + 1) (10 + 10 * c + 2) 6) (m + 1) (10 + 10 * c + 8) (-1)) (m + 1) (10 + 10 * c + 9) (-1) = ini_ I m (c + 1) 0 := by
  funext a j
  rw [i2_at, i2_at, i2_at, i2_at, i2_at]
  by_cases z : a = m + 1
  · have e0 : ini_ I m c 0 a j = inl_ c 0 j := if_pos z
    have e1 : ini_ I m (c + 1) 0 a j = inl_ (c + 1) 0 j := if_pos z
    rw [e0, e1]
    by_cases y : 10 + 10 * c ≤ j ∧ j < 10 + 10 * c + 10
    · obtain ⟨r, hr⟩ : ∃ r, j = 10 + 10 * c + r := ⟨j - (10 + 10 * c), by omega⟩
      have e2 : inl_ (c + 1) 0 j = inf_ r := by
        unfold inl_
        rw [if_pos (by omega), show j % 10 = r by omega]
      have e3 : inl_ c 0 j = 0 := by
        unfold inl_
        rw [if_neg (by omega), if_neg (by omega), inb_10 (by omega)]
      rw [e2, e3]
      unfold inf_
      by_cases r9 : r = 9
      · rw [if_pos ⟨z, by omega⟩, if_neg (by omega), if_neg (by omega), if_neg (by omega), if_neg (by omega), if_pos r9]
      · rw [if_neg (by omega)]
        by_cases r8 : r = 8
        · rw [if_pos ⟨z, by omega⟩, if_neg (by omega), if_neg (by omega), if_neg (by omega), if_pos r8]
        · rw [if_neg (by omega)]
          by_cases r2 : r = 2
          · rw [if_pos ⟨z, by omega⟩, if_neg (by omega), if_neg (by omega), if_pos r2]
          · rw [if_neg (by omega)]
            by_cases r1 : r = 1
            · rw [if_pos ⟨z, by omega⟩, if_neg (by omega), if_pos r1]
            · rw [if_neg (by omega)]
              by_cases r0 : r = 0
              · rw [if_pos ⟨z, by omega⟩, if_pos r0]
              · rw [if_neg (by omega), if_neg r0, if_neg r1, if_neg r2, if_neg r8, if_neg r9]
    · rw [if_neg (by omega), if_neg (by omega), if_neg (by omega), if_neg (by omega), if_neg (by omega)]
      unfold inl_
      by_cases u : 10 ≤ j ∧ j < 10 + 10 * c
      · rw [if_pos u, if_pos (by omega)]
      · rw [if_neg u, if_neg (show ¬ (10 ≤ j ∧ j < 10 + 10 * (c + 1)) by omega)]
  · rw [if_neg (fun q => z q.1), if_neg (fun q => z q.1), if_neg (fun q => z q.1), if_neg (fun q => z q.1), if_neg (fun q => z q.1)]
    exact (if_neg z).trans (if_neg z).symm
theorem ini_w {w : Nat} (hw : w < 6) : i2_u (ini_ I m 5 w) (m + 1) (60 + 4 * w) (-1) = ini_ I m 5 (w + 1) := by
  funext a j
  rw [i2_at]
  by_cases z : a = m + 1
  · have e0 : ini_ I m 5 w a j = inl_ 5 w j := if_pos z
    have e1 : ini_ I m 5 (w + 1) a j = inl_ 5 (w + 1) j := if_pos z
    rw [e0, e1]
    unfold inl_
    by_cases y : j = 60 + 4 * w
    · rw [if_pos ⟨z, y⟩, if_neg (by omega), if_pos (by omega)]
    · rw [if_neg (fun q => y q.2)]
      by_cases u : 10 ≤ j ∧ j < 10 + 10 * 5
      · rw [if_pos u, if_pos u]
      · rw [if_neg u, if_neg u]
        by_cases t : 60 ≤ j ∧ j < 60 + 4 * w ∧ j % 4 = 0
        · rw [if_pos t, if_pos (by omega)]
        · rw [if_neg t, if_neg (by omega)]
  · rw [if_neg (fun q => z q.1)]
    exact (if_neg z).trans (if_neg z).symm
theorem ini_0 (h0 : ∀ j, I (m + 1) j = 0) : i2_u (i2_u (i2_u (i2_u (i2_u (i2_u I (m + 1) 4 8) (m + 1) 5 10) (m + 1) 6 2) (m + 1) 7 3) (m + 1) 8 32) (m + 1) 9 2 = ini_ I m 0 0 := by
  funext a j
  rw [i2_at, i2_at, i2_at, i2_at, i2_at, i2_at]
  by_cases z : a = m + 1
  · have e1 : ini_ I m 0 0 a j = inb_ j := by
      refine (if_pos z).trans ?_
      unfold inl_
      rw [if_neg (by omega), if_neg (by omega)]
    rw [e1]
    unfold inb_
    by_cases y9 : j = 9
    · rw [if_pos ⟨z, y9⟩, if_neg (by omega), if_neg (by omega), if_neg (by omega), if_neg (by omega), if_neg (by omega), if_pos y9]
    · rw [if_neg (fun q => y9 q.2)]
      by_cases y8 : j = 8
      · rw [if_pos ⟨z, y8⟩, if_neg (by omega), if_neg (by omega), if_neg (by omega), if_neg (by omega), if_pos y8]
      · rw [if_neg (fun q => y8 q.2)]
        by_cases y7 : j = 7
        · rw [if_pos ⟨z, y7⟩, if_neg (by omega), if_neg (by omega), if_neg (by omega), if_pos y7]
        · rw [if_neg (fun q => y7 q.2)]
          by_cases y6 : j = 6
          · rw [if_pos ⟨z, y6⟩, if_neg (by omega), if_neg (by omega), if_pos y6]
          · rw [if_neg (fun q => y6 q.2)]
            by_cases y5 : j = 5
            · rw [if_pos ⟨z, y5⟩, if_neg (by omega), if_pos y5]
            · rw [if_neg (fun q => y5 q.2)]
              by_cases y4 : j = 4
              · rw [if_pos ⟨z, y4⟩, if_pos y4]
              · rw [if_neg (fun q => y4 q.2), if_neg y4, if_neg y5, if_neg y6, if_neg y7, if_neg y8, if_neg y9, z]
                exact h0 j
  · rw [if_neg (fun q => z q.1), if_neg (fun q => z q.1), if_neg (fun q => z q.1), if_neg (fun q => z q.1), if_neg (fun q => z q.1), if_neg (fun q => z q.1)]
    exact (if_neg z).symm
theorem rc_ini (RK : rf_ok B m) (h0 : ∀ j, I (m + 1) j = 0) {P : fI → Prop} (K : P (ini_ I m 5 6)) : rw_v mt_X11_init 160 [some (pv_r m), none] [] B I P := by
  have l2 : ∀ (j w : Nat), w + j = 6 → rw_v mt_X11_init 288 [some (pv_r m), some (pv_i (nI w))] [] B (ini_ I m 5 w) P := by
    intro j
    induction j with
    | zero =>
      intro w hw
      have : w = 6 := by omega
      subst this
      exact wq_X11_init_288 RK ⟨fun _ => K, fun c => absurd (Int32.le_refl _) c⟩
    | succ j ih =>
      intro w hw
      refine wq_X11_init_288 RK ⟨fun c => absurd c (i6 (by omega)), fun _ => ⟨w, ⟨rfl, by omega⟩, fun I2 e2 => ?_⟩⟩
      rw [e2, ini_w (by omega)]
      exact ih (w + 1) (by omega)
  have l1 : ∀ (j c : Nat), c + j = 5 → rw_v mt_X11_init 211 [some (pv_r m), some (pv_i (nI c))] [] B (ini_ I m c 0) P := by
    intro j
    induction j with
    | zero =>
      intro c hc
      have : c = 5 := by omega
      subst this
      exact wq_X11_init_211 RK ⟨fun _ => l2 6 0 rfl, fun c => absurd (Int32.le_refl _) c⟩
    | succ j ih =>
      intro c hc
      refine wq_X11_init_211 RK ⟨fun q => absurd q (nI_5 (by omega)), fun _ => ⟨c, ⟨rfl, by omega⟩, fun I2 e2 I3 e3 I4 e4 I5 e5 I6 e6 => ?_⟩⟩
      rw [e6, e5, e4, e3, e2, ini_l (by omega)]
      exact ih (c + 1) (by omega)
  refine wq_X11_init_160 RK (fun I1 e1 I2 e2 I3 e3 I4 e4 I5 e5 I6 e6 => ?_)
  rw [e6, e5, e4, e3, e2, e1, ini_0 h0]
  exact l1 5 0 rfl
theorem ix_ini (h4 : ∀ j, I (m + 4) j = 0) (h6 : I m 6 = 0) (h8 : I m 8 = 0) (hz : zr_ I m) : ix_ (ini_ I m 5 6) m 0 0 0 0 0 ∧ xi_ (ini_ I m 5 6) m 0 0 := by
  have r : ∀ j, ini_ I m 5 6 (m + 1) j = inl_ 5 6 j := fun j => if_pos rfl
  have o : ∀ a j, a ≠ m + 1 → ini_ I m 5 6 a j = I a j := fun a j q => if_neg q
  have eL : ∀ l f, l < 5 → f < 10 → ra_L (ini_ I m 5 6) m l f = inf_ f := fun l f q1 q2 => by
    refine (r _).trans ?_
    unfold inl_
    rw [if_pos (by omega), show (10 + 10 * l + f) % 10 = f by omega]
  have eW : ∀ w, w < 6 → ra_W (ini_ I m 5 6) m w 0 = -1 := fun w q => by
    refine (r _).trans ?_
    unfold inl_
    rw [if_neg (by omega), if_pos (by omega)]
  have e9 : ∀ j, j < 10 → ini_ I m 5 6 (m + 1) j = inb_ j := fun j q => by
    rw [r]
    unfold inl_
    rw [if_neg (by omega), if_neg (by omega)]
  have e84 : ini_ I m 5 6 (m + 1) 84 = 0 := by
    rw [r]
    decide
  refine ⟨⟨⟨⟨⟨e9 1 (by decide), by omega, fun t q => by omega⟩, fun t q => by omega, fun t q => by omega⟩, ⟨fun l q => ⟨⟨1, by decide, by decide, eL l 0 q (by decide)⟩, ⟨12, by decide, by decide, eL l 1 q (by decide)⟩, ⟨6, by decide, by decide, eL l 2 q (by decide)⟩, 0, by decide, eL l 3 q (by decide)⟩, ⟨8, by decide, by decide, e9 4 (by decide)⟩, ⟨10, by decide, by decide, e9 5 (by decide)⟩, ⟨2, by decide, by decide, e9 6 (by decide)⟩, ⟨3, by decide, by decide, e9 7 (by decide)⟩, ⟨32, by decide, by decide, e9 8 (by decide)⟩, 2, by decide, by decide, e9 9 (by decide)⟩, ⟨fun t q => by omega, fun t q => by omega, fun w q => Or.inl (eW w q)⟩, fun t q => by omega⟩, ⟨fun l q z => ?_, ⟨[], e9 3 (by decide), List.nodup_nil, fun t => ⟨fun q => by (cases q), fun q => by omega⟩, fun i x q => by (cases q)⟩, by unfold ivR; exact Nat.zero_le _, fun t _ _ => (o _ _ (by omega)).trans (h4 t)⟩, ⟨0, Nat.le_refl _, e9 0 (by decide)⟩, ⟨0, Nat.le_refl _, e9 2 (by decide)⟩, fun l q => ⟨0, Nat.le_refl _, eL l 4 q (by decide)⟩, ⟨0, Nat.le_refl _, (o _ _ (by omega)).trans h6⟩, (o _ _ (by omega)).trans h8, fun j => ⟨(o _ _ (by omega)).trans (hz j).1, (o _ _ (by omega)).trans (hz j).2⟩, fun t q => by omega⟩, fun t q => by omega, fun t q => by omega, ⟨fun _ => 0, fun l q => eL l 5 q (by decide), Nat.zero_le _⟩, 0, by omega, e84⟩
  rw [eL l 3 q (by decide)] at z
  exact absurd z (by decide)
end Ini
