/-! lapse: what one failing does -/
section Lap2
variable {I J N G : Nat → Nat → Int32} {m n t T W P L : Nat}
theorem dr_b (hn : n ≤ 400) : ∀ (k : Nat) {I : fI} {lv : List Nat} {c : Int32} {x : Nat}, x < n → ra_T I m x 6 = 1 → ra_T (sp_dr k I m n lv c).1 m x 6 = 5 → ∃ q, ra_T I m x 4 = nI q ∧ (q ∈ lv ∨ (q < n ∧ ra_T (sp_dr k I m n lv c).1 m q 6 = 5))
  | 0, I, lv, c, x, hx, h1, h5 => by
    have h5 : ra_T I m x 6 = 5 := h5
    rw [h1] at h5
    exact absurd h5 (by decide)
  | k + 1, I, lv, c, x, hx, h1, h5 => by
    have hm : ∀ y, y ∈ (List.range n).filter (sp_p I m lv) → y < n ∧ sp_p I m lv y = true := fun y q => by
      rw [List.mem_filter, List.mem_range] at q
      exact q
    by_cases z : x ∈ (List.range n).filter (sp_p I m lv)
    · obtain ⟨-, b, b1, b2⟩ := sp_p_of (hm x z).2
      exact ⟨b, b2, Or.inl b1⟩
    · have e6 : ra_T (sp_asd I m ((List.range n).filter (sp_p I m lv)) c) m x 6 = 1 := by
        rw [asd_s hn (fun y q => (hm y q).1) hx, if_neg z]
        exact h1
      have e4 : ra_T (sp_asd I m ((List.range n).filter (sp_p I m lv)) c) m x 4 = ra_T I m x 4 := asd_f (by decide) (by decide) (by decide) (by omega)
      obtain ⟨q, q1, q2⟩ := dr_b hn k (I := sp_asd I m ((List.range n).filter (sp_p I m lv)) c) (lv := (List.range n).filter (sp_p I m lv)) (c := 100) hx e6 h5
      rw [e4] at q1
      refine ⟨q, q1, Or.inr ?_⟩
      rcases q2 with y | y
      · refine ⟨(hm q y).1, ?_⟩
        have e5 : ra_T (sp_asd I m ((List.range n).filter (sp_p I m lv)) c) m q 6 = 5 := by rw [asd_s hn (fun y q => (hm y q).1) (hm q y).1, if_pos y]
        show ra_T (sp_dr k (sp_asd I m ((List.range n).filter (sp_p I m lv)) c) m n ((List.range n).filter (sp_p I m lv)) 100).1 m q 6 = 5
        rcases dr_s hn k (I := sp_asd I m ((List.range n).filter (sp_p I m lv)) c) (lv := (List.range n).filter (sp_p I m lv)) (c := 100) (hm q y).1 with u | u
        · rw [u, e5]
        · exact u.2
      · exact y
def rst_ (I : fI) (m : Nat) (v : Int32) : Int32 := I (m + 1) 6 <<< ((v - 1) &&& 31)
theorem fl_eff (h : ix_ I m n T W P L) (hT : T < 1000000) (hL : L < 1999990000) (ht : t < n) (h6 : ra_T I m t 6 = 3) {c : Int32} : (I (m + 1) 7 ≤ ra_T I m t 7 + 1 → ra_T (sp_fl I m n t c) m t 6 = 5) ∧ (¬ I (m + 1) 7 ≤ ra_T I m t 7 + 1 → ra_T (sp_fl I m n t c) m t 6 = 2 ∧ ra_T (sp_fl I m n t c) m t 8 = I (m + 1) 0 + rst_ I m (ra_T I m t 7 + 1)) ∧ (∀ x, x < n → x ≠ t → ¬ ra_T I m x 6 = 1 → ra_T (sp_fl I m n t c) m x 6 = ra_T I m x 6) ∧ (∀ x q, x < n → ra_T I m x 6 = 1 → ra_T I m x 4 = nI q → q < n → (ra_T (sp_fl I m n t c) m x 6 = 1 ∨ ra_T (sp_fl I m n t c) m x 6 = 5) ∧ (ra_T (sp_fl I m n t c) m x 6 = 5 ↔ ra_T (sp_fl I m n t c) m q 6 = 5)) := by
  have hn := ix_4 h
  obtain ⟨o1, o2, o3⟩ := fl_o (c := c) h ht h6
  have hG := ix_fl (c := c) h hT hL ht h6
  have noH : ∀ x q, x < n → ra_T I m x 6 = 1 → ra_T I m x 4 = nI q → q < n → ra_T (sp_fl I m n t c) m x 6 = 1 → ¬ ra_T (sp_fl I m n t c) m q 6 = 5 := fun x q hx h1 h4 hq e1 e5 => by
    obtain ⟨q', q1, q2, q3⟩ := hG.1.2.2.2 x hx e1
    have hxt : x ≠ t := fun z => by rw [z, h6] at h1; exact absurd h1 (by decide)
    rw [(o1 x hx hxt).2 4 (by decide) (by decide), h4, nI_eq (by omega) (by omega)] at q2
    rw [← q2, e5] at q3
    exact absurd q3 (by decide)
  obtain ⟨w, k, hw, h9, hk, h3, e9, e3, -⟩ := ix_out h ht h6
  have efl : sp_fl I m n t c = (sp_fail I m n t w k c).2 := by unfold sp_fl; rw [e9, e3]
  have F7 : sp_f8 I m t w c (m + 1) (200 + 14 * t + 7) = I (m + 1) (200 + 14 * t + 7) + 1 := f8_7 hw
  have F0 : ∀ j, (j = 0 ∨ j = 6) → sp_f8 I m t w c (m + 1) j = I (m + 1) j := fun j q => f8_o (by omega) (by omega) (by omega) (by omega) (by omega)
  have Fo : ∀ x f, x < n → (x ≠ t ∨ f = 6) → (f = 6 ∨ f = 4) → ra_T (sp_f8 I m t w c) m x f = ra_T I m x f := fun x f q1 q2 q3 => f8_o (by omega) (by omega) (by omega) (by omega) (by omega)
  refine ⟨fun hc => ?_, fun hc => ⟨?_, ?_⟩, fun x hx hxt h1 => ?_, fun x q hx h1 h4 hq => ?_⟩
  · rcases o3 with z | z
    · exfalso
      rw [efl] at z
      unfold sp_fail at z
      rw [if_pos (show I (m + 1) 7 ≤ I (m + 1) (200 + 14 * t + 7) + 1 from hc)] at z
      have z : ra_T (sp_f5 (sp_f8 I m t w c) m n t k c) m t 6 = 2 := z
      have F8 : sp_f8 I m t w c m 8 = 0 := (f8_o (by omega) (by omega) (by omega) (by omega) (by omega)).trans (ix_8 h)
      unfold sp_f5 sp_drags at z
      rw [if_pos F8] at z
      obtain ⟨A, hA⟩ : ∃ A, A = sp_ga (i2_u (sp_f8 I m t w c) (m + 3) k (sp_f8 I m t w c (m + 3) k + 1)) m t c := ⟨_, rfl⟩
      rw [← hA] at z
      have A6 : ra_T A m t 6 = 5 := by rw [hA, ga_s (by omega) (by omega), if_pos rfl]
      have z : ra_T (sp_dr 401 A m n [t] 100).1 m t 6 = 2 := by
        rw [← z]
        exact (ra_cls_T (by omega)).symm
      rcases dr_s hn 401 (I := A) (lv := [t]) (c := 100) ht with y | y
      · rw [y, A6] at z
        exact absurd z (by decide)
      · rw [y.2] at z
        exact absurd z (by decide)
    · exact z
  · rw [efl]
    unfold sp_fail
    rw [if_neg (show ¬ I (m + 1) 7 ≤ I (m + 1) (200 + 14 * t + 7) + 1 from hc)]
    show sp_f2 (sp_f8 I m t w c) m t (m + 1) (200 + 14 * t + 6) = 2
    unfold sp_f2
    rw [i2_uj (by omega), i2_us]
  · rw [efl]
    unfold sp_fail
    rw [if_neg (show ¬ I (m + 1) 7 ≤ I (m + 1) (200 + 14 * t + 7) + 1 from hc)]
    show sp_f2 (sp_f8 I m t w c) m t (m + 1) (200 + 14 * t + 8) = _
    unfold sp_f2
    rw [i2_us, F7, F0 0 (by omega), F0 6 (by omega)]
    rfl
  · rcases (o1 x hx hxt).1 with z | z
    · exact z
    · exact absurd z.1 h1
  · have hxt : x ≠ t := fun z => by rw [z, h6] at h1; exact absurd h1 (by decide)
    have hv : ra_T (sp_fl I m n t c) m x 6 = 1 ∨ ra_T (sp_fl I m n t c) m x 6 = 5 := by
      rcases (o1 x hx hxt).1 with z | z
      · exact Or.inl (z.trans h1)
      · exact Or.inr z.2
    refine ⟨hv, fun e5 => ?_, fun e5 => ?_⟩
    · rw [efl] at e5 ⊢
      unfold sp_fail at e5 ⊢
      by_cases hc : I (m + 1) 7 ≤ I (m + 1) (200 + 14 * t + 7) + 1
      · rw [if_pos hc] at e5 ⊢
        have e5 : ra_T (sp_f5 (sp_f8 I m t w c) m n t k c) m x 6 = 5 := e5
        show ra_T (sp_f5 (sp_f8 I m t w c) m n t k c) m q 6 = 5
        have F8 : sp_f8 I m t w c m 8 = 0 := (f8_o (by omega) (by omega) (by omega) (by omega) (by omega)).trans (ix_8 h)
        unfold sp_f5 sp_drags at e5 ⊢
        rw [if_pos F8] at e5 ⊢
        obtain ⟨A, hA⟩ : ∃ A, A = sp_ga (i2_u (sp_f8 I m t w c) (m + 3) k (sp_f8 I m t w c (m + 3) k + 1)) m t c := ⟨_, rfl⟩
        rw [← hA] at e5 ⊢
        have cT : ∀ y, ra_T (ra_cls (sp_dr 401 A m n [t] 100).1 m n 5) m y 6 = ra_T (sp_dr 401 A m n [t] 100).1 m y 6 := fun y => ra_cls_T (by omega)
        rw [cT] at e5 ⊢
        have A6 : ∀ y, y < n → ra_T A m y 6 = if y = t then 5 else ra_T I m y 6 := fun y hy => by
          rw [hA, ga_s (by omega) (by omega)]
          by_cases u : y = t
          · rw [if_pos u, if_pos u]
          · rw [if_neg u, if_neg u, show ra_T (i2_u (sp_f8 I m t w c) (m + 3) k (sp_f8 I m t w c (m + 3) k + 1)) m y 6 = ra_T (sp_f8 I m t w c) m y 6 from i2_ua (by omega)]
            exact Fo y 6 hy (by omega) (by omega)
        have A4 : ra_T A m x 4 = ra_T I m x 4 := by
          rw [hA]
          show sp_ga _ m t c (m + 1) (200 + 14 * x + 4) = _
          rw [sp_ga_o (by omega) (by omega) (by omega), i2_ua (by omega)]
          exact Fo x 4 hx (by omega) (by omega)
        obtain ⟨q', q1, q2⟩ := dr_b hn 401 (I := A) (lv := [t]) (c := 100) hx (by rw [A6 x hx, if_neg hxt]; exact h1) e5
        rcases q2 with y | y
        · have yt : q' = t := List.mem_singleton.mp y
          rw [A4, h4, nI_eq (by omega) (by omega)] at q1
          rw [q1, yt]
          rcases dr_s hn 401 (I := A) (lv := [t]) (c := 100) ht with u | u
          · rw [u, A6 t ht, if_pos rfl]
          · exact u.2
        · rw [A4, h4, nI_eq (by omega) (by omega)] at q1
          rw [q1]
          exact y.2
      · rw [if_neg hc] at e5
        exfalso
        have e5 : sp_f2 (sp_f8 I m t w c) m t (m + 1) (200 + 14 * x + 6) = 5 := e5
        unfold sp_f2 at e5
        rw [i2_uj (by omega), i2_uj (by omega)] at e5
        have := (Fo x 6 hx (by omega) (by omega)).symm.trans e5
        rw [h1] at this
        exact absurd this (by decide)
    · rcases hv with z | z
      · exact absurd e5 (noH x q hx h1 h4 hq z)
      · exact z
end Lap2
