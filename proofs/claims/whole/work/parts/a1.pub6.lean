/-! rule, arrange, raise -/
section Pub6
variable {B M M' : mm_T} {I J E : Nat → Nat → Int32} {m n T W P L : Nat} {ta tm : Nat → Nat} {S : Nat → Nat → Bool}
theorem re_ru (h : re_ M I m n ta tm) {k : Nat} (hk : k < 6) {x : Int32} : re_ (mm_pi M 11 k x) (i2_u I (m + 1) (4 + k) x) m n ta tm := by
  have hge : ∀ t, t < n → 112 ≤ ta t := fun t q => (re_ge h q).1
  have f : fx_ (fun a j => ((a = 8 ∧ j = 1) ∨ a = 10 ∨ a = 11 ∨ (12 ≤ a ∧ a < 17 ∧ 0 < j)) ∨ (112 ≤ a ∧ mm_k M a = (6, 17) ∧ (j = 7 ∨ j = 3))) (fun a j => a = 9 ∨ (112 ≤ a ∧ mm_k M a = (6, 17) ∧ j = 2)) M (mm_pi M 11 k x) := fx_pi (by omega)
  obtain ⟨a1, a2, a3, a4, a5, a6⟩ := id h.1.2.1
  have eT : ∀ t f, ra_T (i2_u I (m + 1) (4 + k) x) m t f = ra_T I m t f := fun t f => i2_uj (by omega)
  have eS : ∀ t, sgI (i2_u I (m + 1) (4 + k) x) m t = sgI I m t := fun t => eT t 6
  refine re_B h f (fun a j q => by rw [i2_at, if_neg (by omega)]) ⟨bd0_sg (sg := sgI I m) (lm := lmI I m) (bd0_k a1 (kd_fx f) (fun _ _ _ => rfl) (fun l j q1 q2 => mi_pia (by omega)) (fun j => mi_pia (by omega)) (mi_pia (by omega)) (fun t q _ => ⟨mi_pia (by have := hge t q; omega), mi_pia (by have := hge t q; omega), rfl⟩)) (fun t _ => eS t) (fun t _ => by unfold lmI; rw [eT]), tv_o a2 (i2_uj (by omega)) (fun t _ => ⟨eT t 0, eT t 6⟩), fun l q => ?_, fun k' q => ?_, fun t q1 q2 => ?_, fun t t' q1 q2 q3 q4 => ?_⟩ ?_ ?_
  · rw [mi_pia (by omega), mi_pia (by omega), mi_pia (by omega), mi_pia (by omega)]
    unfold ra_L
    rw [i2_uj (by omega), i2_uj (by omega), i2_uj (by omega), i2_uj (by omega)]
    exact a3 l q
  · rw [mi_pi, i2_at]
    by_cases z : k' = k
    · rw [if_pos ⟨rfl, z⟩, if_pos ⟨rfl, by omega⟩]
    · rw [if_neg (by omega), if_neg (by omega)]
      exact a4 k' q
  · rw [eS] at q2
    rw [mi_pia (by have := hge t q1; omega), mi_pia (by have := hge t q1; omega), mi_pia (by have := hge t q1; omega), eT, eT, eT]
    exact a5 t q1 q2
  · rw [eS] at q3
    rw [eS] at q4
    exact a6 t t' q1 q2 q3 q4
  · refine rT_o h.1.2.2.1 (kd_fx f) (fun a j q _ => mi_pia (by omega)) (fun _ _ _ _ => rfl) (fun t f _ _ => eT t f) (fun t _ => i2_ua (by omega)) (fun j => i2_ua (by omega))
  · exact rL_o h.1.2.2.2 (fun l j _ _ => mi_pia (by omega)) (fun l f q1 q2 q3 => i2_uj (by omega)) (fun t _ => ⟨eT t 0, eT t 6⟩)
theorem re_ar (h : re_ M I m n ta tm) {l f : Nat} (hl : l < 5) (hf : f < 3) {x : Int32} : re_ (mm_pi M (12 + l) (1 + f) x) (i2_u I (m + 1) (10 + 10 * l + f) x) m n ta tm := by
  have hge : ∀ t, t < n → 112 ≤ ta t := fun t q => (re_ge h q).1
  have fx : fx_ (fun a j => ((a = 8 ∧ j = 1) ∨ a = 10 ∨ a = 11 ∨ (12 ≤ a ∧ a < 17 ∧ 0 < j)) ∨ (112 ≤ a ∧ mm_k M a = (6, 17) ∧ (j = 7 ∨ j = 3))) (fun a j => a = 9 ∨ (112 ≤ a ∧ mm_k M a = (6, 17) ∧ j = 2)) M (mm_pi M (12 + l) (1 + f) x) := fx_pi (by omega)
  obtain ⟨a1, a2, a3, a4, a5, a6⟩ := id h.1.2.1
  have eT : ∀ t g, ra_T (i2_u I (m + 1) (10 + 10 * l + f) x) m t g = ra_T I m t g := fun t g => i2_uj (by omega)
  have eS : ∀ t, sgI (i2_u I (m + 1) (10 + 10 * l + f) x) m t = sgI I m t := fun t => eT t 6
  refine re_B h fx (fun a j q => by rw [i2_at, if_neg (by omega)]) ⟨bd0_sg (sg := sgI I m) (lm := lmI I m) (bd0_k a1 (kd_fx fx) (fun _ _ _ => rfl) (fun l j q1 q2 => by rw [mi_pi, if_neg (by omega)]) (fun j => mi_pia (by omega)) (mi_pia (by omega)) (fun t q _ => ⟨mi_pia (by have := hge t q; omega), mi_pia (by have := hge t q; omega), rfl⟩)) (fun t _ => eS t) (fun t _ => by unfold lmI; rw [eT]), tv_o a2 (i2_uj (by omega)) (fun t _ => ⟨eT t 0, eT t 6⟩), fun l' q => ?_, fun k' q => ?_, fun t q1 q2 => ?_, fun t t' q1 q2 q3 q4 => ?_⟩ ?_ ?_
  · obtain ⟨d1, d2, d3, d4⟩ := a3 l' q
    have key : ∀ g, g < 3 → mm_i M (6 + 6 + l') (1 + g) = ra_L I m l' g → mm_i (mm_pi M (12 + l) (1 + f) x) (6 + 6 + l') (1 + g) = ra_L (i2_u I (m + 1) (10 + 10 * l + f) x) m l' g := fun g hg e => by
      unfold ra_L
      rw [mi_pi, i2_at]
      by_cases z : l' = l ∧ g = f
      · rw [if_pos (by omega), if_pos (by omega)]
      · rw [if_neg (by omega), if_neg (by omega)]
        exact e
    refine ⟨key 0 (by decide) d1, key 1 (by decide) d2, key 2 (by decide) d3, ?_⟩
    unfold ra_L
    rw [mi_pi, if_neg (by omega), i2_uj (by omega)]
    exact d4
  · rw [mi_pia (by omega), i2_uj (by omega)]
    exact a4 k' q
  · rw [eS] at q2
    rw [mi_pia (by have := hge t q1; omega), mi_pia (by have := hge t q1; omega), mi_pia (by have := hge t q1; omega), eT, eT, eT]
    exact a5 t q1 q2
  · rw [eS] at q3
    rw [eS] at q4
    exact a6 t t' q1 q2 q3 q4
  · refine rT_o h.1.2.2.1 (kd_fx fx) (fun a j q _ => mi_pia (by omega)) (fun _ _ _ _ => rfl) (fun t f _ _ => eT t f) (fun t _ => i2_ua (by omega)) (fun j => i2_ua (by omega))
  · exact rL_o h.1.2.2.2 (fun l j _ _ => by rw [mi_pi, if_neg (by omega)]) (fun l f q1 q2 q3 => i2_uj (by omega)) (fun t _ => ⟨eT t 0, eT t 6⟩)
theorem re_ri (h : re_ M I m n ta tm) {t0 : Nat} (ht0 : t0 < n) {x : Int32} : re_ (mm_pi M (ta t0) 3 x) (i2_u I (m + 1) (200 + 14 * t0 + 1) x) m n ta tm := by
  have hge : ∀ t, t < n → 112 ≤ ta t := fun t q => (re_ge h q).1
  have h4 := re_4 h
  have hinj := h.1.2.2.1.2.1
  have g0 := hge t0 ht0
  have fx : fx_ (fun a j => ((a = 8 ∧ j = 1) ∨ a = 10 ∨ a = 11 ∨ (12 ≤ a ∧ a < 17 ∧ 0 < j)) ∨ (112 ≤ a ∧ mm_k M a = (6, 17) ∧ (j = 7 ∨ j = 3))) (fun a j => a = 9 ∨ (112 ≤ a ∧ mm_k M a = (6, 17) ∧ j = 2)) M (mm_pi M (ta t0) 3 x) := fx_pi (Or.inr ⟨g0, (re_ge h ht0).2, Or.inr rfl⟩)
  obtain ⟨a1, a2, a3, a4, a5, a6⟩ := id h.1.2.1
  have eT : ∀ t g, g < 14 → g ≠ 1 → ra_T (i2_u I (m + 1) (200 + 14 * t0 + 1) x) m t g = ra_T I m t g := fun t g _ _ => i2_uj (by omega)
  have eS : ∀ t, sgI (i2_u I (m + 1) (200 + 14 * t0 + 1) x) m t = sgI I m t := fun t => eT t 6 (by decide) (by decide)
  refine re_B h fx (fun a j q => by rw [i2_at, if_neg (by omega)]) ⟨bd0_sg (sg := sgI I m) (lm := lmI I m) (bd0_k a1 (kd_fx fx) (fun _ _ _ => rfl) (fun l j q1 q2 => mi_pia (by omega)) (fun j => mi_pia (by omega)) (mi_pia (by omega)) (fun t q _ => ⟨by rw [mi_pi, if_neg (by omega)], by rw [mi_pi, if_neg (by omega)], rfl⟩)) (fun t _ => eS t) (fun t _ => by unfold lmI; rw [eT t 0 (by decide) (by decide)]), tv_o a2 (i2_uj (by omega)) (fun t _ => ⟨eT t 0 (by decide) (by decide), eT t 6 (by decide) (by decide)⟩), fun l' q => ?_, fun k' q => ?_, fun t q1 q2 => ?_, fun t t' q1 q2 q3 q4 => ?_⟩ (rT_pi h.1.2.2.1 ht0 (by unfold jf_; omega)) ?_
  · rw [mi_pia (by omega), mi_pia (by omega), mi_pia (by omega), mi_pia (by omega)]
    unfold ra_L
    rw [i2_uj (by omega), i2_uj (by omega), i2_uj (by omega), i2_uj (by omega)]
    exact a3 l' q
  · rw [mi_pia (by omega), i2_uj (by omega)]
    exact a4 k' q
  · rw [eS] at q2
    obtain ⟨d1, d2, d3⟩ := a5 t q1 q2
    refine ⟨?_, by rw [mi_pi, if_neg (by omega), eT t 2 (by decide) (by decide)]; exact d2, by rw [mi_pi, if_neg (by omega), eT t 5 (by decide) (by decide)]; exact d3⟩
    unfold ra_T
    rw [mi_pi, i2_at]
    by_cases z : t = t0
    · rw [if_pos ⟨by rw [z], rfl⟩, if_pos ⟨rfl, by omega⟩]
    · rw [if_neg (fun y => z (hinj t t0 q1 ht0 y.1)), if_neg (by omega)]
      exact d1
  · rw [eS] at q3
    rw [eS] at q4
    exact a6 t t' q1 q2 q3 q4
  · exact rL_o h.1.2.2.2 (fun l j _ _ => mi_pia (by omega)) (fun l f q1 q2 q3 => i2_uj (by omega)) (fun t _ => ⟨eT t 0 (by decide) (by decide), eT t 6 (by decide) (by decide)⟩)
end Pub6
