/-! what the reference's methods answer -/
def ra_T (I : Nat → Nat → Int32) (m t f : Nat) : Int32 := I (m + 1) (200 + 14 * t + f)
def ra_L (I : Nat → Nat → Int32) (m l f : Nat) : Int32 := I (m + 1) (10 + 10 * l + f)
section Rc1
variable {B : mm_T} {I : Nat → Nat → Int32} {m n : Nat}
def ra_many (I : Nat → Nat → Int32) (m : Nat) (x1 x2 : Int32) (t : Nat) : Bool := decide ((x1 = -1 ∨ ra_T I m t 0 = x1) ∧ ra_T I m t 6 = x2)
theorem rc_manyOf (RK : rf_ok B m) (hn : I (m + 1) 1 = nI n) (h4 : n ≤ 400) {x1 x2 : Int32} {P : Int32 → (Nat → Nat → Int32) → Prop} (K : P (nI (cn_ (ra_many I m x1 x2) n)) I) : rs_i mt_X11_manyOf [pv_r m, pv_i x1, pv_i x2] B I P := by
  refine wq_X11_manyOf_0 RK ?_
  have loop : ∀ k t, t + k = n → rw_i mt_X11_manyOf 5 [some (pv_r m), some (pv_i x1), some (pv_i x2), some (pv_i (nI (cn_ (ra_many I m x1 x2) t))), some (pv_i (nI t))] [] B I P := by
    intro k
    induction k with
    | zero =>
      intro t ht
      have ht : t = n := by omega
      subst ht
      exact wq_X11_manyOf_5 RK ⟨fun _ => K, fun c => absurd (by rw [hn]; exact Int32.le_refl _) c⟩
    | succ k ih =>
      intro t ht
      refine wq_X11_manyOf_5 RK ⟨fun c => absurd c (by rw [hn]; exact nI_ge (by omega) (by omega)), fun _ => ⟨fun h1 => ⟨t, ⟨rfl, by omega⟩, fun c => ?_, fun c => ?_⟩, fun h1 => ⟨t, ⟨rfl, by omega⟩, fun c => ?_, fun c => ⟨fun c2 => ?_, fun c2 => ?_⟩⟩⟩⟩
      · rw [cn_e0 (by simp [ra_many, ra_T, c])]; exact ih _ (by omega)
      · rw [cn_e1 (by simp [ra_many, ra_T, h1, c])]; exact ih _ (by omega)
      · rw [cn_e0 (by simp [ra_many, ra_T, h1]; intro h; exact absurd h c)]; exact ih _ (by omega)
      · rw [cn_e0 (by simp [ra_many, ra_T, c2])]; exact ih _ (by omega)
      · rw [cn_e1 (by simp [ra_many, ra_T, c2]; exact Or.inr c)]; exact ih _ (by omega)
  exact loop n 0 (by omega)
end Rc1
