/-! share: the parts of the reference -/
section Shr
variable {B M M' : mm_T} {I J E : Nat → Nat → Int32} {m n T W P L : Nat} {ta tm : Nat → Nat} {S : Nat → Nat → Bool}
def el_ (I : fI) (m : Nat) (x1 : Int32) (c : Nat) : Option Nat := bs_ (ra_wt I m x1) (fun a c => decide (ra_T I m a 5 < ra_T I m c 5)) c
theorem rc_el4 (RK : rf_ok B m) (hn : I (m + 1) 1 = nI n) (h4 : n ≤ 400) {x1 : Int32} {Q : Int32 → fI → Prop} (K : Q (io_ (el_ I m x1 n)) I) : ∀ (j c : Nat), c + j = n → rw_i mt_X11_eldestOf 4 [some (pv_r m), some (pv_i x1), some (pv_i (io_ (el_ I m x1 c))), some (pv_i (nI c))] [] B I Q
  | 0, c, hc => by
    have : c = n := by omega
    subst this
    exact wq_X11_eldestOf_4 RK ⟨fun _ => K, fun q => absurd (nI_end hn) q⟩
  | j + 1, c, hc => by
    have ih := rc_el4 RK hn h4 K j (c + 1) (by omega)
    have no : ¬ ra_wt I m x1 c = true → rw_i mt_X11_eldestOf 4 [some (pv_r m), some (pv_i x1), some (pv_i (io_ (el_ I m x1 c))), some (pv_i (nI (c + 1)))] [] B I Q := fun z => by
      rw [show el_ I m x1 (c + 1) = el_ I m x1 c from bs_f (by simpa using z)] at ih
      exact ih
    refine wq_X11_eldestOf_4 RK ⟨fun q => absurd q (nI_done hn h4 (by omega)), fun _ => ⟨c, ⟨rfl, by omega⟩, fun q => no (fun z => q (of_decide_eq_true z).1), fun q => ⟨fun q2 => no (fun z => q2 (of_decide_eq_true z).2), fun q2 => ?_⟩⟩⟩
    have z : ra_wt I m x1 c = true := decide_eq_true ⟨q, q2⟩
    cases hg : el_ I m x1 c with
    | none =>
      rw [show el_ I m x1 (c + 1) = some c from bs_n z hg] at ih
      exact ⟨fun _ => ih, fun y => absurd rfl y⟩
    | some g =>
      have g5 := (bs_lt hg).1
      rw [show el_ I m x1 (c + 1) = _ from bs_s z hg] at ih
      refine ⟨fun y => absurd y (nI_nm (by omega)), fun _ => ⟨g, ⟨rfl, by omega⟩, fun y => ?_, fun y => ?_⟩⟩
      · rw [if_neg (fun w => absurd (of_decide_eq_true w) (Int32.not_lt.mpr (show ra_T I m g 5 ≤ ra_T I m c 5 from y)))] at ih
        exact ih
      · rw [if_pos (decide_eq_true (show ra_T I m c 5 < ra_T I m g 5 from Int32.not_le.mp y))] at ih
        exact ih
theorem rc_eldest (RK : rf_ok B m) (hn : I (m + 1) 1 = nI n) (h4 : n ≤ 400) {x1 : Int32} {Q : Int32 → fI → Prop} (K : Q (io_ (el_ I m x1 n)) I) : rs_i mt_X11_eldestOf [pv_r m, pv_i x1] B I Q := wq_X11_eldestOf_0 RK (rc_el4 RK hn h4 K n 0 (by omega))
end Shr
