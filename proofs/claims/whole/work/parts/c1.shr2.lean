/-! share: sizes that wait -/
section Shr2
variable {B M M' : mm_T} {I J E : Nat → Nat → Int32} {m n T W P L : Nat}
theorem rc_sz4 (RK : rf_ok B m) (hn : I (m + 1) 1 = nI n) (h4 : n ≤ 400) {x1 : Int32} {Q : Int32 → fI → Prop} (K : Q (su_ (fun t => if ra_wt I m x1 t = true then ra_T I m t 2 else 0) n) I) : ∀ (j c : Nat), c + j = n → rw_i mt_X11_sizesOf 4 [some (pv_r m), some (pv_i x1), some (pv_i (su_ (fun t => if ra_wt I m x1 t = true then ra_T I m t 2 else 0) c)), some (pv_i (nI c))] [] B I Q
  | 0, c, hc => by
    have : c = n := by omega
    subst this
    exact wq_X11_sizesOf_4 RK ⟨fun _ => K, fun q => absurd (nI_end hn) q⟩
  | j + 1, c, hc => by
    have ih := rc_sz4 RK hn h4 K j (c + 1) (by omega)
    have es : su_ (fun t => if ra_wt I m x1 t = true then ra_T I m t 2 else 0) (c + 1) = su_ (fun t => if ra_wt I m x1 t = true then ra_T I m t 2 else 0) c + (if ra_wt I m x1 c = true then ra_T I m c 2 else 0) := rfl
    rw [es] at ih
    have no : ¬ ra_wt I m x1 c = true → rw_i mt_X11_sizesOf 4 [some (pv_r m), some (pv_i x1), some (pv_i (su_ (fun t => if ra_wt I m x1 t = true then ra_T I m t 2 else 0) c + 0)), some (pv_i (nI (c + 1)))] [] B I Q := fun z => by
      rw [if_neg z] at ih
      exact ih
    refine wq_X11_sizesOf_4 RK ⟨fun q => absurd q (nI_done hn h4 (by omega)), fun _ => ⟨c, ⟨rfl, by omega⟩, fun q => no (fun z => q (of_decide_eq_true z).1), fun q => ⟨fun q2 => no (fun z => q2 (of_decide_eq_true z).2), fun q2 => ?_⟩⟩⟩
    rw [if_pos (show ra_wt I m x1 c = true from decide_eq_true ⟨q, q2⟩)] at ih
    exact ih
theorem rc_sizes (RK : rf_ok B m) (hn : I (m + 1) 1 = nI n) (h4 : n ≤ 400) {x1 : Int32} {Q : Int32 → fI → Prop} (K : Q (su_ (fun t => if ra_wt I m x1 t = true then ra_T I m t 2 else 0) n) I) : rs_i mt_X11_sizesOf [pv_r m, pv_i x1] B I Q := wq_X11_sizesOf_0 RK (rc_sz4 RK hn h4 K n 0 (by omega))
end Shr2
