/-! path -/
section Pub23
variable {B M M' : mm_T} {I J E : Nat → Nat → Int32} {m n T W P L : Nat} {ta tm : Nat → Nat} {S : Nat → Nat → Bool}
def pa_ (I : fI) (m b : Nat) : Nat → Nat → Int32 → Int32
  | 0, _, y => y
  | k + 1, i, y => if y = -1 then -1 else if i = b then y else pa_ I m b k (i + 1) (ra_T I m y.toNatClampNeg 4)
theorem nt_pa (hS : uf_ S m) {b : Nat} : ∀ (k i : Nat) (y : Int32), pa_ (pt_ S E I) m b k i y = pa_ I m b k i y
  | 0, _, _ => rfl
  | k + 1, i, y => by
    unfold pa_
    rw [nt_T (uf_us hS), nt_pa hS k]
theorem rc_pa (RK : rf_ok B m) (hbl : bl_ I m n) (h4 : n ≤ 400) {x1 : Int32} {b : Nat} (hb : b < 2 ^ 31) {Q : Int32 → fI → Prop} : ∀ (k : Nat) {i : Nat} {y : Int32}, (y = -1 ∨ ∃ p, p < k ∧ p < n ∧ y = nI p) → i ≤ b → Q (pa_ I m b k i y) I → rw_i mt_X11_path 19 [some (pv_r m), some (pv_i x1), some (pv_i (nI b)), some (pv_i y), some (pv_i (nI i))] [] B I Q
  | 0, i, y, hy, hi, K => by
    rcases hy with z | ⟨p, p1, -⟩
    · exact wq_X11_path_19 RK ⟨fun _ => K, fun _ => ⟨fun _ => K, fun q => absurd z q⟩⟩
    · omega
  | k + 1, i, y, hy, hi, K => by
    unfold pa_ at K
    rcases hy with z | ⟨p, p1, p2, rfl⟩
    · rw [if_pos z] at K
      rw [z]
      exact wq_X11_path_19 RK ⟨fun _ => K, fun _ => ⟨fun _ => K, fun q => absurd rfl q⟩⟩
    · have nm : ¬ nI p = (-1 : Int32) := nI_nm (by omega)
      rw [if_neg nm, nI_clamp (by omega)] at K
      by_cases e : i = b
      · rw [if_pos e] at K
        rw [e]
        exact wq_X11_path_19 RK ⟨fun _ => K, fun q => absurd (Int32.le_refl _) q⟩
      · rw [if_neg e] at K
        refine wq_X11_path_19 RK ⟨fun q => absurd q (nI_ge (by omega) hb), fun _ => ⟨fun q => absurd q nm, fun _ => ⟨p, ⟨rfl, by omega⟩, ?_⟩⟩⟩
        rw [nI_1]
        refine rc_pa RK hbl h4 hb k ?_ (by omega) K
        rcases hbl p p2 with z | ⟨r, r1, r2⟩
        · exact Or.inl z
        · exact Or.inr ⟨r, by omega, by omega, r2⟩
theorem ce_pa (h : re_ M I m n ta tm) (hbl : bl_ I m n) {x1 : Int32} {b : Nat} (hb : b < 2 ^ 31) {Q : Int32 → mm_T → Prop} : ∀ (k : Nat) {i : Nat} {y : Int32}, (y = -1 ∨ ∃ p, p < k ∧ p < n ∧ y = nI p) → i ≤ b → Q (pa_ I m b k i y) M → cw_i mt_X10_path 15 [some (pv_r 5), some (pv_i x1), some (pv_i (nI b)), some (pv_i (nI i)), some (pv_r (rft ta y))] [] M Q
  | 0, i, y, hy, hi, K => by
    rcases hy with z | ⟨p, p1, -⟩
    · have e0 : rft ta y = 0 := if_pos z
      rw [e0]
      have K : Q y M := K
      rw [z] at K
      exact wc_X10_path_15 (re_m5 h) ⟨fun _ => K, fun q => absurd rfl q⟩
    · omega
  | k + 1, i, y, hy, hi, K => by
    have h4 := re_4 h
    unfold pa_ at K
    rcases hy with z | ⟨p, p1, p2, rfl⟩
    · rw [if_pos z] at K
      have e0 : rft ta y = 0 := if_pos z
      rw [e0]
      exact wc_X10_path_15 (re_m5 h) ⟨fun _ => K, fun q => absurd rfl q⟩
    · have nm : ¬ nI p = (-1 : Int32) := nI_nm (by omega)
      have e0 : rft ta (nI p) = ta p := by unfold rft; rw [if_neg nm, nI_clamp (by omega)]
      rw [if_neg nm, nI_clamp (by omega)] at K
      have g := re_ge h p2
      obtain ⟨⟨-, -, a3, a4, -⟩, -⟩ := h.1.2.2.1.1 p p2
      rw [e0]
      refine wc_X10_path_15 (re_m5 h) ⟨fun q => absurd q (by omega), fun _ => ⟨fun q => ⟨g.2, ?_⟩, fun q => ⟨g.2, ?_⟩⟩⟩
      · have e : ¬ i = b := fun z => q (by rw [z])
        rw [if_neg e] at K
        rw [nI_1, a4]
        refine ce_pa h hbl hb k ?_ (by omega) K
        rcases hbl p p2 with z | ⟨r, r1, r2⟩
        · exact Or.inl z
        · exact Or.inr ⟨r, by omega, by omega, r2⟩
      · have e : i = b := (nI_eq (by omega) hb).mp q
        rw [if_pos e] at K
        rw [a3]
        exact K
theorem sm_path (h : ix_ I m n T W P L) {x1 x2 : Int32} : ∃ v, sm_ I m n T W P L (v, I) (fun M Q => cs_i mt_X10_path [pv_r 5, pv_i x1, pv_i x2] M Q) (fun B J Q => rs_i mt_X11_path [pv_r m, pv_i x1, pv_i x2] B J Q) := by
  have h4 := ix_4 h
  refine qu_ (v := if (0 ≤ x1 ∧ x1 ≤ nI n - 1) ∧ 0 ≤ x2 then pa_ I m x2.toNatClampNeg 401 0 x1 else -1) h (fun M ta tm Q hr K => ?_) (fun S E B Q hS RK hJ K => ?_)
  · refine wc_X10_path_0 (re_m5 hr) ⟨fun q => ?_, fun q => by rw [if_neg (fun y => q y.2)] at K; exact K⟩
    obtain ⟨b, hb, rfl⟩ := nI_of (Int32.not_lt.mpr q)
    refine ce_taskAt hr (fun t ht e => ?_) (fun q2 => ?_)
    · rw [if_pos ⟨(i32_tk h4).mpr ⟨t, ht, e⟩, q⟩, nI_clamp (by omega)] at K
      have nm : ¬ nI t = (-1 : Int32) := nI_nm (by omega)
      have e0 : rft ta x1 = ta t := by unfold rft; rw [e, if_neg nm, nI_clamp (by omega)]
      rw [← e0]
      exact ce_pa hr (ix_bl h) hb 401 (i := 0) (Or.inr ⟨t, by omega, ht, e⟩) (by omega) K
    · rw [if_neg (fun y => q2 y.1)] at K
      exact wc_X10_path_15 (re_m5 hr) ⟨fun _ => K, fun y => absurd rfl y⟩
  · refine wq_X11_path_0 RK ?_
    rw [ix_1 hJ]
    refine ⟨fun c1 => ⟨fun c2 => ?_, fun c2 => by rw [if_neg (fun y => c2 y.2)] at K; exact K⟩, fun c1 => by rw [if_neg (fun y => c1 y.1)] at K; exact K⟩
    rw [if_pos ⟨c1, c2⟩] at K
    obtain ⟨t, ht, e⟩ := (i32_tk h4).mp c1
    obtain ⟨b, hb, rfl⟩ := nI_of (Int32.not_lt.mpr c2)
    rw [nI_clamp (by omega)] at K
    exact rc_pa RK (ix_bl hJ) h4 hb 401 (i := 0) (Or.inr ⟨t, by omega, ht, e⟩) (by omega) (by rw [nt_pa hS]; exact K)
end Pub23
