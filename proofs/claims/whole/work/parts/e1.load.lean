/-! the trial's board is loaded -/
section Load
variable {M M' : mm_T} {I J : Nat → Nat → Int32} {m n : Nat} {ta tm tc : Nat → Nat}
def lcF (M : mm_T) (a0 a1 k : Nat) (M' : mm_T) : Prop := (∀ j, 1 ≤ j → j ≤ k → mm_i M' a0 j = mm_i M a1 j) ∧ fx_ (fun p j => p = a0 ∧ 1 ≤ j ∧ j ≤ 8) (fun _ _ => False) M M'
theorem lc_s {a0 a1 k : Nat} {Mk Mn : mm_T} (hne : a1 ≠ a0) (hk : k < 8) (h : lcF M a0 a1 k Mk) (e : Mn = mm_pi Mk a0 (k + 1) (mm_i Mk a1 (k + 1))) : lcF M a0 a1 (k + 1) Mn := by
  refine ⟨fun j q1 q2 => ?_, ?_⟩
  · rw [e, mi_pi]
    by_cases z : j = k + 1
    · rw [if_pos ⟨rfl, z⟩, z]
      exact h.2.2.2.1 _ _ (fun y => hne y.1)
    · rw [if_neg (fun y => z y.2)]
      exact h.1 j q1 (by omega)
  · rw [e]
    exact fx_tr h.2 (fx_pi ⟨rfl, by omega, by omega⟩)
theorem cc_lcopy {a0 a1 : Nat} (h0 : mm_k M a0 = (3, 14)) (h1 : mm_k M a1 = (3, 14)) (hne : a1 ≠ a0) {Q : mm_T → Prop} (K : ∀ M', lcF M a0 a1 8 M' → Q M') : cs_v mt_X3_copyFrom [pv_r a0, pv_r a1] M Q := by
  refine wc_X3_copyFrom_0 h0 ⟨h1, fun M2 e2 M5 e5 M8 e8 M11 e11 M14 e14 M17 e17 M20 e20 M23 e23 => K M23 ?_⟩
  have f0 : lcF M a0 a1 0 M := ⟨fun j q1 q2 => by omega, fx_rf⟩
  exact lc_s hne (by decide) (lc_s hne (by decide) (lc_s hne (by decide) (lc_s hne (by decide) (lc_s hne (by decide) (lc_s hne (by decide) (lc_s hne (by decide) (lc_s hne (by decide) f0 e2) e5) e8) e11) e14) e17) e20) e23
def tcF (M : mm_T) (a0 a1 a2 : Nat) (M' : mm_T) : Prop := (mm_i M' a0 0 = mm_i M a1 0 ∧ mm_i M' a0 3 = mm_i M a1 3 ∧ mm_i M' a0 4 = mm_i M a1 4 ∧ mm_i M' a0 6 = mm_i M a1 6 ∧ mm_i M' a0 7 = mm_i M a1 7 ∧ mm_i M' a0 9 = mm_i M a1 9 ∧ mm_i M' a0 12 = mm_i M a1 12) ∧ (mm_r M' a0 1 = mm_r M a1 1 ∧ mm_r M' a0 2 = a2) ∧ fx_ (fun p _ => p = a0) (fun p _ => p = a0) M M'
theorem cc_tcopy {a0 a1 a2 : Nat} (h0 : mm_k M a0 = (6, 17)) (h1 : mm_k M a1 = (6, 17)) (hne : a1 ≠ a0) {Q : mm_T → Prop} (K : ∀ M', tcF M a0 a1 a2 M' → Q M') : cs_v mt_X6_copyFrom [pv_r a0, pv_r a1, pv_r a2] M Q := by
  refine wc_X6_copyFrom_0 h0 ⟨h1, fun M2 e2 M5 e5 M8 e8 M11 e11 M14 e14 M17 e17 M20 e20 M23 e23 M26 e26 => K M26 ⟨⟨?_, ?_, ?_, ?_, ?_, ?_, ?_⟩, ⟨?_, ?_⟩, ?_⟩⟩
  · rw [e26, mi_pij (by decide), e23, mi_pij (by decide), e20, mi_pij (by decide), e17, mi_pij (by decide), e14, mi_pij (by decide), e11, mi_pij (by decide), e8, mi_pr, e5, mi_pr, e2, mi_pis]
  · rw [e26, mi_pij (by decide), e23, mi_pij (by decide), e20, mi_pij (by decide), e17, mi_pij (by decide), e14, mi_pij (by decide), e11, mi_pis, e8, mi_pr, e5, mi_pr, e2, mi_pia hne]
  · rw [e26, mi_pij (by decide), e23, mi_pij (by decide), e20, mi_pij (by decide), e17, mi_pij (by decide), e14, mi_pis, e11, mi_pia hne, e8, mi_pr, e5, mi_pr, e2, mi_pia hne]
  · rw [e26, mi_pij (by decide), e23, mi_pij (by decide), e20, mi_pij (by decide), e17, mi_pis, e14, mi_pia hne, e11, mi_pia hne, e8, mi_pr, e5, mi_pr, e2, mi_pia hne]
  · rw [e26, mi_pij (by decide), e23, mi_pij (by decide), e20, mi_pis, e17, mi_pia hne, e14, mi_pia hne, e11, mi_pia hne, e8, mi_pr, e5, mi_pr, e2, mi_pia hne]
  · rw [e26, mi_pij (by decide), e23, mi_pis, e20, mi_pia hne, e17, mi_pia hne, e14, mi_pia hne, e11, mi_pia hne, e8, mi_pr, e5, mi_pr, e2, mi_pia hne]
  · rw [e26, mi_pis, e23, mi_pia hne, e20, mi_pia hne, e17, mi_pia hne, e14, mi_pia hne, e11, mi_pia hne, e8, mi_pr, e5, mi_pr, e2, mi_pia hne]
  · rw [e26, mr_pi, e23, mr_pi, e20, mr_pi, e17, mr_pi, e14, mr_pi, e11, mr_pi, e8, mr_prj (by decide), e5, mr_prs, e2, mr_pi]
  · rw [e26, mr_pi, e23, mr_pi, e20, mr_pi, e17, mr_pi, e14, mr_pi, e11, mr_pi, e8, mr_prs]
  · rw [e26, e23, e20, e17, e14, e11, e8, e5, e2]
    exact fx_tr (fx_tr (fx_tr (fx_tr (fx_tr (fx_tr (fx_tr (fx_tr (fx_tr (fx_rf) (fx_pi rfl)) (fx_pr rfl)) (fx_pr rfl)) (fx_pi rfl)) (fx_pi rfl)) (fx_pi rfl)) (fx_pi rfl)) (fx_pi rfl)) (fx_pi rfl)
/-! numbers of the standing -/
def tc_n (I : fI) (m t : Nat) : Nat := 31 + cn_ (fun x => sd_ (sgI I m x)) t
theorem tc_sl : ∀ (n : Nat), (sl_ (sgI I m) n).map (tc_n I m) = (List.range (sl_ (sgI I m) n).length).map (fun i => 31 + i)
  | 0 => rfl
  | n + 1 => by
    have ih := tc_sl n
    unfold sl_ at ih ⊢
    rw [List.range_succ, List.filter_append]
    by_cases z : sd_ (sgI I m n) = true
    · rw [List.filter_cons, if_pos z, List.filter_nil, List.map_append, ih, List.length_append]
      show _ ++ [tc_n I m n] = (List.range (_ + 1)).map _
      rw [List.range_succ, List.map_append]
      congr 1
      show [31 + cn_ _ n] = [31 + _]
      rw [cn_len]
    · rw [List.filter_cons, if_neg z, List.filter_nil, List.append_nil]
      exact ih
theorem sl_at {sg : Nat → Int32} : ∀ (n : Nat) {t : Nat}, t < n → sd_ (sg t) = true → (sl_ sg n)[cn_ (fun x => sd_ (sg x)) t]? = some t
  | 0, t, h, _ => by omega
  | n + 1, t, h, hs => by
    have e : sl_ sg (n + 1) = sl_ sg n ++ (if sd_ (sg n) = true then [n] else []) := by
      unfold sl_
      rw [List.range_succ, List.filter_append]
      congr 1
      by_cases z : sd_ (sg n) = true
      · rw [List.filter_cons, if_pos z, if_pos z]; rfl
      · rw [List.filter_cons, if_neg z, if_neg z]; rfl
    have el : (sl_ sg n).length = cn_ (fun x => sd_ (sg x)) n := by
      unfold sl_
      rw [cn_len]
    rw [e]
    by_cases c : t = n
    · subst c
      rw [if_pos hs, List.getElem?_append_right (by omega), el]
      simp
    · have ih := sl_at n (t := t) (by omega) hs
      rw [List.getElem?_append_left (gl_lt ih)]
      exact ih
end Load
