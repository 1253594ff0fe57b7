/-! worst -/
section Wst
variable {B M M' : mm_T} {I J E : Nat → Nat → Int32} {m n T W P L : Nat} {ta tm : Nat → Nat} {S : Nat → Nat → Bool}
/-- who stands aside has a cause -/
def ivB (I : fI) (m n : Nat) : Prop := ∀ t, t < n → ra_T I m t 6 = 5 → ∃ c, c ≤ 101 ∧ ra_T I m t 13 = nI c
def wf_ (I : fI) (m : Nat) (as : List Nat) (c : Nat) : Nat := (as.filter (bp_ I m (nI c))).length
def wg_ (f : Nat → Nat) (k : Nat) : Option Nat := bs_ (fun c => decide (0 < f c)) (fun a b => decide (f b < f a)) k
def wo_ (f : Nat → Nat) : Option Nat → Nat
  | none => 0
  | some q => f q
theorem wg_no {f : Nat → Nat} {c : Nat} (h : f c ≤ wo_ f (wg_ f c)) : wg_ f (c + 1) = wg_ f c := by
  cases hg : wg_ f c with
  | none =>
    rw [hg] at h
    have h : f c ≤ 0 := h
    rw [← hg]
    exact bs_f (decide_eq_false (by omega))
  | some q =>
    rw [hg] at h
    have h : f c ≤ f q := h
    by_cases z : 0 < f c
    · rw [show wg_ f (c + 1) = _ from bs_s (decide_eq_true z) hg, if_neg (fun w => absurd (of_decide_eq_true w) (by omega))]
    · rw [← hg]
      exact bs_f (decide_eq_false z)
theorem wg_yes {f : Nat → Nat} {c : Nat} (h : ¬ f c ≤ wo_ f (wg_ f c)) : wg_ f (c + 1) = some c := by
  cases hg : wg_ f c with
  | none =>
    rw [hg] at h
    have h : ¬ f c ≤ 0 := h
    exact bs_n (decide_eq_true (by omega)) hg
  | some q =>
    rw [hg] at h
    have h : ¬ f c ≤ f q := h
    rw [show wg_ f (c + 1) = _ from bs_s (decide_eq_true (by omega)) hg, if_pos (decide_eq_true (by omega))]
theorem wo_le {f : Nat → Nat} {c : Nat} (hf : ∀ x, f x ≤ 400) : wo_ f (wg_ f c) ≤ 400 := by
  cases wg_ f c with
  | none => exact Nat.zero_le _
  | some q => exact hf q
theorem i101 {c : Nat} (hc : c < 102) : ¬ (101 : Int32) < nI c := by
  show ¬ nI 101 < nI c
  rw [nI_ltI (by decide) (by omega)]
  omega
theorem sm_worst (h : ix_ I m n T W P L) (hB : ivB I m n) : ∃ v, sm_ I m n T W P L (v, I) (fun M Q => cs_i mt_X10_worst [pv_r 5] M Q) (fun B J Q => rs_i mt_X11_worst [pv_r m] B J Q) := by
  have h4 := ix_4 h
  obtain ⟨as, s0, s1, s2, s3, s4⟩ := as_l h
  have s4' : ∀ i x, as[i]? = some x → I (m + 1) (5800 + i) = nI x ∧ x < n := fun i x q => ⟨s4 i x q, ((s3 x).mp (List.mem_of_getElem? q)).1⟩
  obtain ⟨f, hf⟩ : ∃ f, f = wf_ I m as := ⟨_, rfl⟩
  have f4 : ∀ x, f x ≤ 400 := fun x => by
    rw [hf]
    exact Nat.le_trans (List.length_filter_le _ _) s0
  refine qu_ (v := if as.length = 0 then -1 else io_ (wg_ f 102)) h (fun M ta tm Q hr K => ?_) (fun S E B Q hS RK hJ K => ?_)
  · obtain ⟨as', b1, b2, b3, b4⟩ := hr.2.1.2.1
    have el : as'.length = as.length := (nI_eq (by omega) (by omega)).mp (b1.symm.trans s1)
    have c6 : mm_i M 81 1 = nI as.length := by
      rw [b4.2.2.2.2.2.1, List.length_map, el]
    refine wc_X10_worst_0 (re_m5 hr) ?_
    by_cases z : as.length = 0
    · rw [if_pos z] at K
      refine wc_X10_worst_6 (re_m5 hr) ⟨fun _ => K, fun _ => ?_⟩
      rw [hr.1.1.1.2.2.2.2.1, c6, z]
      exact ⟨b4.1, fun _ => K, fun q => absurd (by decide) q⟩
    · rw [if_neg z] at K
      have loop : ∀ j c, c + j = 102 → cw_i mt_X10_worst 6 [some (pv_r 5), some (pv_i (io_ (wg_ f c))), some (pv_i (nI (wo_ f (wg_ f c)))), some (pv_i (nI c)), none] [] M Q := by
        intro j
        induction j with
        | zero =>
          intro c hc
          have : c = 102 := by omega
          subst this
          exact wc_X10_worst_6 (re_m5 hr) ⟨fun _ => K, fun q => absurd (by decide) q⟩
        | succ j ih =>
          intro c hc
          have ih := ih (c + 1) (by omega)
          refine wc_X10_worst_6 (re_m5 hr) ⟨fun q => absurd q (i101 (by omega)), fun _ => ?_⟩
          rw [hr.1.1.1.2.2.2.2.1, c6]
          refine ⟨b4.1, fun q => absurd q (show ¬ nI as.length ≤ nI 0 by rw [nI_leI (by omega) (by decide)]; omega), fun _ => ce_asideBy hr s0 s1 s4' ?_⟩
          have ef : (as.filter (bp_ I m (nI c))).length = f c := by rw [hf]; rfl
          rw [ef, nI_leI (by have := f4 c; omega) (by have := wo_le (c := c) f4; omega), nI_1]
          refine ⟨fun q => ?_, fun q => ?_⟩
          · rw [wg_no q] at ih
            exact ih
          · rw [wg_yes q] at ih
            exact ih
      exact loop 102 0 rfl
  · have eb : ∀ x, bp_ (pt_ S E I) m x = bp_ I m x := fun x => by
      funext t
      unfold bp_
      rw [nt_T (uf_us hS)]
    have s1' : pt_ S E I (m + 1) 3 = nI as.length := (uf_at hS (by omega) (by omega)).trans s1
    have bl : ∀ {c : Nat} {R : Int32 → fI → Prop}, c < 102 → R (nI (f c)) (pt_ S E I) → rs_i mt_X11_blamed [pv_r m, pv_i (nI c)] B (pt_ S E I) R := fun {c R} hc KR => by
      refine wq_X11_blamed_0 RK ⟨fun _ => ?_, fun q => absurd ⟨nI_pos' (by omega), show nI c ≤ nI 101 from nI_le (by omega) (by decide)⟩ q⟩
      refine rc_bl16 RK s0 h4 s1' (fun i x q => ⟨(uf_at hS (by omega) (by omega)).trans (s4' i x q).1, (s4' i x q).2⟩) ?_ as [] rfl
      rw [eb]
      have ef : (as.filter (bp_ I m (nI c))).length = f c := by rw [hf]; rfl
      rw [ef]
      exact KR
    refine wq_X11_worst_0 RK ?_
    rw [s1']
    by_cases z : as.length = 0
    · rw [if_pos z] at K
      rw [z]
      exact ⟨fun q => absurd rfl q, fun _ => K⟩
    · rw [if_neg z] at K
      refine ⟨fun _ => ?_, fun q => absurd q (nI_ne0 (by omega) (by omega))⟩
      -- one is there
      have sm : ∃ q, wg_ f 102 = some q := by
        cases hg : wg_ f 102 with
        | some q => exact ⟨q, rfl⟩
        | none =>
          exfalso
          obtain ⟨t, ht⟩ : ∃ t, t ∈ as := by
            cases has : as with
            | nil => rw [has] at z; exact absurd rfl z
            | cons t ts => exact ⟨t, List.mem_cons_self⟩
          obtain ⟨q1, q2⟩ := (s3 t).mp ht
          obtain ⟨c, c1, c2⟩ := hB t q1 q2
          have := of_decide_eq_false (bs_none hg c (by omega))
          have : 0 < f c := by
            rw [hf]
            exact List.length_pos_of_mem (List.mem_filter.mpr ⟨ht, decide_eq_true c2⟩)
          omega
      have loop : ∀ j c, 1 ≤ c → c + j = 102 → rw_i mt_X11_worst 15 [some (pv_r m), some (pv_i (nI ((wg_ f c).getD 0))), some (pv_i (nI c))] [] B (pt_ S E I) Q := by
        intro j
        induction j with
        | zero =>
          intro c _ hc
          have : c = 102 := by omega
          subst this
          obtain ⟨q, e⟩ := sm
          rw [e] at K ⊢
          exact wq_X11_worst_15 RK ⟨fun _ => K, fun q => absurd (by decide) q⟩
        | succ j ih =>
          intro c h1 hc
          have ih := ih (c + 1) (by omega) (by omega)
          have hq : (wg_ f c).getD 0 < 102 := by
            cases hg : wg_ f c with
            | none => decide
            | some q =>
              have := (bs_lt hg).1
              show q < 102
              omega
          have fo : f ((wg_ f c).getD 0) = wo_ f (wg_ f c) := by
            cases hg : wg_ f c with
            | none =>
              have := of_decide_eq_false (bs_none hg 0 (by omega))
              show f 0 = 0
              omega
            | some q => rfl
          refine wq_X11_worst_15 RK ⟨fun q => absurd q (i101 (by omega)), fun _ => bl (by omega) (bl hq ?_)⟩
          rw [fo, nI_leI (by have := f4 c; omega) (by have := wo_le (c := c) f4; omega), nI_1]
          refine ⟨fun q => ?_, fun q => ?_⟩
          · rw [wg_no q] at ih
            exact ih
          · rw [wg_yes q] at ih
            exact ih
      have e1 : (wg_ f 1).getD 0 = 0 := by
        cases hg : wg_ f 1 with
        | none => rfl
        | some q =>
          have := (bs_lt hg).1
          show q = 0
          omega
      have := loop 101 1 (by omega) rfl
      rw [e1] at this
      exact this
end Wst
