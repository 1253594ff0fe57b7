/-! spread -/
section Pub21
variable {B M M' : mm_T} {I J E : Nat → Nat → Int32} {m n T W P L : Nat} {ta tm : Nat → Nat} {S : Nat → Nat → Bool}
def sG_ (I : fI) (m n c : Nat) : Option Nat := bs_ (fun l => ra_live I m n (nI l)) (fun a c => decide (ra_L I m c 4 < ra_L I m a 4)) c
def sS_ (I : fI) (m n c : Nat) : Option Nat := bs_ (fun l => ra_live I m n (nI l)) (fun a c => decide (ra_L I m a 4 < ra_L I m c 4)) c
def sV_ (I : fI) (m : Nat) (x1 : Int32) : Option Nat → Option Nat → Int32
  | some g, some s => if x1 = 0 then ra_L I m g 4 - ra_L I m s 4 else if x1 = 1 then nI g else nI s
  | _, _ => -1
theorem sGS {c : Nat} (h : sS_ I m n c = none) : sG_ I m n c = none := by
  have h1 := bs_none h
  cases hg : sG_ I m n c with
  | none => rfl
  | some g =>
    have := bs_lt hg
    rw [h1 g this.1] at this
    exact absurd this.2 (by decide)
theorem sSG {c : Nat} (h : sG_ I m n c = none) : sS_ I m n c = none := by
  have h1 := bs_none h
  cases hg : sS_ I m n c with
  | none => rfl
  | some g =>
    have := bs_lt hg
    rw [h1 g this.1] at this
    exact absurd this.2 (by decide)
theorem rc_spr (RK : rf_ok B m) (hn : I (m + 1) 1 = nI n) (h4 : n ≤ 400) {x1 : Int32} {Q : Int32 → fI → Prop} (K : Q (sV_ I m x1 (sG_ I m n 5) (sS_ I m n 5)) I) : ∀ (j c : Nat), c + j = 5 → rw_i mt_X11_spread 18 [some (pv_r m), some (pv_i x1), some (pv_i (io_ (sG_ I m n c))), some (pv_i (io_ (sS_ I m n c))), some (pv_i (nI c))] [] B I Q
  | 0, c, hc => by
    have : c = 5 := by omega
    subst this
    refine wq_X11_spread_18 RK ⟨fun _ => ?_, fun q => absurd (by decide) q⟩
    cases hg : sG_ I m n 5 with
    | none =>
      rw [hg] at K
      exact ⟨fun q => absurd rfl q, fun _ => K⟩
    | some g =>
      cases hs : sS_ I m n 5 with
      | none => rw [sGS hs] at hg; cases hg
      | some s =>
        have g5 := (bs_lt hg).1
        have s5 := (bs_lt hs).1
        rw [hg, hs] at K
        have K : Q (if x1 = 0 then ra_L I m g 4 - ra_L I m s 4 else if x1 = 1 then nI g else nI s) I := K
        refine ⟨fun _ => ⟨fun q => ⟨fun q2 => ?_, fun q2 => ?_⟩, fun q => ⟨g, ⟨rfl, g5⟩, s, ⟨rfl, s5⟩, ?_⟩⟩, fun q => absurd q (nI_nm (by omega))⟩
        · rw [if_neg q, if_neg q2] at K; exact K
        · rw [if_neg q, if_pos q2] at K; exact K
        · rw [if_pos q] at K; exact K
  | j + 1, c, hc => by
    have ih := rc_spr RK hn h4 K j (c + 1) (by omega)
    have hc5 : c < 5 := by omega
    refine wq_X11_spread_18 RK ⟨fun q => absurd q (nI_5 hc5), fun _ => rc_isLive RK hn h4 ?_⟩
    rw [nI_1]
    by_cases z : ra_live I m n (nI c) = true
    · rw [if_pos z]
      refine ⟨fun _ => ?_, fun q => absurd q (by decide)⟩
      cases hg : sG_ I m n c with
      | none =>
        have hs := sSG hg
        rw [show sG_ I m n (c + 1) = some c from bs_n z hg, show sS_ I m n (c + 1) = some c from bs_n z hs] at ih
        rw [hs]
        exact ⟨fun _ => ⟨fun _ => ih, fun q => absurd rfl q⟩, fun q => absurd rfl q⟩
      | some g =>
        cases hs : sS_ I m n c with
        | none => rw [sGS hs] at hg; cases hg
        | some s =>
          have g5 := (bs_lt hg).1
          have s5 := (bs_lt hs).1
          rw [show sG_ I m n (c + 1) = _ from bs_s z hg, show sS_ I m n (c + 1) = _ from bs_s z hs] at ih
          have sfin : ∀ y : Int32, rw_i mt_X11_spread 18 [some (pv_r m), some (pv_i x1), some (pv_i y), some (pv_i (io_ (if decide (ra_L I m c 4 < ra_L I m s 4) = true then some c else some s))), some (pv_i (nI (c + 1)))] [] B I Q → (((io_ (some s) = (-1)) → rw_i mt_X11_spread 18 [some (pv_r m), some (pv_i x1), some (pv_i y), some (pv_i (nI c)), some (pv_i (nI (c + 1)))] [] B I Q) ∧ ((¬ io_ (some s) = (-1)) → ∃ n9, (io_ (some s) = nI n9 ∧ n9 < 5) ∧ ((((I (m + 1) ((10 + 10 * n9) + 4) ≤ I (m + 1) ((10 + 10 * c) + 4)) → rw_i mt_X11_spread 18 [some (pv_r m), some (pv_i x1), some (pv_i y), some (pv_i (io_ (some s))), some (pv_i (nI (c + 1)))] [] B I Q) ∧ ((¬ I (m + 1) ((10 + 10 * n9) + 4) ≤ I (m + 1) ((10 + 10 * c) + 4)) → rw_i mt_X11_spread 18 [some (pv_r m), some (pv_i x1), some (pv_i y), some (pv_i (nI c)), some (pv_i (nI (c + 1)))] [] B I Q))))) := fun y ih => by
            refine ⟨fun q => absurd q (nI_nm (by omega)), fun _ => ⟨s, ⟨rfl, by omega⟩, fun q => ?_, fun q => ?_⟩⟩
            · rw [if_neg (fun w => absurd (of_decide_eq_true w) (Int32.not_lt.mpr (show ra_L I m s 4 ≤ ra_L I m c 4 from q)))] at ih
              exact ih
            · rw [if_pos (decide_eq_true (show ra_L I m c 4 < ra_L I m s 4 from Int32.not_le.mp q))] at ih
              exact ih
          refine ⟨fun q => absurd q (nI_nm (by omega)), fun _ => ⟨c, ⟨rfl, hc5⟩, g, ⟨rfl, by omega⟩, fun q => ?_, fun q => ?_⟩⟩
          · rw [if_neg (fun w => absurd (of_decide_eq_true w) (Int32.not_lt.mpr (show ra_L I m c 4 ≤ ra_L I m g 4 from q)))] at ih
            exact sfin _ ih
          · rw [if_pos (decide_eq_true (show ra_L I m g 4 < ra_L I m c 4 from Int32.not_le.mp q))] at ih
            exact sfin _ ih
    · rw [if_neg z]
      have zf : ra_live I m n (nI c) = false := by simpa using z
      rw [show sG_ I m n (c + 1) = sG_ I m n c from bs_f zf, show sS_ I m n (c + 1) = sS_ I m n c from bs_f zf] at ih
      exact ⟨fun q => absurd rfl q, fun _ => ih⟩
theorem sm_spread (h : ix_ I m n T W P L) {x1 : Int32} : ∃ v, sm_ I m n T W P L (v, I) (fun M Q => cs_i mt_X10_spread [pv_r 5, pv_i x1] M Q) (fun B J Q => rs_i mt_X11_spread [pv_r m, pv_i x1] B J Q) := by
  have h4 := ix_4 h
  have el : ra_lane I m n 0 = sS_ I m n 5 := bs_eq (fun l _ => by unfold ra_may; simp) (fun _ _ _ _ => rfl)
  refine qu_ (v := if 0 ≤ x1 ∧ x1 ≤ 2 then sV_ I m x1 (sG_ I m n 5) (sS_ I m n 5) else -1) h (fun M ta tm Q hr K => ?_) (fun S E B Q hS RK hJ K => ?_)
  · refine wc_X10_spread_0 (re_m5 hr) ?_
    rw [(re_bk hr).1]
    refine ⟨(re_bk hr).2, cb_theLane hr.1.2.1 ?_⟩
    rw [(re_bk hr).1, el]
    refine ⟨(re_bk hr).2, cb_great hr.1.2.1 ?_⟩
    show _ ∧ _
    cases hs : sS_ I m n 5 with
    | none =>
      refine ⟨fun _ => ?_, fun q => absurd rfl q⟩
      rw [hs, sGS hs] at K
      have : (if 0 ≤ x1 ∧ x1 ≤ 2 then sV_ I m x1 none none else -1) = -1 := by split <;> rfl
      rw [this] at K
      exact K
    | some s =>
      cases hg : sG_ I m n 5 with
      | none => rw [sSG hg] at hs; cases hs
      | some g =>
        have g5 := (bs_lt hg).1
        have s5 := (bs_lt hs).1
        have kg := br_ln hr.1.2.1 g5
        have ks := br_ln hr.1.2.1 s5
        rw [hs, hg] at K
        rw [show bs_ (fun l => ra_live I m n (nI l)) (fun a c => decide (ra_L I m c 4 < ra_L I m a 4)) 5 = some g from hg]
        show ((6 + 6 + s = 0) → _) ∧ ((¬ 6 + 6 + s = 0) → ((¬ 6 + 6 + g = 0) → _) ∧ ((6 + 6 + g = 0) → _))
        refine ⟨fun q => absurd q (by omega), fun _ => ⟨fun _ => ⟨fun e => ⟨kg.1, ks.1, ?_⟩, fun e => ⟨kg.1, ?_⟩, fun e => ⟨ks.1, ?_⟩, fun e => ?_⟩, fun q => absurd q (by omega)⟩⟩
        · show Q (mm_i M (6 + 6 + g) 5 - mm_i M (6 + 6 + s) 5) M
          rw [(hr.1.2.1.2.2.1 g g5).2.2.2, (hr.1.2.1.2.2.1 s s5).2.2.2]
          rw [e] at K
          exact K
        · show Q (mm_i M (6 + 6 + g) 0) M
          rw [kg.2.2]
          rw [e] at K
          exact K
        · show Q (mm_i M (6 + 6 + s) 0) M
          rw [ks.2.2]
          rw [e] at K
          exact K
        · rw [if_neg (fun y => ?_)] at K
          · exact K
          · obtain ⟨f, hf, rfl⟩ := i32_in (N := 2) (by decide) y
            have : f = 0 ∨ f = 1 ∨ f = 2 := by omega
            rcases this with rfl | rfl | rfl
            · exact e.1 rfl
            · exact e.2.1 rfl
            · exact e.2.2 rfl
  · refine wq_X11_spread_0 RK ⟨fun c => rc_spr RK (ix_1 hJ) h4 ?_ 5 0 rfl, fun c => by rw [if_neg c] at K; exact K⟩
    rw [if_pos c] at K
    have lv : ∀ l : Nat, ra_live (pt_ S E I) m n (nI l) = ra_live I m n (nI l) := fun l => nt_live (uf_us hS)
    have eL : ∀ l, ra_L (pt_ S E I) m l 4 = ra_L I m l 4 := fun l => uf_at hS (by omega) (by omega)
    have e1 : sG_ (pt_ S E I) m n 5 = sG_ I m n 5 := by unfold sG_; simp only [lv, eL]
    have e2 : sS_ (pt_ S E I) m n 5 = sS_ I m n 5 := by unfold sS_; simp only [lv, eL]
    rw [e1, e2]
    have e3 : ∀ a b, sV_ (pt_ S E I) m x1 a b = sV_ I m x1 a b := fun a b => by
      cases a with
      | none => rfl
      | some g =>
        cases b with
        | none => rfl
        | some s =>
          show (if x1 = 0 then ra_L (pt_ S E I) m g 4 - ra_L (pt_ S E I) m s 4 else if x1 = 1 then nI g else nI s) = if x1 = 0 then ra_L I m g 4 - ra_L I m s 4 else if x1 = 1 then nI g else nI s
          rw [eL, eL]
    rw [e3]
    exact K
end Pub21
