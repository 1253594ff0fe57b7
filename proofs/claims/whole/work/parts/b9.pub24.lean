/-! banned -/
section Pub24
variable {B M M' : mm_T} {I J E : Nat → Nat → Int32} {m n T W P L : Nat} {ta tm : Nat → Nat} {S : Nat → Nat → Bool}
def bn_ (I : fI) (m x : Nat) : Bool := decide (¬ I (m + 3) x < I (m + 1) 9)
def bq_ (I : fI) (m : Nat) (x1 : Int32) (x : Nat) : Bool := bn_ I m x && decide (nI (cn_ (bn_ I m) x) = x1)
theorem rc_ban (RK : rf_ok B m) {x1 : Int32} {Q : Int32 → fI → Prop} : ∀ (j x : Nat), x + j = 10000 → Q (io_ (fi_ (bq_ I m x1) j x)) I → rw_i mt_X11_banned 4 [some (pv_r m), some (pv_i x1), some (pv_i (nI (cn_ (bn_ I m) x))), some (pv_i (nI x))] [] B I Q
  | 0, x, hx, K => by
    have : x = 10000 := by omega
    subst this
    exact wq_X11_banned_4 RK ⟨fun _ => K, fun q => absurd (by decide) q⟩
  | j + 1, x, hx, K => by
    have ih := rc_ban RK (x1 := x1) (Q := Q) j (x + 1) (by omega)
    have es : cn_ (bn_ I m) (x + 1) = cn_ (bn_ I m) x + if bn_ I m x = true then 1 else 0 := rfl
    rw [es] at ih
    unfold fi_ at K
    refine wq_X11_banned_4 RK ⟨fun q => absurd q (show ¬ nI 10000 ≤ nI x from nI_ge (by omega) (by decide)), fun _ => rc_isBanned RK rfl (by omega) ?_⟩
    rw [nI_1, nI_1]
    by_cases z : I (m + 3) x < I (m + 1) 9
    · have zf : ¬ bn_ I m x = true := fun y => of_decide_eq_true y z
      rw [if_pos z]
      rw [if_neg zf] at ih
      rw [if_neg (fun y => zf (by unfold bq_ at y; rw [Bool.and_eq_true] at y; exact y.1))] at K
      exact ⟨fun q => absurd rfl q, fun _ => ih K⟩
    · have zt : bn_ I m x = true := decide_eq_true z
      rw [if_neg z]
      rw [if_pos zt] at ih
      refine ⟨fun _ => ⟨fun q => ih ?_, fun q => ?_⟩, fun q => absurd q (by decide)⟩
      · rw [if_neg (fun y => q (by unfold bq_ at y; rw [Bool.and_eq_true] at y; exact of_decide_eq_true y.2))] at K
        exact K
      · rw [if_pos (by unfold bq_; rw [Bool.and_eq_true]; exact ⟨zt, decide_eq_true q⟩)] at K
        exact K
theorem ban_sk {x1 : Int32} : ∀ (d x j : Nat), (∀ y, x ≤ y → y < x + d → bn_ I m y = false) → fi_ (bq_ I m x1) (d + j) x = fi_ (bq_ I m x1) j (x + d) ∧ cn_ (bn_ I m) (x + d) = cn_ (bn_ I m) x
  | 0, x, j, _ => ⟨by rw [Nat.zero_add, Nat.add_zero], rfl⟩
  | d + 1, x, j, h => by
    have h0 := h x (Nat.le_refl _) (by omega)
    have ih := ban_sk (x1 := x1) d (x + 1) j (fun y q1 q2 => h y (by omega) (by omega))
    rw [show x + 1 + d = x + (d + 1) by omega] at ih
    refine ⟨?_, ?_⟩
    · rw [show d + 1 + j = (d + j) + 1 by omega]
      show (if bq_ I m x1 x = true then some x else fi_ (bq_ I m x1) (d + j) (x + 1)) = _
      rw [if_neg (fun y => by unfold bq_ at y; rw [Bool.and_eq_true, h0] at y; exact absurd y.1 (by decide))]
      exact ih.1
    · rw [ih.2]
      show cn_ (bn_ I m) x + (if bn_ I m x = true then 1 else 0) = _
      rw [h0]
      rfl
theorem sm_banned (h : ix_ I m n T W P L) {x1 : Int32} : ∃ v, sm_ I m n T W P L (v, I) (fun M Q => cs_i mt_X10_banned [pv_r 5, pv_i x1] M Q) (fun B J Q => rs_i mt_X11_banned [pv_r m, pv_i x1] B J Q) := by
  refine qu_ (v := io_ (fi_ (bq_ I m x1) 10000 0)) h (fun M ta tm Q hr K => ?_) (fun S E B Q hS RK hJ K => ?_)
  · obtain ⟨b1, b2⟩ := re_bk hr
    obtain ⟨r1, r2, r3⟩ := re_rules hr
    obtain ⟨k1, k2, k3, k4, k5⟩ := hr.1.1.2.2.2.1
    obtain ⟨ks, a1, a2, a3, a4, a5, a6⟩ := hr.2.2.1
    obtain ⟨lim, hlim2, hlim, elim⟩ := h.1.2.1.2.2.2.2.2.2
    refine wc_X10_banned_0 (re_m5 hr) ?_
    rw [b1, r1, hr.1.1.1.2.2.2.2.2.2.2.2.1, r3 5 (by decide)]
    have loop : ∀ (suf pre : List Nat) (x0 : Nat), pre ++ suf = ks → x0 ≤ 10000 → (∀ y, y ∈ suf → x0 ≤ y) → (∀ y, x0 ≤ y → y < 10000 → y ∉ suf → bn_ I m y = false) → Q (io_ (fi_ (bq_ I m x1) (10000 - x0) x0)) M → cw_i mt_X5_kthWith 5 [some (pv_r 93), some (pv_i (I (m + 1) 9)), some (pv_i x1), some (pv_i (nI (cn_ (bn_ I m) x0))), some (pv_i (nI pre.length))] [] M Q := by
      intro suf
      induction suf with
      | nil =>
        intro pre x0 e hx0 _ hb K
        rw [List.append_nil] at e
        subst e
        refine wc_X5_kthWith_5 k1 ?_
        rw [a2]
        have sk := (ban_sk (x1 := x1) (10000 - x0) x0 0 (fun y q1 q2 => hb y q1 (by omega) (by simp))).1
        rw [Nat.add_zero] at sk
        rw [sk] at K
        exact ⟨fun _ => K, fun q => absurd (Int32.le_refl _) q⟩
      | cons y ys ih =>
        intro pre x0 e hx0 hge hb K
        have hlen : pre.length < ks.length := by rw [← e, List.length_append, List.length_cons]; omega
        have gy : ks[pre.length]? = some y := by rw [← e]; simp
        obtain ⟨e1, e2, e3⟩ := a3 _ _ gy
        have hxy := hge y List.mem_cons_self
        have srt : (y :: ys).Pairwise (· < ·) := by
          have := a4
          rw [← e] at this
          exact (List.pairwise_append.mp this).2.1
        have hlt : ∀ z, z ∈ ys → y < z := (List.pairwise_cons.mp srt).1
        obtain ⟨s1, s2⟩ := ban_sk (I := I) (m := m) (x1 := x1) (y - x0) x0 (10000 - y) (fun z q1 q2 => hb z q1 (by omega) (fun w => by
          rcases List.mem_cons.mp w with w | w
          · omega
          · have := hlt z w; omega))
        rw [show y - x0 + (10000 - y) = 10000 - x0 by omega, show x0 + (y - x0) = y by omega] at s1
        rw [show x0 + (y - x0) = y by omega] at s2
        rw [s1, show 10000 - y = (10000 - (y + 1)) + 1 by omega] at K
        unfold fi_ at K
        have es : cn_ (bn_ I m) (y + 1) = cn_ (bn_ I m) y + if bn_ I m y = true then 1 else 0 := rfl
        have ih' := ih (pre ++ [y]) (y + 1) (by rw [← e]; simp) (by omega) (fun z q => hlt z q) (fun z q1 q2 q3 => hb z (by omega) q2 (fun w => by
          rcases List.mem_cons.mp w with w | w
          · omega
          · exact q3 w))
        rw [es, s2, List.length_append, show pre.length + [y].length = pre.length + 1 from rfl] at ih'
        refine wc_X5_kthWith_5 k1 ?_
        rw [a2, k3, k2]
        refine ⟨fun q => absurd q (nI_ge hlen (by omega)), fun _ => ⟨400, k5, pre.length, ⟨rfl, by omega⟩, ?_⟩⟩
        rw [e2, e1]
        refine ⟨fun q => ?_, fun q => ?_⟩
        · have zt : bn_ I m y = true := decide_eq_true (Int32.not_lt.mpr q)
          rw [if_pos zt] at ih'
          refine ⟨fun q2 => ?_, fun q2 => ⟨400, k4, by omega, ?_⟩⟩
          · rw [if_neg (fun w => q2 (by unfold bq_ at w; rw [Bool.and_eq_true, s2] at w; exact of_decide_eq_true w.2))] at K
            rw [nI_1]
            exact ih' K
          · rw [if_pos (by unfold bq_; rw [Bool.and_eq_true, s2]; exact ⟨zt, decide_eq_true q2⟩)] at K
            exact K
        · have zf : ¬ bn_ I m y = true := fun w => q (Int32.not_lt.mp (of_decide_eq_true w))
          rw [if_neg zf] at ih'
          rw [if_neg (fun w => zf (by unfold bq_ at w; rw [Bool.and_eq_true] at w; exact w.1))] at K
          exact ih' K
    refine ⟨b2, 6, r2, by decide, k1, wc_X5_kthWith_0 k1 (loop ks [] 0 rfl (by omega) (fun _ _ => Nat.zero_le _) (fun y _ q2 q3 => ?_) K)⟩
    refine decide_eq_false (fun w => w ?_)
    rw [a5 y q2 q3, elim]
    exact show nI 0 < nI lim from nI_lt (by omega) (by omega)
  · refine wq_X11_banned_0 RK (rc_ban RK 10000 0 rfl ?_)
    have e : bn_ (pt_ S E I) m = bn_ I m := by
      funext x
      unfold bn_
      rw [uf_at hS (by omega) (by omega), uf_at hS (by omega) (by omega)]
    have e2 : bq_ (pt_ S E I) m x1 = bq_ I m x1 := by
      funext x
      unfold bq_
      rw [e]
    rw [e2]
    exact K
end Pub24
