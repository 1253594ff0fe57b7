/-! the run on paper in the reference: done, taken, the next event -/
section Rrf2
variable {B : mm_T} {I J N : Nat → Nat → Int32} {m n Pb t w X : Nat} {en : Nat → Int32} {pb : Int32}
theorem lb_8 (h : N m 8 = 1) : lb_ N m 0 := fun q => by rw [h] at q; exact absurd q (by decide)
theorem rb_row (h : rb_ J m n pb) (e : N (m + 1) = J (m + 1)) : rb_ N m n pb := rb_o h (by rw [e]) (fun _ _ => by unfold ra_T; rw [e]) (fun _ _ => by unfold ra_L; rw [e])
theorem lst_2 {x y : Int32} : ∀ {ts : List Nat}, ts ≠ [] → lst_ x ts = lst_ y ts
  | [], h => absurd rfl h
  | t :: ts, _ => rfl
theorem lst_n {x : Int32} : ∀ {ts : List Nat}, (∀ t, t ∈ ts → t < 400) → ts ≠ [] → ¬ lst_ x ts = -1
  | [], _, h => absurd rfl h
  | [t], h, _ => nI_nm (by have := h t List.mem_cons_self; omega)
  | t :: y :: ts, h, _ => by
    show ¬ lst_ (nI t) (y :: ts) = -1
    exact lst_n (fun x q => h x (List.mem_cons_of_mem _ q)) (by simp)
theorem rc_done8 (RK : rf_ok B m) (hw6 : w ≤ 6) {P : fI → Prop} : ∀ (ts : List Nat) {N J : fI} {x2 : Int32}, rq_ N m n w J en → pp_ J m n Pb → dl_ J m n en = ts → (∀ t, t ∈ ts → x2 ≤ nI t) → (∀ N', rq_ N' m n w (fcs J m n ts) en → (∀ a j, a ≠ m + 1 → a ≠ m + 9 → (a ≠ m ∨ j ≠ 17) → N' a j = N a j) → (∀ j, 6200 ≤ j → N' (m + 1) j = N (m + 1) j) → N' m 17 = (if lst_ x2 ts = -1 then N m 17 else lst_ x2 ts) → P N') → rw_v mt_X11_doneOnPaper 8 [some (pv_r m), some (pv_i (nI w)), some (pv_i x2), some (pv_i (io_ (nd_ N m w)))] [] B N P
  | [], N, J, x2, h, hp, hts, hx, K => by
    have h4 := hp.1.1.2.1
    rw [nd_nil h h4 hts]
    have KK : ∀ v, v = (if x2 = -1 then N m 17 else x2) → P (i2_u N m 17 v) := fun v ev => by
      refine K (i2_u N m 17 v) ⟨?_, (i2_uj (by decide)).trans h.2.1, ?_⟩ (fun a j q1 q2 q3 => by rw [i2_at, if_neg (by omega)]) (fun j _ => i2_ua (by omega)) (i2_us.trans ev)
      · funext j
        rw [i2_ua (by omega)]
        show N (m + 1) j = fcs J m n [] (m + 1) j
        rw [h.1]
        rfl
      · have e9 : ∀ k, i2_u N m 17 v (m + 9) k = N (m + 9) k := fun k => i2_ua (by omega)
        have e10 : ∀ k, i2_u N m 17 v (m + 10) k = N (m + 10) k := fun k => i2_ua (by omega)
        unfold mt_
        simp only [e9, e10]
        exact h.2.2
    refine wq_X11_doneOnPaper_8 RK ⟨fun _ => ⟨fun c I1 e1 => ?_, fun c I2 e2 => ?_⟩, fun c => absurd rfl c⟩
    · rw [e1]
      exact KK x2 (by rw [if_neg c])
    · rw [e2]
      exact KK _ (by rw [if_pos c])
  | t :: ts, N, J, x2, h, hp, hts, hx, K => by
    have h4 := hp.1.1.2.1
    obtain ⟨t1, t2, t3⟩ := dl_m (J := J) (m := m) (n := n) (en := en) (t := t) (by rw [hts]; exact List.mem_cons_self)
    obtain ⟨k, k1, k2, k3⟩ := nd_cons h h4 hts
    obtain ⟨qb, -, hb⟩ := pp_rb hp
    have hbN := rb_row hb h.1
    rw [k1]
    refine wq_X11_doneOnPaper_8 RK ⟨fun c => absurd c (nI_nm (by omega)), fun _ => ⟨k, ⟨rfl, by omega⟩, ?_⟩⟩
    rw [k3, if_pos (hx t List.mem_cons_self)]
    refine rc_frees RK hbN (lb_8 h.2.1) (by omega) rfl t1 (fun I5 e5 => rc_nd RK hw6 ?_)
    have o5 : ∀ a j, a ≠ m + 1 → (a ≠ m + 9 ∨ j ≠ k) → I5 a j = N a j := fun a j q1 q2 => by
      rw [e5, i2_at, if_neg (by omega)]
      exact fre_tf hbN h.2.1 h4 a j q1
    have r5 : I5 (m + 1) = sp_frees J m n t (m + 1) := by
      rw [e5]
      funext j
      rw [i2_ua (by omega), fre_row h.1]
    have e9 : ∀ i, I5 (m + 9) i = if i = k then -1 else N (m + 9) i := fun i => by
      by_cases z : i = k
      · rw [if_pos z, e5, z, i2_us]
      · rw [if_neg z]
        exact o5 _ _ (by omega) (by omega)
    have q5 : rq_ I5 m n w (sp_frees J m n t) en := ⟨r5, (o5 _ _ (by omega) (by omega)).trans h.2.1, mt_fre h.2.2 h4 hb k2 k3 t1 t2 e9 (fun i => o5 _ _ (by omega) (by omega))⟩
    have e0 : sp_frees J m n t (m + 1) 0 = J (m + 1) 0 := fre_o hb (by omega) (by omega) (by omega)
    refine rc_done8 RK hw6 ts q5 (pp_fre hp t1 t2) (hs_tl hts (fun x hx => ?_)) (fun x hx => nI_le (Nat.le_of_lt (rg_hd hts x hx)) (by have := dl_m (J := J) (m := m) (n := n) (en := en) (t := x) (by rw [hts]; exact List.mem_cons_of_mem _ hx); omega)) (fun N' g1 g2 g3 g4 => K N' g1 (fun a j q1 q2 q3 => (g2 a j q1 q2 q3).trans (o5 a j q1 (by omega))) (fun j q => ?_) ?_)
    · unfold dp_
      rw [e0, fre_6 hb]
      by_cases z : x < n ∧ x ≠ t ∧ ra_T J m x 6 = 1 ∧ ra_T J m x 4 = nI t
      · rw [if_pos z, z.2.2.1]
        rfl
      · rw [if_neg z]
        by_cases y : x = t
        · rw [if_pos y]
          simp [y]
        · rw [if_neg y]
          simp [y]
    · rw [g3 j q, r5, h.1]
      have e2 : ∀ (ts : List Nat) (K : fI), (∀ x, x ∈ ts → x < n) → rb_ K m n (nI qb) → sp_frs K m n ts (m + 1) j = K (m + 1) j := fun ts K q1 q2 => frs_o q1 q2 (Or.inr ⟨fun x hx => by have := q1 x hx; omega, by omega⟩) (by omega) (by omega)
      unfold sp_frees
      rw [e2 _ _ (fun x hx => (hs_lt hx).1) (rb_T6 hb)]
      exact i2_uj (by omega)
    · rw [g4, o5 _ _ (by omega) (by omega)]
      rfl
theorem rc_dop (RK : rf_ok B m) (hw6 : w ≤ 6) (h : rq_ N m n w J en) (hp : pp_ J m n Pb) {la : Int32} (h17 : N m 17 = la) {P : fI → Prop} (K : ∀ N', rq_ N' m n w (fcs J m n (dl_ J m n en)) en → (∀ a j, a ≠ m + 1 → a ≠ m + 9 → (a ≠ m ∨ j ≠ 17) → N' a j = N a j) → (∀ j, 6200 ≤ j → N' (m + 1) j = N (m + 1) j) → N' m 17 = lst_ la (dl_ J m n en) → P N') : rs_v mt_X11_doneOnPaper [pv_r m, pv_i (nI w)] B N P := by
  have h4 := hp.1.1.2.1
  refine wq_X11_doneOnPaper_0 RK (rc_nd RK hw6 (rc_done8 RK hw6 (dl_ J m n en) h hp rfl (fun t ht => ?_) (fun N' g1 g2 g3 g4 => K N' g1 g2 g3 ?_)))
  · exact Int32.le_of_lt (show (-1 : Int32) < nI t from by
      have := dl_m ht
      exact Int32.lt_of_lt_of_le (show (-1 : Int32) < 0 by decide) (nI_pos' (by omega)))
  · rw [g4, h17]
    by_cases z : dl_ J m n en = []
    · rw [z]
      rfl
    · rw [if_neg (lst_n (fun t ht => by have := dl_m ht; omega) z)]
      exact lst_2 z
end Rrf2
