/-! the run on paper in the reference: the loop -/
section Rrf4
variable {B : mm_T} {I J N F : Nat → Nat → Int32} {m n Pb t w X Y : Nat} {en e : Nat → Int32} {pb x2 x0 v : Int32}
def em_ (F : fI) (m n : Nat) (x2 x0 : Int32) (e : Nat → Int32) (v : Int32) : Prop := x2 = -1 ∨ ∃ l, l < 5 ∧ x2 = nI l ∧ ((v = -1 ∧ (0 < cn_ (ra_st F m x2) n ∨ e l = F (m + 1) 0 - x0)) ∨ (v = e l ∧ cn_ (ra_st F m x2) n = 0 ∧ ¬ e l = -1))
def em2 (F : fI) (m n : Nat) (x2 : Int32) (e : Nat → Int32) (v : Int32) : Prop := x2 = -1 ∨ ∃ l, l < 5 ∧ x2 = nI l ∧ ((v = -1 ∧ 0 < cn_ (ra_st F m x2) n) ∨ (v = e l ∧ cn_ (ra_st F m x2) n = 0 ∧ ¬ e l = -1))
theorem emp_miss {l : Nat} : ∀ {ts : List Nat} {e : Nat → Int32}, (∀ t, t ∈ ts → ¬ l = lmI J m t) → emp_ J m v e ts l = e l
  | [], _, _ => rfl
  | t :: ts, e, h => by
    show emp_ J m v (fun l => if l = lmI J m t then v else e l) ts l = e l
    rw [emp_miss (fun x q => h x (List.mem_cons_of_mem _ q))]
    exact if_neg (h t List.mem_cons_self)
theorem emp_hit {l : Nat} : ∀ {ts : List Nat} {e : Nat → Int32}, (∃ t, t ∈ ts ∧ l = lmI J m t) → emp_ J m v e ts l = v
  | [], _, ⟨t, q, _⟩ => by cases q
  | t :: ts, e, h => by
    show emp_ J m v (fun l => if l = lmI J m t then v else e l) ts l = v
    by_cases c : ∃ t, t ∈ ts ∧ l = lmI J m t
    · exact emp_hit c
    · rw [emp_miss (fun x q1 q2 => c ⟨x, q1, q2⟩)]
      obtain ⟨x, q1, q2⟩ := h
      rcases List.mem_cons.mp q1 with z | z
      · exact if_pos (z ▸ q2)
      · exact absurd ⟨x, z, q2⟩ c
theorem em_next {v' : Int32} (h : em2 J m n x2 e v) (hp : pp_ J m n Pb) {ts : List Nat} (hm : ∀ t, t ∈ ts → t < n ∧ ra_T J m t 6 = 3) (hd : ts.Nodup) (hv : J (m + 1) 0 - x0 = v') : em_ (fcs J m n ts) m n x2 x0 (emp_ J m v' e ts) v := by
  obtain ⟨⟨f1, f2, f3⟩, f4, f5, f6, f7⟩ := fcs_all ts hp hm hd
  rcases h with z | ⟨l, l5, el, z | ⟨z1, z2, z3⟩⟩
  · exact Or.inl z
  · refine Or.inr ⟨l, l5, el, Or.inl ⟨z.1, ?_⟩⟩
    by_cases c : 0 < cn_ (ra_st (fcs J m n ts) m x2) n
    · exact Or.inl c
    · right
      rw [f2, hv]
      have c0 : cn_ (ra_st (fcs J m n ts) m x2) n = 0 := by omega
      refine emp_hit (Classical.byContradiction (fun q => ?_))
      have : cn_ (ra_st J m x2) n = 0 := cn_0 (fun x hx => by
        have g := cn_none c0 x hx
        rw [f4 _ x hx] at g
        cases hs : ra_st J m x2 x with
        | false => rfl
        | true =>
          rw [hs, Bool.true_and] at g
          have hin : x ∈ ts := Classical.byContradiction (fun y => of_decide_eq_false g y)
          have hs' := of_decide_eq_true hs
          have e0 : ra_T J m x 0 = nI l := by
            rcases hs'.1 with y | y
            · rw [el] at y
              exact absurd y (nI_nm (by omega))
            · rw [y, el]
          exact absurd ⟨x, hin, ((lm_eq hp.1.1 hx l5).mp e0).symm⟩ q)
      omega
  · refine Or.inr ⟨l, l5, el, Or.inr ?_⟩
    have e1 : emp_ J m v' e ts l = e l := emp_miss (fun t ht q => by
      obtain ⟨t1, t2⟩ := hm t ht
      have := cn_none z2 t t1
      refine of_decide_eq_false this ⟨Or.inr ?_, by rw [t2]; decide⟩
      rw [el]
      exact (lm_eq hp.1.1 t1 l5).mpr q.symm)
    refine ⟨by rw [e1]; exact z1, cn_0 (fun x hx => ?_), by rw [e1]; exact z3⟩
    rw [f4 _ x hx, cn_none z2 x hx]
    rfl
theorem wk_tf : ∀ (k : Nat) {N : fI}, rb_ N m n pb → N m 8 = 1 → ∀ a j, a ≠ m + 1 → (a ≠ m ∨ j ≠ 11) → sp_wk k N m n a j = N a j
  | 0, _, _, _, _, _, _, _ => rfl
  | k + 1, N, hb, h8, a, j, q1, q2 => by
    unfold sp_wk
    cases e : sp_nr N m n with
    | none => rfl
    | some t =>
      simp only
      obtain ⟨t1, t2⟩ := nr_of e
      split
      · rfl
      · have e1 : ∀ a j, a ≠ m + 1 → (a ≠ m ∨ j ≠ 11) → sp_wk1 N m n t a j = N a j := fun a j q1 q2 => by
          have h8' : i2_u (sp_wt (i2_u N (m + 1) (200 + 14 * t + 8) (-1)) m n t) m 11 (N m 11 + 1) m 8 = 1 := by
            rw [i2_uj (by decide), sp_wt_o (rb_T8 hb) t1 (by omega), i2_ua (by omega)]
            exact h8
          unfold sp_wk1 sp_log
          rw [if_neg (by rw [h8']; decide), i2_at, if_neg (by omega), sp_wt_o (rb_T8 hb) t1 (Or.inl q1), i2_ua q1]
        rw [wk_tf k (rb_wk1 hb t1) ((e1 _ _ (by omega) (by omega)).trans h8) a j q1 q2]
        exact e1 a j q1 q2
theorem rc_142 (RK : rf_ok B m) (hw : 1 ≤ w) (hw6 : w ≤ 6) {X0 : Nat} {x4 : Int32} {P : Int32 → fI → Prop} : ∀ (f i : Nat) {N J : fI} {en : Nat → Int32} {la id : Int32} {e : Nat → Int32} {X : Nat}, i + f = 97 → rq_ N m n w J en → pp_ J m n Pb → J (m + 1) 0 = nI X → X0 ≤ X → X ≤ 1000000000 + 20 * i → N m 17 = la → N m 18 = id → em_ (fcs J m n (dl_ J m n en)) m n x2 (nI X0) (emp_ J m (J (m + 1) 0 - nI X0) e (dl_ J m n en)) (N m 19) → pr_ (fcs J m n (dl_ J m n en)) m n Pb w en X → nu_ (sp_wk 401 (fcs J m n (dl_ J m n en)) m n) m n + 1 ≤ f → (∀ N' r, r = frw m n w (nI X0) f (fcs J m n (dl_ J m n en)) en (lst_ la (dl_ J m n en)) id (emp_ J m (J (m + 1) 0 - nI X0) e (dl_ J m n en)) → tf_ m N N' → N' m 17 = r.2.1 → N' m 18 = r.2.2.1 → (∀ l, l < 5 → x2 = nI l → N' m 19 = r.2.2.2 l) → P r.1 (ed_ N' m)) → rw_i mt_X11_finishes 142 [some (pv_r m), some (pv_i (nI w)), some (pv_i x2), some (pv_i (nI X0)), some (pv_i x4), some (pv_i 1), none, none] [] B N P
  | 0, i, N, J, en, la, id, e, X, hi, h, hp, h0, hX0, hXb, h17, h18, hem, hr, hn, K => by omega
  | f + 1, i, N, J, en, la, id, e, X, hi, h, hp, h0, hX0, hXb, h17, h18, hem, hr, hn, K => by
    have h4 := hp.1.1.2.1
    have hX : X + 20 < 2147483648 := by omega
    refine wq_X11_finishes_142 RK ⟨fun c => absurd c (by decide), fun _ => rc_dop RK hw6 h hp h17 (fun N2 g1 g2 g3 g4 => ?_)⟩
    obtain ⟨F, eF⟩ : ∃ F, F = fcs J m n (dl_ J m n en) := ⟨_, rfl⟩
    obtain ⟨e1, ee1⟩ : ∃ e1, e1 = emp_ J m (J (m + 1) 0 - nI X0) e (dl_ J m n en) := ⟨_, rfl⟩
    obtain ⟨l1, el1⟩ : ∃ l1, l1 = lst_ la (dl_ J m n en) := ⟨_, rfl⟩
    rw [← eF] at g1 hem hr hn K
    rw [← ee1] at hem K
    rw [← el1] at g4 K
    obtain ⟨qb, -, hbF⟩ := pp_rb hr.1
    have hbN2 := rb_row hbF g1.1
    refine rc_wk RK hbN2 (lb_8 g1.2.1) (by omega) ?_
    obtain ⟨pw, pw2, pw3, pw4, pw5⟩ := pr_wk hr
    have o3 : ∀ a j, a ≠ m + 1 → (a ≠ m ∨ j ≠ 11) → sp_wk 401 N2 m n a j = N2 a j := wk_tf 401 hbN2 g1.2.1
    have q3 : rq_ (sp_wk 401 N2 m n) m n w (sp_wk 401 F m n) en := by
      refine ⟨wk_row 401 g1.1, (o3 _ _ (by omega) (by omega)).trans g1.2.1, ?_⟩
      have w5 := (wk_all 401 hr.1 (rc2_401 hr.1)).2.2.1
      have e9 : ∀ k, sp_wk 401 N2 m n (m + 9) k = N2 (m + 9) k := fun k => o3 _ _ (by omega) (by omega)
      have e10 : ∀ k, sp_wk 401 N2 m n (m + 10) k = N2 (m + 10) k := fun k => o3 _ _ (by omega) (by omega)
      unfold mt_
      simp only [e9, e10, w5, pw2]
      exact g1.2.2
    have hf : fk_ (sp_wk 401 N2 m n) m 0 w = w - ou_ (sp_wk 401 F m n) m n := fk_0 q3.2.2
    refine wq_X11_takesOnPaper_0 RK (rc_top RK hw6 w 0 (by omega) q3 pw.1 ?_)
    rw [hf]
    intro N4 q4 o4 r4
    have q4 : rq_ N4 m n w (sv_ m n w F en).1 (sv_ m n w F en).2 := q4
    obtain ⟨sr, s2, s3, s4, s5, s6⟩ := pr_sv hr hX
    have ecn : ∀ x, cn_ (ra_st (sv_ m n w F en).1 m x) n = cn_ (ra_st F m x) n := fun x => cn_eq (fun y hy => s2 x y hy)
    have n1 : (sv_ m n w F en).1 (m + 1) 1 = nI n := sr.1.1.1.1
    have tail : ∀ N5 : fI, rq_ N5 m n w (sv_ m n w F en).1 (sv_ m n w F en).2 → N5 m 17 = l1 → N5 m 18 = id → em2 F m n x2 e1 (N5 m 19) → tf_ m N N5 → rs_i mt_X11_standing [pv_r m, pv_i (-1)] B N5 (fun v6 I5 => (((v6 ≤ 0) → rw_i mt_X11_finishes 235 [some (pv_r m), some (pv_i (nI w)), some (pv_i x2), some (pv_i (nI X0)), some (pv_i x4), some (pv_i (0 : Int32)), some (pv_i (0 : Int32)), some (pv_i (0 : Int32))] [] B I5 P) ∧ ((¬ v6 ≤ 0) → rs_i mt_X11_nextEvent [pv_r m, pv_i (nI w)] B I5 (fun v8 I7 => rw_i mt_X11_finishes 235 [some (pv_r m), some (pv_i (nI w)), some (pv_i x2), some (pv_i (nI X0)), some (pv_i x4), some (pv_i (1 : Int32)), some (pv_i (v8 - I7 (m + 1) 0)), some (pv_i (0 : Int32))] [] B I7 P)))) := by
      intro N5 q5 a17 a18 a19 t5
      have n5 : N5 (m + 1) 1 = nI n := by rw [q5.1]; exact n1
      refine rc_standing RK n5 h4 ?_
      rw [st_row q5.1]
      have r50 : N5 (m + 1) 0 = nI X := by rw [q5.1]; exact sr.2.1
      have cle : cn_ (ra_st (sv_ m n w F en).1 m (-1)) n ≤ n := cn_le _ _
      rcases pr_nx hr hX hw with ⟨v1, v2⟩ | ⟨Y, v1, v2, v3, v4, v5, v6, v7, v8, v9⟩
      · rw [v2]
        refine ⟨fun _ => rc_idl RK hw6 w 0 (by omega) (fun N6 b1 b2 b3 => ?_), fun c => absurd (Int32.le_refl _) c⟩
        refine wq_X11_finishes_142 RK ⟨fun _ => rc_ends RK ?_, fun c => absurd rfl c⟩
        have := K N6 _ (frw_e v1).symm (tf_tr t5 (fun a j q1 q2 q3 => b1 a j (by omega) (by omega))) (by rw [b1 _ _ (by omega) (by omega)]; exact a17) (by rw [b2, a18]; exact show id + nI (fk_ N5 m 0 w) * 0 = id by grind) (fun l hl hx => ?_)
        · rw [b3, r50]
          rw [hr.2.1] at this
          rw [show nI X + 0 = nI X from Int32.add_zero _]
          exact this
        · rw [b1 _ _ (by omega) (by omega)]
          rcases a19 with z | ⟨l', l5, el, z | ⟨z1, z2, z3⟩⟩
          · rw [hx] at z
            exact absurd z (nI_nm (by omega))
          · have : cn_ (ra_st F m x2) n ≤ cn_ (ra_st F m (-1)) n := cn_sub (fun y _ q => by
              have q := of_decide_eq_true q
              exact decide_eq_true ⟨Or.inl rfl, q.2⟩)
            have h2 := ecn (-1)
            omega
          · rw [hx, nI_eq (by omega) (by omega)] at el
            rw [z1, el]
      · have hY : Y < 2000000000 := by omega
        obtain ⟨Y', y1, y2, y3, y4, y5, y6⟩ : ∃ Y', vx_ m n w F en = nI Y' ∧ (Y' < 2147483648) ∧ True ∧ (∀ x, x < n → ra_T (sv_ m n w F en).1 m x 6 = 3 → ¬ (sv_ m n w F en).2 x < nI Y') ∧ (∀ x, x < n → ra_T (sv_ m n w F en).1 m x 6 = 2 → ¬ ra_T (sv_ m n w F en).1 m x 8 < nI Y') ∧ ((∃ x, x < n ∧ ra_T (sv_ m n w F en).1 m x 6 = 3 ∧ (sv_ m n w F en).2 x = nI Y') ∨ ∃ x, x < n ∧ ra_T (sv_ m n w F en).1 m x 6 = 2 ∧ ra_T (sv_ m n w F en).1 m x 8 = nI Y') := by
          rcases nx_all sr.1 hX sr.2.2.1 s4 with ⟨c1, c2, c3⟩ | ⟨Y', c1, c2, c3, c4, c5, c6⟩
          · have c1 : vx_ m n w F en = -1 := c1
            rw [v1] at c1
            exact absurd c1 (nI_nm (by omega))
          · exact ⟨Y', c1, by omega, trivial, c4, c5, c6⟩
        have eY : Y' = Y := by
          rw [v1, nI_eq (by omega) (by omega)] at y1
          exact y1.symm
        subst eY
        refine ⟨fun c => absurd c (nI_nle v4 (by omega)), fun _ => rc_nev RK hw6 q5 sr.1 hY y4 y5 y6 ?_⟩
        refine rc_idl RK hw6 w 0 (by omega) (fun N6 b1 b2 b3 => ?_)
        have vn : ¬ vx_ m n w F en = -1 := by
          rw [v1]
          exact nI_nm (by omega)
        rw [frw_s vn] at K
        have r6 : N6 (m + 1) = n4_ m n w F en (m + 1) := by
          funext j
          by_cases z : j = 0
          · rw [z, b3, v8]
            grind
          · rw [b1 _ _ (by omega) (by omega), q5.1]
            exact (i2_uj z).symm
        have e4 : ∀ x g, ra_T (n4_ m n w F en) m x g = ra_T (sv_ m n w F en).1 m x g := fun x g => i2_uj (by omega)
        have ou4 : ou_ (n4_ m n w F en) m n = ou_ (sv_ m n w F en).1 m n := ou_eq (fun x _ => by rw [e4])
        have q6 : rq_ N6 m n w (n4_ m n w F en) (sv_ m n w F en).2 := by
          refine ⟨r6, (b1 _ _ (by omega) (by omega)).trans q5.2.1, ?_⟩
          have e9 : ∀ k, N6 (m + 9) k = N5 (m + 9) k := fun k => b1 _ _ (by omega) (by omega)
          have e10 : ∀ k, N6 (m + 10) k = N5 (m + 10) k := fun k => b1 _ _ (by omega) (by omega)
          unfold mt_
          simp only [e9, e10, e4, ou4]
          exact q5.2.2
        have F0 : F (m + 1) 0 = nI X := hr.2.1
        have st4 : ∀ x, cn_ (ra_st (n4_ m n w F en) m x) n = cn_ (ra_st F m x) n := fun x => cn_eq (fun y hy => by
          rw [← s2 x y hy]
          unfold ra_st
          rw [e4, e4])
        have em4 : em2 (n4_ m n w F en) m n x2 e1 (N6 m 19) := by
          rw [b1 _ _ (by omega) (by omega)]
          unfold em2 at a19 ⊢
          rw [st4]
          exact a19
        have vv : n4_ m n w F en (m + 1) 0 - nI X0 = vx_ m n w F en - nI X0 := by rw [v8, v1]
        refine rc_142 (la := l1) RK hw hw6 f (i + 1) (by omega) q6 v7 v8 (by omega) (by omega) (by rw [b1 _ _ (by omega) (by omega)]; exact a17) (id := id + nI (w - ou_ (sv_ m n w F en).1 m n) * (vx_ m n w F en - F (m + 1) 0)) ?_ (em_next em4 v7 (fun t ht => ⟨(dl_m ht).1, (dl_m ht).2.1⟩) rg_nd rfl) v5 (by have : nu_ (sp_wk 401 (fcs (n4_ m n w F en) m n (dl_ (n4_ m n w F en) m n (sv_ m n w F en).2)) m n) m n + 1 ≤ nu_ (sp_wk 401 F m n) m n := v6; omega) (fun N' r er c1 c2 c3 c4 => K N' r ?_ (tf_tr t5 (tf_tr (fun a j q1 q2 q3 => b1 a j (by omega) (by omega)) c1)) c2 c3 c4)
        · rw [b2, a18, fk_0 q5.2.2, r50, v1, F0]
        · rw [er, vv]
          rfl
    have t4 : tf_ m N N4 := fun a j q1 q2 q3 => by
      by_cases z : a = m + 1
      · rw [z, r4 j (by omega), wk_o 401 hbN2 (by omega) h4, g3 j (by omega)]
      · rw [o4 a j z (by omega) (by omega), o3 a j z (by omega), g2 a j z (by omega) (by omega)]
    have a17 : N4 m 17 = l1 := by rw [o4 _ _ (by omega) (by omega) (by omega), o3 _ _ (by omega) (by omega)]; exact g4
    have a18 : N4 m 18 = id := by rw [o4 _ _ (by omega) (by omega) (by omega), o3 _ _ (by omega) (by omega), g2 _ _ (by omega) (by omega) (by omega)]; exact h18
    have a19 : N4 m 19 = N m 19 := by rw [o4 _ _ (by omega) (by omega) (by omega), o3 _ _ (by omega) (by omega), g2 _ _ (by omega) (by omega) (by omega)]
    rw [← a19] at hem
    refine ⟨fun c => tail N4 q4 a17 a18 (Or.inl c) t4, fun c => ⟨fun c2 => tail N4 q4 a17 a18 ?_ t4, fun c2 => ?_⟩⟩
    · rcases hem with z | ⟨l, l5, el, z | z⟩
      · exact absurd z c
      · exact absurd z.1 c2
      · exact Or.inr ⟨l, l5, el, Or.inr z⟩
    · have n4 : N4 (m + 1) 1 = nI n := by rw [q4.1]; exact n1
      refine rc_standing RK n4 h4 ?_
      rw [st_row q4.1, ecn]
      have cle : cn_ (ra_st F m x2) n ≤ n := cn_le _ _
      refine ⟨fun c3 => tail N4 q4 a17 a18 ?_ t4, fun c3 I19 e19 => tail I19 ⟨?_, ?_, ?_⟩ ?_ ?_ ?_ ?_⟩
      · rcases hem with z | ⟨l, l5, el, z | z⟩
        · exact absurd z c
        · refine Or.inr ⟨l, l5, el, Or.inl ⟨z.1, ?_⟩⟩
          rcases Nat.eq_zero_or_pos (cn_ (ra_st F m x2) n) with y | y
          · rw [y] at c3
            exact absurd rfl c3
          · exact y
        · exact Or.inr ⟨l, l5, el, Or.inr z⟩
      · rw [e19]
        funext j
        rw [i2_ua (by omega), q4.1]
      · rw [e19, i2_uj (by decide)]
        exact q4.2.1
      · have e9 : ∀ k, I19 (m + 9) k = N4 (m + 9) k := fun k => by rw [e19, i2_ua (by omega)]
        have e10 : ∀ k, I19 (m + 10) k = N4 (m + 10) k := fun k => by rw [e19, i2_ua (by omega)]
        unfold mt_
        simp only [e9, e10]
        exact q4.2.2
      · rw [e19, i2_uj (by decide)]
        exact a17
      · rw [e19, i2_uj (by decide)]
        exact a18
      · have z0 : cn_ (ra_st F m x2) n = 0 := by
          rw [← nI_0, nI_eq (by omega) (by omega)] at c3
          exact c3
        rcases hem with z | ⟨l, l5, el, z | z⟩
        · exact absurd z c
        · have e40 : N4 (m + 1) 0 = F (m + 1) 0 := by rw [q4.1, sr.2.1, hr.2.1]
          have ev : e1 l = F (m + 1) 0 - nI X0 := z.2.resolve_left (by omega)
          refine Or.inr ⟨l, l5, el, Or.inr ⟨?_, z0, ?_⟩⟩
          · rw [e19, i2_us, e40, ev]
          · rw [ev, hr.2.1]
            have := sub_nI (a := X - X0) (b := X0)
            rw [show X - X0 + X0 = X by omega] at this
            rw [this]
            exact nI_nm (by omega)
        · have y := z.1
          rw [c2] at y
          exact absurd y.symm z.2.2
      · refine tf_tr t4 (fun a j q1 q2 q3 => ?_)
        rw [e19, i2_at, if_neg (by omega)]
end Rrf4
