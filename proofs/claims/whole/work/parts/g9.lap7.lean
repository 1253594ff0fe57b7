/-! lapse: a tick in the reference, on paper -/
section Lap7
variable {B : mm_T} {I J N G : Nat → Nat → Int32} {m n n' n0 t T W P L X : Nat} {x1 x2 x3 x4 x5 : Int32}
theorem kst_row (e : J (m + 1) = I (m + 1)) {x : Int32} : ra_kst J m x = ra_kst I m x := by
  unfold ra_kst ra_T
  rw [e]
theorem why_row (e : J (m + 1) = I (m + 1)) (e3 : J (m + 3) = I (m + 3)) : sp_why J m n x1 x2 x3 x4 x5 = sp_why I m n x1 x2 x3 x4 x5 := by
  unfold sp_why sp_why4 ra_L ra_T
  simp only [st_row e, kst_row e, e, e3]
theorem nw_row (e : J (m + 1) = I (m + 1)) : sp_nw J m n x1 x2 x3 x4 x5 (m + 1) = sp_nw I m n x1 x2 x3 x4 x5 (m + 1) := by
  unfold sp_nw
  rw [e]
  exact u_row (u_row (u_row (u_row (u_row (u_row (u_row (u_row e)))))))
theorem neg_row (e : J (m + 1) = I (m + 1)) : ∀ k, sp_neg J m t k (m + 1) = sp_neg I m t k (m + 1)
  | 0 => e
  | k + 1 => u_row (neg_row e k)
theorem new_row (e : J (m + 1) = I (m + 1)) : sp_new J m n x1 x2 x3 x4 x5 (m + 1) = sp_new I m n x1 x2 x3 x4 x5 (m + 1) := u_row (neg_row (nw_row e) 6)
theorem com_row (e : J (m + 1) = I (m + 1)) : sp_com J m n x1 x2 x3 x4 x5 (m + 1) = sp_com I m n x1 x2 x3 x4 x5 (m + 1) := by
  have en := new_row (n := n) (x1 := x1) (x2 := x2) (x3 := x3) (x4 := x4) (x5 := x5) e
  unfold sp_com
  have eh : ra_held (sp_new J m n x1 x2 x3 x4 x5) m n = ra_held (sp_new I m n x1 x2 x3 x4 x5) m n := by
    unfold ra_held ra_T
    rw [en]
  rw [eh]
  refine log_row ?_
  split
  · exact en
  · exact wt_row en
theorem wt_nr {a j : Nat} (h : a ≠ m + 1) : sp_wt J m n t a j = J a j := by
  unfold sp_wt ra_wait
  rw [i2_ua h]
  split
  · rfl
  · rw [i2_ua h]
theorem com_na (h8 : J m 8 = 1) {a j : Nat} (h : a ≠ m + 1) : sp_com J m n x1 x2 x3 x4 x5 a j = J a j := by
  unfold sp_com
  have e : ∀ a j, a ≠ m + 1 → (if ra_held (sp_new J m n x1 x2 x3 x4 x5) m n = true then sp_new J m n x1 x2 x3 x4 x5 else sp_wt (sp_new J m n x1 x2 x3 x4 x5) m (n + 1) n : fI) a j = J a j := fun a j h => by
    split
    · exact sp_new_o (Or.inl h)
    · rw [wt_nr h]
      exact sp_new_o (Or.inl h)
  rw [log_p ((e m 8 (by omega)).trans h8)]
  exact e a j h
theorem com_60 : ra_T (sp_com J m n x1 x2 x3 x4 (-1)) m n 6 = 0 := by
  unfold sp_com
  have hh : ¬ ra_held (sp_new J m n x1 x2 x3 x4 (-1)) m n = true := fun q => (of_decide_eq_true q).1 sp_new_n.2.2.2.2.1
  rw [if_neg hh]
  show sp_log _ m 0 n (-1) 0 (m + 1) _ = _
  rw [sp_log_r]
  exact sp_wt_6
theorem li_keep (h : li_ I J m n0 n T W P L) (hip : ip_ N m n' T W P L) (hn : n ≤ n') (ho : ∀ a j, a ≠ m + 1 → N a j = J a j) (hr : ∀ j, (j = 0 ∨ j = 3 ∨ j = 6 ∨ j = 7) → N (m + 1) j = J (m + 1) j) (hT : ∀ x f, x < n → f < 14 → ra_T N m x f = ra_T J m x f) (hw : ∀ x, n ≤ x → x < n' → ra_T N m x 6 = 0) : li_ I N m n0 n' T W P L := by
  obtain ⟨-, h0, hq, ⟨c9, c10, c11⟩, hw', r6, r7⟩ := h
  refine ⟨hip, by omega, fun x hx => ?_, ⟨?_, ?_, ?_⟩, fun x q1 q2 => ?_, (hr 6 (by omega)).trans r6, (hr 7 (by omega)).trans r7⟩
  · obtain ⟨a, b, c, d⟩ := hq x hx
    rw [hr 0 (by omega), hT x 6 (by omega) (by decide), hT x 11 (by omega) (by decide), hT x 7 (by omega) (by decide), hT x 8 (by omega) (by decide), hT x 4 (by omega) (by decide)]
    refine ⟨a, b, fun z => ?_, d⟩
    obtain ⟨c1, c2, c3⟩ := c z
    exact ⟨c1, c2, fun q q1 q2 => by rw [hT q 6 (by omega) (by decide)]; exact c3 q q1 q2⟩
  · rw [ho _ _ (by omega), c9]
    congr 1
    exact cn_eq (fun x hx => by rw [hT x 6 (by omega) (by decide)])
  · rw [ho _ _ (by omega), hr 3 (by omega)]
    exact c10
  · rw [ho _ _ (by omega), c11]
    congr 1
    exact cn_eq (fun x hx => by rw [hT x 6 (by omega) (by decide)])
  · rcases Nat.lt_or_ge x n with z | z
    · rw [hT x 6 z (by decide)]
      exact hw' x q1 z
    · exact hw x z q2
theorem ip_tmo (h : ip_ J m n T W P L) {j : Nat} {x : Int32} (hj : 84 < j ∧ j < 181) : ip_ (i2_u J (m + 1) j x) m n T W P L := ip_mk h py_u (ix_tmo h.2 hj) (u_row off_r.symm)
theorem li_tmo (h : li_ I J m n0 n T W P L) {j : Nat} {x : Int32} (hj : 84 < j ∧ j < 181) : li_ I (i2_u J (m + 1) j x) m n0 n T W P L := li_keep h (ip_tmo h.1 hj) (Nat.le_refl _) (fun a k q => i2_ua q) (fun k q => i2_uj (by omega)) (fun y f _ _ => i2_uj (by omega)) (fun x q1 q2 => by omega)
theorem li_com (h : li_ I J m n0 n T W P L) (hT : T < 1000000) (hP : P < 2147483648) (hL : L < 1999990000) (hz : sp_why J m n x1 x2 x3 x4 (-1) = 0) : li_ I (sp_com J m n x1 x2 x3 x4 (-1)) m n0 (n + 1) T W P L ∧ (∀ j, j ≠ 1 → (j < 10 ∨ (60 ≤ j ∧ j < 200) ∨ 6200 ≤ j) → sp_com J m n x1 x2 x3 x4 (-1) (m + 1) j = J (m + 1) j) ∧ (∀ x f, x < n → f < 14 → ra_T (sp_com J m n x1 x2 x3 x4 (-1)) m x f = ra_T J m x f) := by
  have h4 := ip_4 h.1
  obtain ⟨l, p, s, k, hl, e1, -, -, -, -, -, -, -, -, -, hn, -⟩ := why_0 h4 hz
  subst e1
  have oT : ∀ x f, x < n → f < 14 → ra_T (sp_com J m n (nI l) x2 x3 x4 (-1)) m x f = ra_T J m x f := fun x f q1 q2 => com_o hn hl (by omega) (by omega) (by omega)
  have oj : ∀ j, j ≠ 1 → (j < 10 ∨ (60 ≤ j ∧ j < 200) ∨ 6200 ≤ j) → sp_com J m n (nI l) x2 x3 x4 (-1) (m + 1) j = J (m + 1) j := fun j q1 q2 => com_o hn hl q1 (by omega) (by omega)
  refine ⟨li_keep h ?_ (Nat.le_succ _) (fun a j q => com_na h.1.1 q) (fun j q => oj j (by omega) (by omega)) oT (fun x q1 q2 => ?_), oj, oT⟩
  · have hz' : sp_why (off_ J m) m n (nI l) x2 x3 x4 (-1) = 0 := by
      rw [why_row off_r (show off_ J m (m + 3) = J (m + 3) from funext (fun j => i2_ua (by omega)))]
      exact hz
    have hG := ix_com h.1.2 hT hP (by omega) hz'
    have hx := h.1.2
    have o : ∀ a j, a ≠ m + 1 → a ≠ m → off_ (sp_com J m n (nI l) x2 x3 x4 (-1)) m a j = off_ J m a j := fun a j q1 q2 => by
      unfold off_
      rw [i2_ua q2, i2_ua q2]
      exact com_na h.1.1 q1
    refine ⟨(com_na h.1.1 (by omega)).trans h.1.1, ix_mix hG (off_r.trans (com_row off_r.symm)) ?_ i2_us (fun j => ?_) (fun t ht => ?_) (fun t q1 q2 => ?_)⟩
    · obtain ⟨x, y1, y2⟩ := hx.2.2.2.2.2.1
      refine ⟨x, y1, ?_⟩
      rw [← y2]
      unfold off_
      exact ((i2_uj (by decide)).trans (com_na h.1.1 (by omega))).trans (i2_uj (by decide)).symm
    · have := ix_z hx j
      rw [o _ _ (by omega) (by omega), o _ _ (by omega) (by omega)]
      exact this
    · rw [o _ _ (by omega) (by omega)]
      rcases Nat.lt_or_ge t n with z | z
      · exact hx.2.2.2.2.2.2.2.2 t z
      · exact ⟨0, by omega, hx.2.1.2.2.2 t z (by omega)⟩
    · rw [o _ _ (by omega) (by omega)]
      exact hx.2.1.2.2.2 t (by omega) q2
  · have : x = n := by omega
    rw [this]
    exact com_60
/-- at the bound of a tick -/
def bd_ (J : fI) (m n : Nat) : Prop := (∀ x, x < n → ra_T J m x 6 = 3 → J (m + 1) 0 < ra_T J m x 11) ∧ ∀ x, x < n → ra_T J m x 6 = 2 → J (m + 1) 0 < ra_T J m x 8
def fq_ (m : Nat) (J N : fI) : Prop := py_ m J N ∧ hi_ m J N
theorem fq_tr (h : fq_ m I J) (h' : fq_ m J N) : fq_ m I N := ⟨py_tr h.1 h'.1, hi_tr h.2 h'.2⟩
theorem fq_u {j : Nat} {x : Int32} (h : j < 6200) : fq_ m J (i2_u J (m + 1) j x) := ⟨py_u, hi_u h⟩
theorem rc_tmsP (RK : rf_ok B m) (hT : T < 1000000) (hP : P < 2147483648) (hL : L < 1999990000) {k : Nat} (hk : k ≤ 12) {Q : fI → Prop} : ∀ (j c : Nat) {J : fI} {n : Nat}, c + j = k → li_ I J m n0 n T W P L → J (m + 1) 84 = nI k → bd_ J m n → (∀ J' n', li_ I J' m n0 n' T W P L → J' (m + 1) 84 = nI k → bd_ J' m n' → J' (m + 1) 0 = J (m + 1) 0 → fq_ m J J' → Q J') → rw_v mt_X11_ticks 68 [some (pv_r m), some (pv_i (nI c)), none, none] [] B J Q
  | 0, c, J, n, hc, h, h84, hb, K => by
    have : c = k := by omega
    subst this
    exact wq_X11_ticks_68 RK ⟨fun _ => K J n h h84 hb rfl ⟨py_rf, hi_rf⟩, fun q => absurd (by rw [h84]; exact Int32.le_refl _) q⟩
  | j + 1, c, J, n, hc, h, h84, hb, K => by
    have nxt : ∀ {N : fI} {n' : Nat}, li_ I N m n0 n' T W P L → N (m + 1) 84 = nI k → bd_ N m n' → N (m + 1) 0 = J (m + 1) 0 → fq_ m J N → rw_v mt_X11_ticks 68 [some (pv_r m), some (pv_i (nI (c + 1))), none, none] [] B N Q := fun h1 h2 h3 h4 h5 =>
      rc_tmsP RK hT hP hL hk j (c + 1) (by omega) h1 h2 h3 (fun J' n' g1 g2 g3 g4 g5 => K J' n' g1 g2 g3 (g4.trans h4) (fq_tr h5 g5))
    have tm : ∀ {N : fI} {n' i : Nat} {x : Int32}, 84 < i ∧ i < 181 → li_ I N m n0 n' T W P L → N (m + 1) 84 = nI k → bd_ N m n' → N (m + 1) 0 = J (m + 1) 0 → fq_ m J N → li_ I (i2_u N (m + 1) i x) m n0 n' T W P L ∧ i2_u N (m + 1) i x (m + 1) 84 = nI k ∧ bd_ (i2_u N (m + 1) i x) m n' ∧ i2_u N (m + 1) i x (m + 1) 0 = J (m + 1) 0 ∧ fq_ m J (i2_u N (m + 1) i x) := fun hi h1 h2 h3 h4 h5 => by
      have eT : ∀ (N : fI) (i : Nat) (x : Int32), 84 < i ∧ i < 181 → ∀ y f, ra_T (i2_u N (m + 1) i x) m y f = ra_T N m y f := fun N i x q y f => i2_uj (by omega)
      refine ⟨li_tmo h1 hi, (i2_uj (by omega)).trans h2, ?_, (i2_uj (by omega)).trans h4, fq_tr h5 (fq_u (by omega))⟩
      unfold bd_ at h3 ⊢
      rw [i2_uj (show 0 ≠ _ by omega)]
      simp only [eT _ _ _ hi]
      exact h3
    refine wq_X11_ticks_68 RK ⟨fun q => absurd q (by rw [h84]; exact nI_ge (by omega) (by omega)), fun _ => ⟨c, ⟨rfl, by omega⟩, fun q I2 e2 => ?_, fun q => nxt h h84 hb rfl ⟨py_rf, hi_rf⟩⟩⟩
    obtain ⟨a1, a2, a3, a4, a5⟩ := tm (i := 85 + 8 * c + 7) (x := J (m + 1) (85 + 8 * c + 7) + J (m + 1) (85 + 8 * c + 4)) (by omega) h h84 hb rfl ⟨py_rf, hi_rf⟩
    rw [← e2] at a1 a2 a3 a4 a5
    refine rc_comes RK (ip_rb a1.1 hP) (lb_8 a1.1.1) (by omega) ?_
    have post : ∃ n', li_ I (sp_comes I2 m n (I2 (m + 1) (85 + 8 * c + 0)) (I2 (m + 1) (85 + 8 * c + 1)) (I2 (m + 1) (85 + 8 * c + 2)) (I2 (m + 1) (85 + 8 * c + 3)) (-1)).2 m n0 n' T W P L ∧ (sp_comes I2 m n (I2 (m + 1) (85 + 8 * c + 0)) (I2 (m + 1) (85 + 8 * c + 1)) (I2 (m + 1) (85 + 8 * c + 2)) (I2 (m + 1) (85 + 8 * c + 3)) (-1)).2 (m + 1) 84 = nI k ∧ bd_ (sp_comes I2 m n (I2 (m + 1) (85 + 8 * c + 0)) (I2 (m + 1) (85 + 8 * c + 1)) (I2 (m + 1) (85 + 8 * c + 2)) (I2 (m + 1) (85 + 8 * c + 3)) (-1)).2 m n' ∧ (sp_comes I2 m n (I2 (m + 1) (85 + 8 * c + 0)) (I2 (m + 1) (85 + 8 * c + 1)) (I2 (m + 1) (85 + 8 * c + 2)) (I2 (m + 1) (85 + 8 * c + 3)) (-1)).2 (m + 1) 0 = J (m + 1) 0 ∧ fq_ m J (sp_comes I2 m n (I2 (m + 1) (85 + 8 * c + 0)) (I2 (m + 1) (85 + 8 * c + 1)) (I2 (m + 1) (85 + 8 * c + 2)) (I2 (m + 1) (85 + 8 * c + 3)) (-1)).2 := by
      unfold sp_comes
      by_cases z : sp_why I2 m n (I2 (m + 1) (85 + 8 * c + 0)) (I2 (m + 1) (85 + 8 * c + 1)) (I2 (m + 1) (85 + 8 * c + 2)) (I2 (m + 1) (85 + 8 * c + 3)) (-1) = 0
      · rw [if_pos z]
        obtain ⟨b1, b2, b3⟩ := li_com a1 hT hP hL z
        refine ⟨n + 1, b1, (b2 84 (by omega) (by omega)).trans a2, ?_, (b2 0 (by omega) (by omega)).trans a4, fq_tr a5 ⟨fun a i q1 _ => com_na a1.1.1 q1, fun i q => b2 i (by omega) (by omega)⟩⟩
        have c0 : ∀ x, n ≤ x → x < n + 1 → ra_T (sp_com I2 m n (I2 (m + 1) (85 + 8 * c + 0)) (I2 (m + 1) (85 + 8 * c + 1)) (I2 (m + 1) (85 + 8 * c + 2)) (I2 (m + 1) (85 + 8 * c + 3)) (-1)) m x 6 = 0 := fun x q1 q2 => by
          have : x = n := by omega
          rw [this]
          exact com_60
        refine ⟨fun x hx q' => ?_, fun x hx q' => ?_⟩
        · rcases Nat.lt_or_ge x n with y | y
          · rw [b3 x 6 y (by decide)] at q'
            show sp_com I2 m n _ _ _ _ (-1) (m + 1) 0 < ra_T (sp_com I2 m n _ _ _ _ (-1)) m x 11
            rw [b3 x 11 y (by decide), b2 0 (by omega) (by omega)]
            exact a3.1 x y q'
          · have := c0 x y hx
            have q'' : ra_T (sp_com I2 m n (I2 (m + 1) (85 + 8 * c + 0)) (I2 (m + 1) (85 + 8 * c + 1)) (I2 (m + 1) (85 + 8 * c + 2)) (I2 (m + 1) (85 + 8 * c + 3)) (-1)) m x 6 = 3 := q'
            rw [this] at q''
            exact absurd q'' (by decide)
        · rcases Nat.lt_or_ge x n with y | y
          · rw [b3 x 6 y (by decide)] at q'
            show sp_com I2 m n _ _ _ _ (-1) (m + 1) 0 < ra_T (sp_com I2 m n _ _ _ _ (-1)) m x 8
            rw [b3 x 8 y (by decide), b2 0 (by omega) (by omega)]
            exact a3.2 x y q'
          · have := c0 x y hx
            have q'' : ra_T (sp_com I2 m n (I2 (m + 1) (85 + 8 * c + 0)) (I2 (m + 1) (85 + 8 * c + 1)) (I2 (m + 1) (85 + 8 * c + 2)) (I2 (m + 1) (85 + 8 * c + 3)) (-1)) m x 6 = 2 := q'
            rw [this] at q''
            exact absurd q'' (by decide)
      · rw [if_neg z]
        exact ⟨n, a1, a2, a3, a4, a5⟩
    obtain ⟨n', b1, b2, b3, b4, b5⟩ := post
    refine ⟨fun _ I5 e5 => ?_, fun _ I6 e6 => ?_⟩
    · rw [e5]
      obtain ⟨d1, d2, d3, d4, d5⟩ := tm (i := 85 + 8 * c + 6) (by omega) b1 b2 b3 b4 b5
      exact nxt d1 d2 d3 d4 d5
    · rw [e6]
      obtain ⟨d1, d2, d3, d4, d5⟩ := tm (i := 85 + 8 * c + 5) (by omega) b1 b2 b3 b4 b5
      exact nxt d1 d2 d3 d4 d5
end Lap7
