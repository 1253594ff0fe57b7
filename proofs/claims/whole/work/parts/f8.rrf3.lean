/-! the run on paper in the reference: taken, the next event, idle time -/
section Rrf3
variable {B : mm_T} {I J N : Nat → Nat → Int32} {m n Pb t w X Y : Nat} {en : Nat → Int32} {pb : Int32}
def fk_ (N : fI) (m : Nat) : Nat → Nat → Nat
  | _, 0 => 0
  | k, j + 1 => (if N (m + 9) k = -1 then 1 else 0) + fk_ N m (k + 1) j
theorem fk_cn : ∀ (j k : Nat), cn_ (fun i => decide (N (m + 9) i = -1)) k + fk_ N m k j = cn_ (fun i => decide (N (m + 9) i = -1)) (k + j)
  | 0, k => rfl
  | j + 1, k => by
    have ih := fk_cn j (k + 1)
    have e : cn_ (fun i => decide (N (m + 9) i = -1)) (k + 1) = cn_ (fun i => decide (N (m + 9) i = -1)) k + if N (m + 9) k = -1 then 1 else 0 := by
      by_cases z : N (m + 9) k = -1
      · rw [cn_t (decide_eq_true z), if_pos z]
      · rw [cn_f (decide_eq_false z), if_neg z]
        rfl
    unfold fk_
    rw [show k + (j + 1) = k + 1 + j by omega, ← ih, e]
    omega
theorem fk_eq {N' : fI} : ∀ (j k : Nat), (∀ i, k ≤ i → N' (m + 9) i = N (m + 9) i) → fk_ N' m k j = fk_ N m k j
  | 0, _, _ => rfl
  | j + 1, k, h => by
    unfold fk_
    rw [h k (Nat.le_refl _), fk_eq j (k + 1) (fun i q => h i (by omega))]
theorem fk_0 (h : mt_ N m n w J en) : fk_ N m 0 w = w - ou_ J m n := by
  have := fk_cn (N := N) (m := m) w 0
  rw [Nat.zero_add] at this
  have h2 := h.2.2.2
  have h3 : cn_ (fun i => decide (N (m + 9) i = -1)) 0 = 0 := rfl
  omega
theorem mt_srv (h : mt_ N m n w J en) (h4 : n ≤ 400) {l k : Nat} (hl : l < 5) (hk : k < w) (hk1 : N (m + 9) k = -1) (ht : t < n) (h0 : ra_T J m t 6 = 0) {v : Int32} {N' : fI} (e9 : ∀ i, N' (m + 9) i = if i = k then nI t else N (m + 9) i) (e10 : ∀ i, N' (m + 10) i = if i = k then v else N (m + 10) i) : mt_ N' m n w (sp_srv J m t l) (fun x => if x = t then v else en x) := by
  have s6 : ∀ x, ra_T (sp_srv J m t l) m x 6 = if x = t then 3 else ra_T J m x 6 := fun x => srv_6 hl
  have nt : ∀ i, i < w → ¬ N (m + 9) i = nI t := fun i hi q => by
    rcases h.1 i hi with z | ⟨x, x1, x2, x3, x4⟩
    · rw [q] at z
      exact nI_nm (by omega) z
    · rw [q, nI_eq (by omega) (by omega)] at x2
      rw [← x2, h0] at x3
      exact absurd x3 (by decide)
  refine ⟨fun i hi => ?_, fun i i' hi hi' q1 q2 => ?_, fun x hx q => ?_, ?_⟩
  · rw [e9, e10]
    by_cases z : i = k
    · rw [if_pos z, if_pos z]
      exact Or.inr ⟨t, ht, rfl, by rw [s6, if_pos rfl], (if_pos rfl).symm⟩
    · rw [if_neg z, if_neg z]
      rcases h.1 i hi with y | ⟨x, x1, x2, x3, x4⟩
      · exact Or.inl y
      · have : x ≠ t := fun y => nt i hi (by rw [x2, y])
        exact Or.inr ⟨x, x1, x2, by rw [s6, if_neg this]; exact x3, x4.trans (if_neg this).symm⟩
  · rw [e9] at q1 q2
    rw [e9] at q1
    by_cases z : i = k
    · rw [if_pos z] at q1 q2
      by_cases z' : i' = k
      · rw [z, z']
      · rw [if_neg z'] at q1
        exact absurd q1.symm (nt i' hi')
    · rw [if_neg z] at q1 q2
      by_cases z' : i' = k
      · rw [if_pos z'] at q1
        exact absurd q1 (nt i hi)
      · rw [if_neg z'] at q1
        exact h.2.1 i i' hi hi' q1 q2
  · rw [s6] at q
    by_cases z : x = t
    · exact ⟨k, hk, by rw [e9, if_pos rfl, z]⟩
    · rw [if_neg z] at q
      obtain ⟨i, i1, i2⟩ := h.2.2.1 x hx q
      refine ⟨i, i1, ?_⟩
      rw [e9, if_neg (fun y => ?_)]
      · exact i2
      · rw [y, hk1] at i2
        exact nI_nm (by omega) i2.symm
  · have c := cn_one (p := fun i => decide (N' (m + 9) i = -1)) (q := fun i => decide (N (m + 9) i = -1)) (t := k) (fun i hi => by
      show decide _ = decide _
      rw [e9, if_neg hi]) hk
    rw [e9, if_pos rfl, hk1, if_pos (show decide ((-1 : Int32) = -1) = true by decide), if_neg (show ¬ decide (nI t = -1) = true from fun z => nI_nm (by omega) (of_decide_eq_true z))] at c
    have := ou_srv (n := n) hl ht h0
    have := h.2.2.2
    omega
theorem fsv_no (h : ra_lane J m n 1 = none) : ∀ f, fsv m n f J en = (J, en)
  | 0 => rfl
  | f + 1 => by
    unfold fsv
    rw [h]
theorem rc_top (RK : rf_ok B m) (hw6 : w ≤ 6) {P : fI → Prop} : ∀ (j k : Nat) {N J : fI} {en : Nat → Int32}, k + j = w → rq_ N m n w J en → pp_ J m n Pb → (∀ N', rq_ N' m n w (fsv m n (fk_ N m k j) J en).1 (fsv m n (fk_ N m k j) J en).2 → (∀ a j, a ≠ m + 1 → a ≠ m + 9 → a ≠ m + 10 → N' a j = N a j) → (∀ j, 6200 ≤ j → N' (m + 1) j = N (m + 1) j) → P N') → rw_v mt_X11_takesOnPaper 2 [some (pv_r m), some (pv_i (nI w)), some (pv_i (nI k)), none] [] B N P
  | 0, k, N, J, en, hk, h, hp, K => by
    have : k = w := by omega
    subst this
    exact wq_X11_takesOnPaper_2 RK ⟨fun _ => K N h (fun _ _ _ _ _ => rfl) (fun _ _ => rfl), fun c => absurd (Int32.le_refl _) c⟩
  | j + 1, k, N, J, en, hk, h, hp, K => by
    have h4 := hp.1.1.2.1
    have n1 : N (m + 1) 1 = nI n := by rw [h.1]; exact hp.1.1.1
    refine wq_X11_takesOnPaper_2 RK ⟨fun c => absurd c (nI_ge (by omega) (by omega)), fun _ => ⟨k, ⟨rfl, by omega⟩, fun c => ?_, fun c => rc_theLane RK n1 h4 ?_⟩⟩
    · unfold fk_ at K
      rw [if_neg c, Nat.zero_add] at K
      exact rc_top RK hw6 j (k + 1) (by omega) h hp K
    · unfold fk_ at K
      rw [if_pos c, Nat.add_comm] at K
      rw [lane_row h.1]
      cases e : ra_lane J m n 1 with
      | none =>
        refine ⟨fun c => absurd rfl c, fun _ => ?_⟩
        rw [fsv_no e] at K
        refine rc_top RK hw6 j (k + 1) (by omega) h hp ?_
        rw [fsv_no e]
        exact K
      | some l =>
        have l5 := ra_lane_5 e
        obtain ⟨t, ht⟩ := lane_live e
        obtain ⟨t1, t2, t3⟩ := first_of ht
        unfold fsv at K
        rw [e] at K
        simp only [ht] at K
        refine ⟨fun _ => rc_firstOf RK n1 h4 ?_, fun c => absurd c (nI_nm (by omega))⟩
        rw [show io_ (some l) = nI l from rfl, first_row h.1, ht, show io_ (some t) = nI t from rfl]
        intro I6 e6
        refine ⟨t, ⟨by rw [e6, i2_us], by omega⟩, fun I8 e8 => ?_⟩
        have r6 : ∀ i, I6 (m + 1) i = J (m + 1) i := fun i => by rw [e6, i2_ua (by omega), h.1]
        have r8 : I8 (m + 1) = J (m + 1) := funext (fun i => by rw [e8, i2_ua (by omega)]; exact r6 i)
        have e8' : I8 (m + 9) k = nI t := by rw [e8, i2_ua (by omega), e6, i2_us]
        rw [e8']
        have rT : ∀ x f, ra_T I8 m x f = ra_T J m x f := fun x f => by unfold ra_T; rw [r8]
        have rL : ∀ x f, ra_L I8 m x f = ra_L J m x f := fun x f => by unfold ra_L; rw [r8]
        refine rc_pass RK (by rw [rT]; exact t2) l5 ?_ rfl (by omega) ⟨t, ⟨?_, by omega⟩, fun I11 e11 => ?_⟩
        · rw [rL]
          obtain ⟨a, a1, a2, a3⟩ := hp.1.2.2.2.1.1 l l5
          rw [a3]
          exact nI_ne0 (by omega) (by omega)
        · rw [pass_o (by omega)]
          exact e8'
        · rw [srv_eq l5] at e11
          have o11 : ∀ a i, a ≠ m + 1 → I11 a i = I8 a i := fun a i q => by rw [e11, srv_o (Or.inl q)]
          have o8 : ∀ a i, (a ≠ m + 9 ∨ i ≠ k) → (a ≠ m + 10 ∨ i ≠ k) → I8 a i = N a i := fun a i q1 q2 => by
            rw [e8, i2_at, if_neg (by omega), e6, i2_at, if_neg (by omega)]
          have e9 : ∀ i, I11 (m + 9) i = if i = k then nI t else N (m + 9) i := fun i => by
            rw [o11 _ _ (by omega)]
            by_cases z : i = k
            · rw [if_pos z, z]; exact e8'
            · rw [if_neg z]; exact o8 _ _ (by omega) (by omega)
          have e10 : ∀ i, I11 (m + 10) i = if i = k then J (m + 1) 0 + ra_T J m t 2 else N (m + 10) i := fun i => by
            rw [o11 _ _ (by omega)]
            by_cases z : i = k
            · rw [if_pos z, z, e8, i2_us, r6, r6]
              rfl
            · rw [if_neg z]; exact o8 _ _ (by omega) (by omega)
          have r11 : I11 (m + 1) = sp_srv J m t l (m + 1) := by rw [e11]; exact srv_row r8
          have q11 : rq_ I11 m n w (sp_srv J m t l) (fun x => if x = t then J (m + 1) 0 + ra_T J m t 2 else en x) := ⟨r11, by rw [o11 _ _ (by omega), o8 _ _ (by omega) (by omega)]; exact h.2.1, mt_srv h.2.2 h4 l5 (by omega) c t1 t3 e9 e10⟩
          refine rc_top RK hw6 j (k + 1) (by omega) q11 (pp_srv hp t1 l5 t3) ?_
          rw [fk_eq j (k + 1) (fun i q => (e9 i).trans (if_neg (by omega)))]
          exact fun N' g1 g2 g3 => K N' g1 (fun a i q1 q2 q3 => (g2 a i q1 q2 q3).trans ((o11 a i q1).trans (o8 a i (by omega) (by omega)))) (fun i q => by rw [g3 i q, r11, h.1]; exact srv_o (by omega))
theorem rc_nev (RK : rf_ok B m) (hw6 : w ≤ 6) (h : rq_ N m n w J en) (hp : pp_ J m n Pb) (hY : Y < 2000000000) (c4 : ∀ x, x < n → ra_T J m x 6 = 3 → ¬ en x < nI Y) (c5 : ∀ x, x < n → ra_T J m x 6 = 2 → ¬ ra_T J m x 8 < nI Y) (c6 : (∃ x, x < n ∧ ra_T J m x 6 = 3 ∧ en x = nI Y) ∨ ∃ x, x < n ∧ ra_T J m x 6 = 2 ∧ ra_T J m x 8 = nI Y) {P : Int32 → fI → Prop} (K : P (nI Y) N) : rs_i mt_X11_nextEvent [pv_r m, pv_i (nI w)] B N P := by
  have h4 := hp.1.1.2.1
  have n1 : N (m + 1) 1 = nI n := by rw [h.1]; exact hp.1.1.1
  have loop : ∀ (j k : Nat) (x2 x3 : Int32), k + j = w → nI Y ≤ x3 → (x3 = nI Y ∨ ∃ k', k ≤ k' ∧ k' < w ∧ ¬ N (m + 9) k' = -1 ∧ N (m + 10) k' = nI Y) → rw_i mt_X11_nextEvent 27 [some (pv_r m), some (pv_i (nI w)), some (pv_i x2), some (pv_i x3), some (pv_i (nI k))] [] B N P := by
    intro j
    induction j with
    | zero =>
      intro k x2 x3 hk h1 h2
      have : k = w := by omega
      subst this
      have : x3 = nI Y := h2.resolve_right (fun ⟨k', q1, q2, _⟩ => by omega)
      exact wq_X11_nextEvent_27 RK ⟨fun _ => by rw [this]; exact K, fun c => absurd (Int32.le_refl _) c⟩
    | succ j ih =>
      intro k x2 x3 hk h1 h2
      refine wq_X11_nextEvent_27 RK ⟨fun c => absurd c (nI_ge (by omega) (by omega)), fun _ => ⟨k, ⟨rfl, by omega⟩, fun c => ?_, fun c => ?_⟩⟩
      · obtain ⟨x, x1, x2', x3', x4⟩ := mt_due h.2.2 h4 (show k < w by omega) c
        have hu : nI Y ≤ N (m + 10) k := by rw [x4]; exact Int32.not_lt.mp (c4 x x1 x3')
        refine ih (k + 1) x2 _ (by omega) ?_ ?_
        · split
          · exact hu
          · exact h1
        · rcases h2 with z | ⟨k', q1, q2, q3, q4⟩
          · left
            by_cases y : N (m + 10) k ≤ x3
            · rw [if_pos y]
              rw [z] at y
              exact Int32.le_antisymm y hu
            · rw [if_neg y]; exact z
          · by_cases y : k' = k
            · left
              rw [y] at q4
              rw [q4, if_pos h1]
            · exact Or.inr ⟨k', by omega, q2, q3, q4⟩
      · refine ih (k + 1) x2 x3 (by omega) h1 ?_
        rcases h2 with z | ⟨k', q1, q2, q3, q4⟩
        · exact Or.inl z
        · refine Or.inr ⟨k', ?_, q2, q3, q4⟩
          have : k' ≠ k := fun y => q3 (y ▸ c)
          omega
  have evo : (∃ x, x < n ∧ ra_T J m x 6 = 3 ∧ en x = nI Y) → ∃ k', 0 ≤ k' ∧ k' < w ∧ ¬ N (m + 9) k' = -1 ∧ N (m + 10) k' = nI Y := fun ⟨x, x1, x2, x3⟩ => by
    obtain ⟨k, k1, k2, k3⟩ := mt_of h.2.2 h4 x1 x2
    exact ⟨k, by omega, k1, by rw [k2]; exact nI_nm (by omega), k3.trans x3⟩
  refine wq_X11_nextEvent_0 RK (rc_nr RK n1 h4 ?_)
  rw [nr_row h.1]
  cases e : sp_nr J m n with
  | none =>
    refine ⟨fun c => absurd rfl c, fun _ => loop w 0 _ _ (by omega) (show nI Y ≤ nI 2000000000 from nI_le (by omega) (by omega)) ?_⟩
    rcases c6 with z | ⟨x, x1, x2, x3⟩
    · exact Or.inr (evo z)
    · exact absurd x2 (of_decide_eq_false (bs_none e x x1))
  | some b =>
    obtain ⟨b1, b2⟩ := nr_of e
    have eb : N (m + 1) (200 + 14 * b + 8) = ra_T J m b 8 := by rw [h.1]; rfl
    refine ⟨fun _ => ⟨b, ⟨rfl, by omega⟩, ?_⟩, fun c => absurd c (nI_nm (by omega))⟩
    rw [eb]
    refine loop w 0 _ _ (by omega) (Int32.not_lt.mp (c5 b b1 b2)) ?_
    rcases c6 with z | ⟨x, x1, x2, x3⟩
    · exact Or.inr (evo z)
    · left
      have := bs_min (f := fun t => ra_T J m t 8) e x x1 (decide_eq_true x2)
      have this : ¬ ra_T J m x 8 < ra_T J m b 8 := this
      rw [x3] at this
      exact Int32.le_antisymm (Int32.not_lt.mp this) (Int32.not_lt.mp (c5 b b1 b2))
theorem i_r1 {a b c : Int32} : a + 0 + b * c = a + b * c := by grind
theorem i_r2 {a b c : Int32} : a + c + b * c = a + (b + 1) * c := by grind
theorem rc_idl (RK : rf_ok B m) (hw6 : w ≤ 6) {x2 x3 x4 x5 x6 : Int32} {P : Int32 → fI → Prop} : ∀ (j k : Nat) {N : fI}, k + j = w → (∀ N', (∀ a i, (a ≠ m ∨ i ≠ 18) → (a ≠ m + 1 ∨ i ≠ 0) → N' a i = N a i) → N' m 18 = N m 18 + nI (fk_ N m k j) * x6 → N' (m + 1) 0 = N (m + 1) 0 + x6 → rw_i mt_X11_finishes 142 [some (pv_r m), some (pv_i (nI w)), some (pv_i x2), some (pv_i x3), some (pv_i x4), some (pv_i x5), none, none] [] B N' P) → rw_i mt_X11_finishes 235 [some (pv_r m), some (pv_i (nI w)), some (pv_i x2), some (pv_i x3), some (pv_i x4), some (pv_i x5), some (pv_i x6), some (pv_i (nI k))] [] B N P
  | 0, k, N, hk, K => by
    have : k = w := by omega
    subst this
    refine wq_X11_finishes_235 RK ⟨fun _ I1 e1 => K I1 (fun a i q1 q2 => by rw [e1, i2_at, if_neg (by omega)]) ?_ (by rw [e1, i2_us]), fun c => absurd (Int32.le_refl _) c⟩
    rw [e1, i2_ua (by omega)]
    show N m 18 = N m 18 + nI 0 * x6
    rw [nI_0]
    grind
  | j + 1, k, N, hk, K => by
    refine wq_X11_finishes_235 RK ⟨fun c => absurd c (nI_ge (by omega) (by omega)), fun _ => ⟨k, ⟨rfl, by omega⟩, fun c I3 e3 => ?_, fun c I4 e4 => ?_⟩⟩
    · refine rc_idl RK hw6 j (k + 1) (by omega) (fun N' g1 g2 g3 => K N' (fun a i q1 q2 => ?_) ?_ ?_)
      · rw [g1 a i q1 q2, e3, i2_at, if_neg (by omega)]
      · rw [g2, fk_eq (N := N) j (k + 1) (fun i _ => by rw [e3, i2_ua (by omega)]), e3, i2_us]
        rw [show fk_ N m k (j + 1) = (if N (m + 9) k = -1 then 1 else 0) + fk_ N m (k + 1) j from rfl, if_neg c, Nat.zero_add]
        exact i_r1
      · rw [g3, e3, i2_ua (by omega)]
    · refine rc_idl RK hw6 j (k + 1) (by omega) (fun N' g1 g2 g3 => K N' (fun a i q1 q2 => ?_) ?_ ?_)
      · rw [g1 a i q1 q2, e4, i2_at, if_neg (by omega)]
      · rw [g2, fk_eq (N := N) j (k + 1) (fun i _ => by rw [e4, i2_ua (by omega)]), e4, i2_us]
        rw [show fk_ N m k (j + 1) = (if N (m + 9) k = -1 then 1 else 0) + fk_ N m (k + 1) j from rfl, if_pos c, Nat.add_comm 1, ← nI_1]
        exact i_r2
      · rw [g3, e4, i2_ua (by omega)]
end Rrf3
