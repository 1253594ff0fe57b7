/-! finishes -/
section Fin
variable {B : mm_T} {I J N F : Nat → Nat → Int32} {m n Pb t w X Y T W P L : Nat} {en e : Nat → Int32} {pb x2 x0 v : Int32}
theorem cn_all {p : Nat → Bool} : ∀ {n : Nat}, (∀ i, i < n → p i = true) → cn_ p n = n
  | 0, _ => rfl
  | n + 1, h => by rw [cn_t (h n (by omega)), cn_all (fun i q => h i (by omega))]
theorem emp_0 : ∀ (ts : List Nat), emp_ J m 0 (fun _ => 0) ts = fun _ => 0
  | [] => rfl
  | t :: ts => by
    show emp_ J m 0 (fun l => if l = lmI J m t then 0 else 0) ts = _
    rw [show (fun l => if l = lmI J m t then (0 : Int32) else 0) = fun _ => 0 from funext (fun l => by split <;> rfl)]
    exact emp_0 ts
theorem rc_101 (RK : rf_ok B m) {x1 x3 : Int32} {P : Int32 → fI → Prop} : ∀ (k s : Nat) {N K : fI} {la : Int32}, s + k = n → N (m + 1) = K (m + 1) → N m 8 = 1 → pp_ K m n Pb → (∀ x, s ≤ x → x < n → (ra_T K m x 6 = 3 ↔ ra_T J m x 6 = 3)) → (∀ x, x < n → N (m + 11) x = if ra_T J m x 6 = 3 then 1 else 0) → N m 17 = la → (∀ N', N' (m + 1) = fcs K m n ((List.range' s k).filter (fun x => decide (ra_T J m x 6 = 3))) (m + 1) → N' m 8 = 1 → N' m 17 = lst_ la ((List.range' s k).filter (fun x => decide (ra_T J m x 6 = 3))) → (∀ a j, a ≠ m + 1 → (a ≠ m ∨ j ≠ 17) → N' a j = N a j) → (∀ j, 6200 ≤ j → N' (m + 1) j = N (m + 1) j) → rw_i mt_X11_finishes 142 [some (pv_r m), some (pv_i x1), some (pv_i x2), some (pv_i x3), some (pv_i (nI n)), some (pv_i 1), none, none] [] B N' P) → rw_i mt_X11_finishes 101 [some (pv_r m), some (pv_i x1), some (pv_i x2), some (pv_i x3), some (pv_i (nI n)), some (pv_i (nI s)), none, none] [] B N P
  | 0, s, N, K, la, hs, h1, h8, hp, ho, hw, h17, KK => by
    have : s = n := by omega
    subst this
    exact wq_X11_finishes_101 RK ⟨fun _ => KK N h1 h8 h17 (fun _ _ _ _ => rfl) (fun _ _ => rfl), fun c => absurd (Int32.le_refl _) c⟩
  | k + 1, s, N, K, la, hs, h1, h8, hp, ho, hw, h17, KK => by
    have h4 := hp.1.1.2.1
    obtain ⟨qb, -, hb⟩ := pp_rb hp
    have hbN := rb_row hb h1
    refine wq_X11_finishes_101 RK ⟨fun c => absurd c (nI_ge (by omega) (by omega)), fun _ => ⟨s, ⟨rfl, by omega⟩, fun c => ?_, fun c => ?_⟩⟩
    · have h3 : ra_T J m s 6 = 3 := Classical.byContradiction (fun z => c (by rw [hw s (by omega), if_neg z]))
      rw [rg_cons (decide_eq_true h3)] at KK
      have h3K := (ho s (Nat.le_refl _) (by omega)).mpr h3
      refine rc_frees RK hbN (lb_8 h8) (by omega) rfl (show s < n by omega) (fun I3 e3 => ?_)
      have o3 : ∀ a j, a ≠ m + 1 → (a ≠ m ∨ j ≠ 17) → I3 a j = N a j := fun a j q1 q2 => by
        rw [e3, i2_at, if_neg (by omega)]
        exact fre_tf hbN h8 h4 a j q1
      have r3 : I3 (m + 1) = sp_frees K m n s (m + 1) := by
        rw [e3]
        funext j
        rw [i2_ua (by omega), fre_row h1]
      refine rc_101 RK k (s + 1) (by omega) r3 ((o3 _ _ (by omega) (by omega)).trans h8) (pp_fre hp (by omega) h3K) (fun x q1 q2 => ?_) (fun x q => (o3 _ _ (by omega) (by omega)).trans (hw x q)) (la := nI s) (by rw [e3, i2_us]) (fun N' g1 g2 g3 g4 g5 => KK N' g1 g2 g3 (fun a j q1 q2 => (g4 a j q1 q2).trans (o3 a j q1 q2)) (fun j q => ?_))
      · rw [fre_6 hb]
        by_cases z : x < n ∧ x ≠ s ∧ ra_T K m x 6 = 1 ∧ ra_T K m x 4 = nI s
        · rw [if_pos z]
          have := ho x (by omega) q2
          rw [z.2.2.1] at this
          exact ⟨fun y => absurd y (by decide), fun y => absurd (this.mpr y) (by decide)⟩
        · rw [if_neg z, if_neg (by omega)]
          exact ho x (by omega) q2
      · rw [g5 j q, r3, h1]
        unfold sp_frees
        rw [frs_o (fun x hx => (hs_lt hx).1) (rb_T6 hb) (Or.inr ⟨fun x hx => by have := (hs_lt hx).1; omega, by omega⟩) (by omega) (by omega)]
        exact i2_uj (by omega)
    · have h3 : ¬ ra_T J m s 6 = 3 := fun z => by
        rw [hw s (by omega), if_pos z] at c
        exact absurd c (by decide)
      rw [rg_skip (decide_eq_false h3)] at KK
      exact rc_101 RK k (s + 1) (by omega) h1 h8 hp (fun x q1 q2 => ho x (by omega) q2) hw h17 KK
theorem rc_61 (RK : rf_ok B m) {x1 x3 : Int32} {P : Int32 → fI → Prop} (h4 : n ≤ 400) : ∀ (k s : Nat) {N : fI}, s + k = n → (∀ x, x < s → N (m + 11) x = if ra_T N m x 6 = 3 then 1 else 0) → (∀ N', (∀ a j, a ≠ m + 11 → N' a j = N a j) → (∀ x, x < n → N' (m + 11) x = if ra_T N m x 6 = 3 then 1 else 0) → rw_i mt_X11_finishes 101 [some (pv_r m), some (pv_i x1), some (pv_i x2), some (pv_i x3), some (pv_i (nI n)), some (pv_i 0), none, none] [] B N' P) → rw_i mt_X11_finishes 61 [some (pv_r m), some (pv_i x1), some (pv_i x2), some (pv_i x3), some (pv_i (nI n)), some (pv_i (nI s)), none, none] [] B N P
  | 0, s, N, hs, hw, K => by
    have : s = n := by omega
    subst this
    exact wq_X11_finishes_61 RK ⟨fun _ => K N (fun _ _ _ => rfl) hw, fun c => absurd (Int32.le_refl _) c⟩
  | k + 1, s, N, hs, hw, K => by
    have step : ∀ v, v = (if ra_T N m s 6 = 3 then (1 : Int32) else 0) → rw_i mt_X11_finishes 61 [some (pv_r m), some (pv_i x1), some (pv_i x2), some (pv_i x3), some (pv_i (nI n)), some (pv_i (nI (s + 1))), none, none] [] B (i2_u N (m + 11) s v) P := fun v ev => by
      have eT : ∀ x, ra_T (i2_u N (m + 11) s v) m x 6 = ra_T N m x 6 := fun x => i2_ua (by omega)
      refine rc_61 RK h4 k (s + 1) (by omega) (fun x q => ?_) (fun N' g1 g2 => K N' (fun a j q => (g1 a j q).trans (i2_ua q)) (fun x q => by rw [g2 x q, eT]))
      rw [eT, i2_at]
      by_cases z : x = s
      · rw [if_pos ⟨rfl, z⟩, ev, z]
      · rw [if_neg (fun y => z y.2)]
        exact hw x (by omega)
    refine wq_X11_finishes_61 RK ⟨fun c => absurd c (nI_ge (by omega) (by omega)), fun _ => ⟨s, ⟨rfl, by omega⟩, fun c I2 e2 => ?_, fun c I3 e3 => ?_⟩⟩
    · rw [e2]
      exact step 0 (if_neg c).symm
    · rw [e3]
      exact step 1 (if_pos c).symm
theorem rc_29 (RK : rf_ok B m) {x1 x3 : Int32} {P : Int32 → fI → Prop} : ∀ (k s : Nat) {N : fI}, s + k = 6 → (∀ x, x < s → N (m + 9) x = -1) → (∀ N', (∀ a j, a ≠ m + 9 → N' a j = N a j) → (∀ x, x < 6 → N' (m + 9) x = -1) → rw_i mt_X11_finishes 61 [some (pv_r m), some (pv_i x1), some (pv_i x2), some (pv_i x3), some (pv_i (N' (m + 1) 1)), some (pv_i 0), none, none] [] B N' P) → rw_i mt_X11_finishes 29 [some (pv_r m), some (pv_i x1), some (pv_i x2), some (pv_i x3), some (pv_i (nI s)), none, none, none] [] B N P
  | 0, s, N, hs, hw, K => by
    have : s = 6 := by omega
    subst this
    exact wq_X11_finishes_29 RK ⟨fun _ => K N (fun _ _ _ => rfl) hw, fun c => absurd (Int32.le_refl _) c⟩
  | k + 1, s, N, hs, hw, K => by
    refine wq_X11_finishes_29 RK ⟨fun c => absurd c (i6 (by omega)), fun _ => ⟨s, ⟨rfl, by omega⟩, fun I2 e2 => ?_⟩⟩
    rw [e2]
    refine rc_29 RK k (s + 1) (by omega) (fun x q => ?_) (fun N' g1 g2 => K N' (fun a j q => (g1 a j q).trans (i2_ua q)) g2)
    rw [i2_at]
    by_cases z : x = s
    · rw [if_pos ⟨rfl, z⟩]
    · rw [if_neg (fun y => z y.2)]
      exact hw x (by omega)
theorem rc_fin (RK : rf_ok B m) (h : ix_ I m n T W P L) (hl : lim_ T W P L) (hw : 1 ≤ w) (hw6 : w ≤ 6) (hx : x2 = -1 ∨ ∃ l, l < 5 ∧ x2 = nI l) {Q : Int32 → fI → Prop} (K : ∀ I', sc_ m I I' → I' m 17 = (rn_ I m n w).2.1 → I' m 18 = (rn_ I m n w).2.2.1 → (∀ l, l < 5 → x2 = nI l → I' m 19 = (rn_ I m n w).2.2.2 l) → Q (rn_ I m n w).1 I') : rs_i mt_X11_finishes [pv_r m, pv_i (nI w), pv_i x2] B I Q := by
  have h4 := ix_4 h
  obtain ⟨X0, hX0, eX0⟩ := h.2.2.1
  have hT : T < 90000 := hl.1
  refine wq_X11_finishes_0 RK (rc_begins RK (fun I2 e2 I3 e3 I4 e4 => ?_))
  have o4 : ∀ a j, (a ≠ m ∨ (j ≠ 17 ∧ j ≠ 18 ∧ j ≠ 19)) → I4 a j = bg_ I m a j := fun a j q => by
    rw [e4, i2_at, if_neg (by omega), e3, i2_at, if_neg (by omega), e2, i2_at, if_neg (by omega)]
  refine rc_29 RK 6 0 rfl (fun x q => by omega) (fun N1 b1 b2 => ?_)
  have r1 : ∀ j, N1 (m + 1) j = I (m + 1) j := fun j => by rw [b1 _ _ (by omega), o4 _ _ (by omega), bg_r]
  rw [r1 1, ix_1 h]
  refine rc_61 RK h4 n 0 (by omega) (fun x q => by omega) (fun N2 c1 c2 => ?_)
  have eT : ∀ x, ra_T N1 m x 6 = ra_T (cz_ I m) m x 6 := fun x => (r1 _).trans cz_r.symm
  have r2 : N2 (m + 1) = cz_ I m (m + 1) := funext (fun j => by rw [c1 _ _ (by omega), r1, cz_r])
  have o2 : ∀ a j, a ≠ m + 9 → a ≠ m + 11 → (a ≠ m ∨ (j ≠ 17 ∧ j ≠ 18 ∧ j ≠ 19)) → N2 a j = bg_ I m a j := fun a j q1 q2 q3 => by
    rw [c1 _ _ q2, b1 _ _ q1, o4 _ _ q3]
  have m8 : N2 m 8 = 1 := by
    rw [o2 _ _ (by omega) (by omega) (by omega)]
    unfold bg_
    rw [if_neg (by omega), if_pos ⟨rfl, rfl⟩]
  have v17 : N2 m 17 = -1 := by rw [c1 _ _ (by omega), b1 _ _ (by omega), e4, i2_uj (by decide), e3, i2_uj (by decide), e2, i2_us]
  have v18 : N2 m 18 = 0 := by rw [c1 _ _ (by omega), b1 _ _ (by omega), e4, i2_uj (by decide), e3, i2_us]
  have v19 : N2 m 19 = -1 := by rw [c1 _ _ (by omega), b1 _ _ (by omega), e4, i2_us]
  have p0 : pp_ (cz_ I m) m n (P + 2419200) := pp_row (pp_ix h hl) cz_row
  rw [bg_r, eX0]
  refine rc_101 (J := cz_ I m) RK n 0 (by omega) r2 m8 p0 (fun _ _ _ => Iff.rfl) (fun x q => by rw [c2 x q, eT]) v17 (fun N3 g1 g2 g3 g4 g5 => ?_)
  have edl : (List.range' 0 n).filter (fun x => decide (ra_T (cz_ I m) m x 6 = 3)) = dl_ (cz_ I m) m n (fun _ => I (m + 1) 0) := by
    rw [← List.range_eq_range']
    refine fl_eq (fun x _ => ?_)
    unfold dp_
    rw [cz_r, decide_eq_decide]
    exact ⟨fun q => ⟨q, fun y => Int32.lt_irrefl y⟩, fun q => q.1⟩
  rw [edl] at g1 g3
  obtain ⟨q1, q2, q3⟩ := pr_ix (w := w) h hl eX0
  obtain ⟨F, eF⟩ : ∃ F, F = fcs (cz_ I m) m n (dl_ (cz_ I m) m n (fun _ => I (m + 1) 0)) := ⟨_, rfl⟩
  rw [← eF] at g1 q1 q2 q3
  have dF : dl_ F m n (fun _ => I (m + 1) 0) = [] := List.filter_eq_nil_iff.mpr (fun x hx z => q3 x (List.mem_range.mp hx) (of_decide_eq_true z).1)
  have hou : ou_ F m n = 0 := cn_0 (fun x hx => decide_eq_false (q3 x hx))
  have rqF : rq_ N3 m n w F (fun _ => I (m + 1) 0) := by
    have b9 : ∀ k, k < w → N3 (m + 9) k = -1 := fun k hk => by
      rw [g4 _ _ (by omega) (by omega), c1 _ _ (by omega)]
      exact b2 k (by omega)
    exact ⟨g1, g2, fun k hk => Or.inl (b9 k hk), fun k k' hk _ _ z => absurd (b9 k hk) z, fun x hx z => absurd z (q3 x hx), by rw [hou, cn_all (fun k hk => decide_eq_true (b9 k hk))]; rfl⟩
  refine rc_142 (J := F) (en := fun _ => I (m + 1) 0) (e := emp_ (cz_ I m) m 0 (fun _ => 0) (dl_ (cz_ I m) m n (fun _ => I (m + 1) 0))) RK hw hw6 97 0 rfl rqF q1.1 q1.2.1 (Nat.le_refl _) (by omega) g3 (id := 0) ((g4 _ _ (by omega) (by omega)).trans v18) ?_ ?_ ?_ (fun N' r er t1 t2 t3 t4 => ?_)
  · rw [dF, g4 _ _ (by omega) (by omega), v19, emp_0]
    rcases hx with z | ⟨l, l5, z⟩
    · exact Or.inl z
    · refine Or.inr ⟨l, l5, z, Or.inl ⟨rfl, Or.inr ?_⟩⟩
      show (0 : Int32) = F (m + 1) 0 - nI X0
      rw [q1.2.1]
      grind
  · rw [dF]
    exact q1
  · rw [dF]
    exact q2
  · have er : r = rn_ I m n w := by
      rw [er, dF]
      unfold rn_
      rw [eF, ← eX0]
      rfl
    have tf : tf_ m (bg_ I m) N' := tf_tr (fun a j z1 z2 z3 => by
      by_cases y : a = m + 1
      · rw [y, g5 j (by omega), r2, cz_r, bg_r]
      · rw [g4 a j y (by omega), o2 a j (by omega) (by omega) (by omega)]) t1
    have ed : ∀ j, j ≠ 8 → ed_ N' m m j = N' m j := fun j z => by
      unfold ed_
      rw [if_neg (by omega), if_neg (by omega)]
    rw [er] at t2 t3 t4 ⊢
    exact K (ed_ N' m) (sc_ed (ix_8 h) (pf_tf pf_bg tf)) ((ed 17 (by decide)).trans t2) ((ed 18 (by decide)).trans t3) (fun l z1 z2 => (ed 19 (by decide)).trans (t4 l z1 z2))
end Fin
