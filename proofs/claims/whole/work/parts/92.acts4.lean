/-! the acts keep the invariant: failing, being cancelled -/
section Acts4
variable {I J : Nat → Nat → Int32} {m n T W P L : Nat}
theorem as1_4 {t x : Nat} {c : Int32} (h : x ≠ t) : sp_as1 I m t c (m + 4) x = I (m + 4) x := by
  unfold sp_as1
  rw [sp_ga_o (by omega) (by omega) (by omega)]
  unfold sp_bl
  split
  · unfold ra_blame
    split
    · exact i2_ua (by omega)
    · rw [i2_uj h, i2_ua (by omega), i2_ua (by omega)]
  · exact i2_ua (by omega)
theorem asd_4 {x : Nat} {c : Int32} : ∀ {ts : List Nat} {I : Nat → Nat → Int32}, (∀ t, t ∈ ts → t < n) → n ≤ x → sp_asd I m ts c (m + 4) x = I (m + 4) x
  | [], _, _, _ => rfl
  | t :: ts, I, hm, hx => by
    have := hm t List.mem_cons_self
    show sp_asd (sp_as1 I m t c) m ts c (m + 4) x = _
    rw [asd_4 (fun t q => hm t (List.mem_cons_of_mem _ q)) hx, as1_4 (by omega)]
theorem dr_4 {x : Nat} : ∀ (k : Nat) {I : Nat → Nat → Int32} {lv : List Nat} {c : Int32}, n ≤ x → (sp_dr k I m n lv c).1 (m + 4) x = I (m + 4) x
  | 0, _, _, _, _ => rfl
  | k + 1, I, lv, c, hx => by
    show (sp_dr k (sp_asd I m ((List.range n).filter (sp_p I m lv)) c) m n ((List.range n).filter (sp_p I m lv)) 100).1 (m + 4) x = _
    rw [dr_4 k hx, asd_4 (fun t q => by rw [List.mem_filter, List.mem_range] at q; exact q.1) hx]
theorem dr_T {f : Nat} (hn : n ≤ 400) (hf : f < 14) (h6 : f ≠ 6) (h13 : f ≠ 13) (k : Nat) {lv : List Nat} {c : Int32} {x : Nat} (hx : x < n) : ra_T (sp_dr k I m n lv c).1 m x f = ra_T I m x f := dr_o k (Or.inr ⟨fun t _ _ => by omega, by omega, by omega⟩) hn (by omega) (by omega) (by omega) (by omega)
theorem ix_drag (h : ix_ I m n T W P L) {t L1 L' : Nat} (ht : t < n) (hst : ra_T I m t 6 ≤ 3) {A : Nat → Nat → Int32} {v c : Int32} (hv : v = 5 ∨ v = 6) (A6 : ∀ x, x < n → ra_T A m x 6 = if x = t then v else ra_T I m x 6) (AT : ∀ x f, x < n → f < 6 → ra_T A m x f = ra_T I m x f) (A7 : ∀ x, x < n → ra_T A m x 6 ≤ 3 → ∃ r, r < 9 ∧ ra_T A m x 7 = nI r) (hWA : ivW A m n) (AL : ∀ l f, l < 5 → f < 5 → ra_L A m l f = ra_L I m l f) (Ar : ∀ j, j < 10 → j ≠ 3 → A (m + 1) j = I (m + 1) j) (hS : ivS A m n) (dA : dv_ A m n L1) (zA : zr_ A m) (A8 : A m 8 = 0) (AZ : ∀ x, n ≤ x → A (m + 4) x = I (m + 4) x) (hL1 : L1 + 400 ≤ L') (hL' : L' < 1999999999) : ix_ (ra_cls (sp_dr 401 A m n [t] c).1 m n 5) m n T W P L' := by
  have hn := ix_4 h
  have hcn : hc_ A m n ≤ n := cn_le _ _
  obtain ⟨b', dJ, hb', zJ⟩ := dr_ok 401 (lv := [t]) (c := c) dA zA (by omega)
  obtain ⟨J, hJ⟩ : ∃ J, J = (sp_dr 401 A m n [t] c).1 := ⟨_, rfl⟩
  have js : ∀ x, x < n → ra_T J m x 6 = ra_T A m x 6 ∨ (ra_T A m x 6 = 1 ∧ ra_T J m x 6 = 5) := fun x q => by rw [hJ]; exact dr_s hn 401 q
  have jT : ∀ x f, x < n → f < 14 → f ≠ 6 → f ≠ 13 → ra_T J m x f = ra_T A m x f := fun x f q1 q2 q3 q4 => by rw [hJ]; exact dr_T hn q2 q3 q4 401 q1
  have jo : ∀ j, (j < 200 ∧ j ≠ 3) → J (m + 1) j = A (m + 1) j := fun j q => by rw [hJ]; exact dr_o 401 (Or.inr ⟨fun t _ _ => by omega, by omega, by omega⟩) hn (by omega) (by omega) (by omega) (by omega)
  have jcl : ∀ x q, x < n → q < n → ra_T J m x 6 = 1 → ra_T A m x 4 = nI q → q ∉ [t] ∧ ¬ (ra_T A m q 6 = 1 ∧ ra_T J m q 6 = 5) := fun x q q1 q2 q3 q4 => by
    rw [hJ] at q3 ⊢
    exact dr_cl hn 401 (by omega) (fun y z => by have : y = t := by simpa using z
                                                 rw [this]; exact ht) x q q1 q2 q3 q4
  have jS : ivS J m n := by rw [hJ]; exact dr_S hn 401 hS
  have jZ : ∀ x, n ≤ x → J (m + 4) x = A (m + 4) x := fun x q => by rw [hJ]; exact dr_4 401 q
  rw [← hJ] at dJ hb' zJ ⊢
  have J8 : J m 8 = 0 := by rw [hJ, dr_o 401 (by omega) hn (by omega) (by omega) (by omega) (by omega)]; exact A8
  have cT : ∀ x f, ra_T (ra_cls J m n 5) m x f = ra_T J m x f := fun x f => ra_cls_T (by omega)
  have v1 : ¬ v = 1 := by rcases hv with e | e <;> rw [e] <;> decide
  have v3 : ¬ v ≤ 3 := by rcases hv with e | e <;> rw [e] <;> decide
  have one : ∀ x, x < n → ra_T A m x 6 = 1 → x ≠ t ∧ ra_T I m x 6 = 1 := fun x q z => by
    rw [A6 x q] at z
    by_cases e : x = t
    · rw [if_pos e] at z; exact absurd z v1
    · rw [if_neg e] at z; exact ⟨e, z⟩
  refine ix_mt h ((cl_o (by omega)).trans ((jo 1 (by omega)).trans (Ar 1 (by omega) (by omega)))) (fun x f q1 q2 => ?_) (fun x q z => ?_) (fun x q => ?_) (fun x q z => ?_) (fun l f q1 q2 => ?_) ?_ (fun j q1 q2 => (cl_o (by omega)).trans ((jo j (by omega)).trans (Ar j (by omega) (by omega)))) ?_ ?_ ivC_cls ?_ (fun x q => ?_) ?_
  · rw [cT, jT x f q1 (by omega) (by omega) (by omega), AT x f q1 q2]
  · rw [cT] at z
    rw [cT, jT x 7 q (by omega) (by omega) (by omega)]
    refine A7 x q ?_
    rcases js x q with y | ⟨-, y2⟩
    · rw [← y]; exact z
    · rw [y2] at z; exact absurd z (by decide)
  · rw [cT]
    rcases js x q with z | ⟨z1, z2⟩
    · rw [z, A6 x q]
      split
      · rcases hv with e | e
        · exact ⟨5, by decide, e⟩
        · exact ⟨6, by decide, e⟩
      · exact ix_s h q
    · rw [z2]
      exact ⟨5, by decide, rfl⟩
  · rw [cT] at z
    rcases js x q with y | ⟨y1, y2⟩
    · rw [y, A6 x q] at z
      by_cases e : x = t
      · rw [if_pos e] at z; exact absurd z v3
      · rw [if_neg e] at z; exact z
    · rw [y2] at z
      exact absurd z (by decide)
  · unfold ra_L
    rw [cl_o (by omega), jo _ (by omega)]
    exact AL l f q1 (by omega)
  · exact cls_rng (fun l q => by
      rw [show ra_L J m l 3 = ra_L I m l 3 from (jo _ (by omega)).trans (AL l 3 q (by decide))]
      exact (h.1.2.1.1 l q).2.2.2)
  · have e32 : ∀ x, x < n → (ra_T J m x 6 = 3 ↔ ra_T A m x 6 = 3) ∧ (ra_T J m x 6 = 2 ↔ ra_T A m x 6 = 2) := fun x q => by
      rcases js x q with y | ⟨y1, y2⟩
      · rw [y]; exact ⟨Iff.rfl, Iff.rfl⟩
      · rw [y1, y2]
        constructor <;> constructor <;> intro z <;> exact absurd z (by decide)
    have eW : ∀ w, w < 6 → ra_W (ra_cls J m n 5) m w 0 = ra_W A m w 0 := fun w q => (cl_o (by omega)).trans (jo _ (by omega))
    refine ⟨fun x q => ?_, fun x q => ?_, fun w q => ?_⟩
    · rw [cT, cT, cT, cT, jT x 9 q (by omega) (by omega) (by omega), jT x 10 q (by omega) (by omega) (by omega), jT x 11 q (by omega) (by omega) (by omega), (e32 x q).1]
      rcases hWA.1 x q with ⟨a1, w, k, e, a2, a3, a4, a5⟩ | a1
      · exact Or.inl ⟨a1, w, k, e, a2, a3, (eW w a2).trans a4, a5⟩
      · exact Or.inr a1
    · rw [cT, cT, jT x 8 q (by omega) (by omega) (by omega), (e32 x q).2]
      exact hWA.2.1 x q
    · rw [eW w q]
      rcases hWA.2.2 w q with y | ⟨x, y1, y2, y3, y4⟩
      · exact Or.inl y
      · exact Or.inr ⟨x, y1, y2, by rw [cT]; exact (e32 x y1).1.mpr y3, by rw [cT, jT x 9 y1 (by omega) (by omega) (by omega)]; exact y4⟩
  · intro x q z
    rw [cT] at z
    have hA1 : ra_T A m x 6 = 1 := by
      rcases js x q with y | ⟨y1, -⟩
      · rw [← y]; exact z
      · exact y1
    obtain ⟨hne, hI1⟩ := one x q hA1
    obtain ⟨p, p1, p2, p3⟩ := h.1.2.2.2 x q hI1
    have pA : ra_T A m x 4 = nI p := (AT x 4 q (by decide)).trans p2
    obtain ⟨w1, w2⟩ := jcl x p q (by omega) z pA
    have hpt : p ≠ t := fun e => w1 (by rw [e]; simp)
    refine ⟨p, p1, by rw [cT, jT x 4 q (by omega) (by omega) (by omega)]; exact pA, ?_⟩
    rw [cT]
    rcases js p (by omega) with y | y
    · rw [y, A6 p (by omega), if_neg hpt]
      exact p3
    · exact absurd y w2
  · obtain ⟨as, s1, s2, s3, s4⟩ := jS
    refine ⟨as, (cl_o (by omega)).trans s1, s2, fun x => ?_, fun i x q => (cl_o (by omega)).trans (s4 i x q)⟩
    rw [s3 x, cT]
  · rw [cl_o (by omega), jZ x q]
    exact AZ x q
  · refine ivN_o h.2.2 ((cl_o (by omega)).trans ((jo 0 (by omega)).trans (Ar 0 (by omega) (by omega)))) ((cl_o (by omega)).trans ((jo 2 (by omega)).trans (Ar 2 (by omega) (by omega)))) (fun l q => ?_) ?_ ?_ (fun j => ?_) (fun x q => ?_)
    · rw [show ra_L (ra_cls J m n 5) m l 4 = ra_L I m l 4 from (cl_o (by omega)).trans ((jo _ (by omega)).trans (AL l 4 q (by decide)))]
      exact h.2.2.2.2.1 l q
    · obtain ⟨x, x1, x2⟩ := dJ.2.2.2.2.2 J8
      exact ⟨x, by omega, (cl_o (by omega)).trans x2⟩
    · rw [cl_o (by omega), J8, ix_8 h]
    · rw [cl_o (by omega), cl_o (by omega)]
      have := zJ j
      have z := ix_z h j
      exact ⟨this.1.trans z.1.symm, this.2.trans z.2.symm⟩
    · rw [cl_o (by omega)]
      exact dJ.2.2.2.1 x q J8
/-! failing -/
theorem shl_eq : ∀ a, a < 21 → ∀ r, r < 9 → (nI a <<< (nI (r + 1) - 1 &&& 31)) = nI (a * 2 ^ r) := by decide +kernel
theorem p2_le {r : Nat} (h : r < 9) : 2 ^ r ≤ 256 := by
  have : 2 ^ r ≤ 2 ^ 8 := Nat.pow_le_pow_right (by decide) (by omega)
  simpa using this
theorem ix_fail (h : ix_ I m n T W P L) (hT : T < 1000000) (hL : L < 1999990000) {t w k : Nat} (ht : t < n) (hw : w < 6) (h6 : ra_T I m t 6 = 3) (h9 : ra_T I m t 9 = nI w) {c : Int32} : ix_ (sp_fail I m n t w k c).2 m n T W P (L + 410) := by
  have hn := ix_4 h
  obtain ⟨r, hr, e7⟩ := ix_7 h ht (by rw [h6]; decide)
  obtain ⟨tr, htr, htr1, etr⟩ := h.1.2.1.2.2.2.2.1
  obtain ⟨ar, har, har1, ear⟩ := h.1.2.1.2.2.2.1
  obtain ⟨x0, x01, x02⟩ := h.2.2.1
  obtain ⟨F, hF⟩ : ∃ F, F = sp_f8 I m t w c := ⟨_, rfl⟩
  have fo : ∀ a j, (a ≠ m + 1 ∨ (j ≠ 200 + 14 * t + 7 ∧ j ≠ 60 + 4 * w + 3 ∧ j ≠ 60 + 4 * w ∧ j ≠ 200 + 14 * t + 9 ∧ j ≠ 200 + 14 * t + 10 ∧ j ≠ 200 + 14 * t + 11 ∧ j ≠ 200 + 14 * t + 13)) → (a ≠ m ∨ (j ≠ 9 ∧ j ≠ 6)) → a ≠ m + 6 → a ≠ m + 4 → a ≠ m + 5 → F a j = I a j := fun a j q1 q2 q3 q4 q5 => by rw [hF]; exact f8_o q1 q2 q3 q4 q5
  have f7 : ra_T F m t 7 = nI (r + 1) := by
    unfold ra_T
    rw [hF, f8_7 hw, show I (m + 1) (200 + 14 * t + 7) = nI r from e7, nI_1]
  have f4 : ∀ x, n ≤ x → F (m + 4) x = I (m + 4) x := fun x q => by
    rw [hF]
    unfold sp_f8
    have e : ∀ X : Nat → Nat → Int32, sp_bl X m t c (m + 4) x = X (m + 4) x := fun X => by
      unfold sp_bl
      split
      · unfold ra_blame
        split
        · exact i2_ua (by omega)
        · rw [i2_uj (by omega), i2_ua (by omega), i2_ua (by omega)]
      · exact i2_ua (by omega)
    rw [e, sp_log_o (by omega) (by omega), sp_lw_o (by omega), i2_ua (by omega), i2_ua (by omega), i2_ua (by omega)]
  have dF : dv_ F m n (L + 1) := by rw [hF]; exact f8_dv (ix_dv h) hw (by omega)
  have F8 : F m 8 = 0 := (fo _ _ (by omega) (by omega) (by omega) (by omega) (by omega)).trans (ix_8 h)
  have FT : ∀ x f, x < n → f < 7 → ra_T F m x f = ra_T I m x f := fun x f _ _ => fo _ _ (by omega) (by omega) (by omega) (by omega) (by omega)
  have FT8 : ∀ x, x < n → ra_T F m x 8 = ra_T I m x 8 := fun x _ => fo _ _ (by omega) (by omega) (by omega) (by omega) (by omega)
  have F9 : ra_T F m t 9 = -1 ∧ ra_T F m t 10 = -1 ∧ ra_T F m t 11 = -1 := by
    rw [hF]
    unfold sp_f8 ra_T
    rw [sp_bl_o (by omega) (by omega) (by omega), sp_bl_o (by omega) (by omega) (by omega), sp_bl_o (by omega) (by omega) (by omega), sp_log_r, sp_log_r, sp_log_r]
    unfold sp_lw
    refine ⟨?_, ?_, ?_⟩
    · rw [i2_uj (by omega), i2_uj (by omega), i2_us]
    · rw [i2_uj (by omega), i2_us]
    · rw [i2_us]
  have Fx : ∀ x f, x < n → x ≠ t → (f = 8 ∨ f = 9 ∨ f = 10 ∨ f = 11) → ra_T F m x f = ra_T I m x f := fun x f _ _ _ => fo _ _ (by omega) (by omega) (by omega) (by omega) (by omega)
  have FW : ∀ w', w' < 6 → ra_W F m w' 0 = if w' = w then -1 else ra_W I m w' 0 := fun w' q => by
    by_cases e : w' = w
    · rw [if_pos e, e, hF]
      unfold sp_f8 ra_W
      rw [sp_bl_o (by omega) (by omega) (by omega), sp_log_r]
      unfold sp_lw
      rw [i2_uj (by omega), i2_uj (by omega), i2_uj (by omega)]
      exact i2_us
    · rw [if_neg e]
      exact fo _ _ (by omega) (by omega) (by omega) (by omega) (by omega)
  have F7 : ∀ x, x < n → x ≠ t → ra_T I m x 6 ≤ 3 → ∃ r, r < 9 ∧ ra_T F m x 7 = nI r := fun x q e z => by
    rw [show ra_T F m x 7 = ra_T I m x 7 from fo _ _ (by omega) (by omega) (by omega) (by omega) (by omega)]
    exact ix_7 h q z
  have t8 : ra_T I m t 8 = -1 := by
    rcases h.1.2.2.1.2.1 t ht with ⟨z, -⟩ | ⟨-, z⟩
    · rw [h6] at z; exact absurd z (by decide)
    · exact z
  unfold sp_fail
  rw [show I (m + 1) (200 + 14 * t + 7) + 1 = nI (r + 1) by rw [show I (m + 1) (200 + 14 * t + 7) = nI r from e7, nI_1], etr, ← hF]
  by_cases hc : nI tr ≤ nI (r + 1)
  · rw [if_pos hc]
    show ix_ (sp_f5 F m n t k c) m n T W P (L + 410)
    unfold sp_f5 sp_drags
    rw [if_pos F8]
    obtain ⟨G, hG⟩ : ∃ G, G = i2_u F (m + 3) k (F (m + 3) k + 1) := ⟨_, rfl⟩
    rw [← hG]
    have go : ∀ a j, a ≠ m + 3 → G a j = F a j := fun a j q => by rw [hG, i2_ua q]
    have GT : ∀ x f, ra_T G m x f = ra_T F m x f := fun x f => go _ _ (by omega)
    have dG : dv_ G m n (L + 1) := dv_o dF (go _ _ (by omega)) (go _ _ (by omega)) (fun t' _ => ⟨go _ _ (by omega), go _ _ (by omega)⟩) (go _ _ (by omega)) (lb_o dF.2.2.2.2.2 (go _ _ (by omega)) (go _ _ (by omega)) (Nat.le_refl _)) (fun _ _ q => cb_o q (go _ _ (by omega)) (go _ _ (by omega)))
    have n5 : ¬ ra_T G m t 6 = 5 := by rw [GT, FT t 6 ht (by decide), h6]; decide
    have SG : ivS G m n := ivS_o h.2.1.2.1 ((go _ _ (by omega)).trans (fo _ _ (by omega) (by omega) (by omega) (by omega) (by omega))) (fun j q => (go _ _ (by omega)).trans (fo _ _ (by omega) (by omega) (by omega) (by omega) (by omega))) (fun x q => by rw [GT, FT x 6 q (by decide)])
    have zG : zr_ G m := zr_o (ix_z h) (fun j => (go _ _ (by omega)).trans (fo _ _ (by omega) (by omega) (by omega) (by omega) (by omega))) (fun j => (go _ _ (by omega)).trans (fo _ _ (by omega) (by omega) (by omega) (by omega) (by omega)))
    have ao : ∀ a j, (a ≠ m + 1 ∨ (j ≠ 200 + 14 * t + 6 ∧ j ≠ 3 ∧ j < 5800)) → (a ≠ m ∨ (j ≠ 10 ∧ j ≠ 6)) → a ≠ m + 6 → sp_ga G m t c a j = G a j := fun a j => sp_ga_o
    have A6 : ∀ x, x < n → ra_T (sp_ga G m t c) m x 6 = if x = t then 5 else ra_T I m x 6 := fun x q => by
      rw [ga_s (by omega) (by omega), GT, FT x 6 q (by decide)]
    have AT : ∀ x f, x < n → f ≠ 6 → f < 14 → ra_T (sp_ga G m t c) m x f = ra_T F m x f := fun x f _ _ _ => (ao _ _ (by omega) (by omega) (by omega)).trans (go _ _ (by omega))
    refine ix_drag (c := 100) h ht (by rw [h6]; decide) (Or.inl rfl) A6 (fun x f q1 q2 => (AT x f q1 (by omega) (by omega)).trans (FT x f q1 (by omega))) (fun x q z => ?_) (ivW_lv h.1.2.2.1 ht hn hw h9 (v := 5) (fun x q e => ?_) (by rw [A6 t ht, if_pos rfl]) (by decide) (Or.inr ⟨by decide, ?_⟩) (fun x f q e hf => (AT x f q (by omega) (by omega)).trans (Fx x f q e hf)) ((AT t 9 ht (by decide) (by decide)).trans F9.1) ((AT t 10 ht (by decide) (by decide)).trans F9.2.1) ((AT t 11 ht (by decide) (by decide)).trans F9.2.2) (fun w' q => ?_)) (fun l f q1 q2 => ?_) (fun j q1 q2 => ?_) (ivS_ga SG hn ht n5) (L1 := L + 2) (dv_ga dG (by omega) ht n5) (zr_o zG (fun _ => ao _ _ (by omega) (by omega) (by omega)) (fun _ => ao _ _ (by omega) (by omega) (by omega))) ?_ (fun x q => ?_) (by omega) (by omega)
    · rw [A6 x q] at z
      have hne : x ≠ t := fun e => by rw [if_pos e] at z; exact absurd z (by decide)
      rw [if_neg hne] at z
      rw [AT x 7 q (by decide) (by decide)]
      exact F7 x q hne z
    · rw [A6 x q, if_neg e]
      exact ⟨Iff.rfl, Iff.rfl⟩
    · exact ((AT t 8 ht (by decide) (by decide)).trans (FT8 t ht)).trans t8
    · exact ((ao _ _ (by omega) (by omega) (by omega)).trans (go _ _ (by omega))).trans (FW w' q)
    · exact ((ao _ _ (by omega) (by omega) (by omega)).trans (go _ _ (by omega))).trans (fo _ _ (by omega) (by omega) (by omega) (by omega) (by omega))
    · exact ((ao _ _ (by omega) (by omega) (by omega)).trans (go _ _ (by omega))).trans (fo _ _ (by omega) (by omega) (by omega) (by omega) (by omega))
    · exact ((ao _ _ (by omega) (by omega) (by omega)).trans (go _ _ (by omega))).trans F8
    · exact ((ao _ _ (by omega) (by omega) (by omega)).trans (go _ _ (by omega))).trans (f4 x q)
  · rw [if_neg hc]
    have hrt : r + 1 < tr := by
      rcases Nat.lt_or_ge (r + 1) tr with q | q
      · exact q
      · exact absurd (nI_le q (by omega)) hc
    show ix_ (sp_f2 F m t) m n T W P (L + 410)
    have po : ∀ a j, (a ≠ m + 1 ∨ (j ≠ 200 + 14 * t + 6 ∧ j ≠ 200 + 14 * t + 8)) → sp_f2 F m t a j = F a j := fun a j q => by
      unfold sp_f2
      rw [i2_at, if_neg (by omega), i2_at, if_neg (by omega)]
    have p6 : ∀ x, x < n → ra_T (sp_f2 F m t) m x 6 = if x = t then 2 else ra_T I m x 6 := fun x q => by
      by_cases e : x = t
      · rw [if_pos e, e]
        unfold sp_f2 ra_T
        rw [i2_uj (by omega), i2_us]
      · rw [if_neg e]
        exact (po _ _ (by omega)).trans (FT x 6 q (by decide))
    have p8 : ra_T (sp_f2 F m t) m t 8 = nI (x0 + ar * 2 ^ r) := by
      unfold sp_f2 ra_T
      rw [i2_us, show F (m + 1) (200 + 14 * t + 7) = nI (r + 1) from f7, fo _ _ (by omega) (by omega) (by omega) (by omega) (by omega), fo _ _ (by omega) (by omega) (by omega) (by omega) (by omega), x02, ear, shl_eq ar har r (by omega), nI_add]
    have hpow := p2_le (r := r) (by omega)
    have hmul : ar * 2 ^ r ≤ 20 * 256 := Nat.mul_le_mul (by omega) hpow
    have st : ∀ x, x < n → ra_T I m x 6 ≤ 3 → ra_T (sp_f2 F m t) m x 6 ≤ 3 := fun x q z => by
      rw [p6 x q]
      split
      · decide
      · exact z
    have pI : ∀ x f, x < n → x ≠ t → f < 13 → ra_T (sp_f2 F m t) m x f = ra_T I m x f := fun x f q1 q2 q3 => (po _ _ (by omega)).trans (fo _ _ (by omega) (by omega) (by omega) (by omega) (by omega))
    refine ix_1t h ht (s := 2) (v := 2) rfl (by decide) (by decide) (by rw [h6]; decide) (fun a j q1 q2 q3 q4 q5 q6 q7 q8 => ?_) p6 (fun x q z => ?_) (ivW_lv h.1.2.2.1 ht hn hw h9 (v := 2) (fun x q e => ?_) (by rw [p6 t ht, if_pos rfl]) (by decide) (Or.inl ⟨rfl, _, ?_, p8⟩) (fun x f q e hf => pI x f q e (by omega)) ?_ ?_ ?_ (fun w' q => (po _ _ (by omega)).trans (FW w' q))) (fun q => by omega) (fun q => by omega) ?_ ?_ ?_
    · rw [po _ _ (by omega)]
      by_cases e : a = m + 4
      · rw [e]
        exact f4 j (by omega)
      · exact fo _ _ (by omega) (by omega) (by omega) e (by omega)
    · rw [show ra_T (sp_f2 F m t) m x 7 = ra_T F m x 7 from po _ _ (by omega)]
      by_cases e : x = t
      · rw [e]; exact ⟨r + 1, by omega, f7⟩
      · rw [p6 x q, if_neg e] at z
        exact F7 x q e z
    · rw [p6 x q, if_neg e]
      exact ⟨Iff.rfl, Iff.rfl⟩
    · omega
    · exact (po _ _ (by omega)).trans F9.1
    · exact (po _ _ (by omega)).trans F9.2.1
    · exact (po _ _ (by omega)).trans F9.2.2
    · exact ivC_o h.2.1.1 (fun l q => (po _ _ (by omega)).trans (fo _ _ (by omega) (by omega) (by omega) (by omega) (by omega))) (fun x q => (po _ _ (by omega)).trans (FT x 0 q (by decide))) st
    · refine ivR_o h.2.1.2.2.1 (fun x q z => ?_)
      rw [p6 x q] at z
      by_cases e : x = t
      · rw [e, h6]; decide
      · rw [if_neg e] at z; exact z
    · refine ivN_o h.2.2 ((po _ _ (by omega)).trans (fo _ _ (by omega) (by omega) (by omega) (by omega) (by omega))) ((po _ _ (by omega)).trans (fo _ _ (by omega) (by omega) (by omega) (by omega) (by omega))) (fun l q => ?_) ?_ ((po _ _ (by omega)).trans (fo _ _ (by omega) (by omega) (by omega) (by omega) (by omega))) (fun j => ⟨(po _ _ (by omega)).trans (fo _ _ (by omega) (by omega) (by omega) (by omega) (by omega)), (po _ _ (by omega)).trans (fo _ _ (by omega) (by omega) (by omega) (by omega) (by omega))⟩) (fun x q => ?_)
      · rw [show ra_L (sp_f2 F m t) m l 4 = ra_L I m l 4 from (po _ _ (by omega)).trans (fo _ _ (by omega) (by omega) (by omega) (by omega) (by omega))]
        exact h.2.2.2.2.1 l q
      · obtain ⟨y, y1, y2⟩ := dF.2.2.2.2.2 F8
        exact ⟨y, by omega, (po _ _ (by omega)).trans y2⟩
      · rw [po _ _ (by omega)]
        exact dF.2.2.2.1 x q F8
end Acts4
