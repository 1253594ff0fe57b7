/-! THE CLASS: taking -/
section Tak
variable {M M' : mm_T} {I J : Nat → Nat → Int32} {m n : Nat} {ta tm : Nat → Nat}
/-- what was taken of a lane -/
theorem re_Lf (h : re_ M I m n ta tm) {l f : Nat} {x : Int32} (hl : l < 5) (hf : f < 5) : re_ (mm_pi M (12 + l) (9 + f) x) (i2_u I (m + 1) (10 + 10 * l + (5 + f)) x) m n ta tm := by
  refine re_L h (fx_pi (by omega)) (fun a j q => by rw [i2_at, if_neg (by omega)]) ?_
  intro l' hl'
  obtain ⟨e1, e2⟩ := h.1.2.2.2 l' hl'
  have eo : opn_ (i2_u I (m + 1) (10 + 10 * l + (5 + f)) x) m n l' = opn_ I m n l' := opn_o (i2_uj (by omega)) (fun t _ => ⟨i2_uj (by omega), i2_uj (by omega)⟩)
  refine ⟨by rw [mi_pij (by omega), eo]; exact e1, fun f' hf' => ?_⟩
  unfold ra_L
  rw [mi_pi, i2_at]
  by_cases q : l' = l ∧ f' = f
  · rw [if_pos (by omega), if_pos (by omega)]
  · rw [if_neg (by omega), if_neg (by omega)]
    exact e2 f' hf'
def sp_rec (I : Nat → Nat → Int32) (m t l : Nat) (x : Int32) : Nat → Nat → Int32 :=
  if x ≤ I (m + 1) (10 + 10 * l + 8) then i2_u (i2_u (i2_u I (m + 1) (10 + 10 * l + 5) (I (m + 1) (10 + 10 * l + 5) + I (m + 1) (200 + 14 * t + 2))) (m + 1) (10 + 10 * l + 6) (I (m + 1) (10 + 10 * l + 6) + 1)) (m + 1) (10 + 10 * l + 7) (I (m + 1) (10 + 10 * l + 7) + x)
  else i2_u (i2_u (i2_u (i2_u (i2_u I (m + 1) (10 + 10 * l + 5) (I (m + 1) (10 + 10 * l + 5) + I (m + 1) (200 + 14 * t + 2))) (m + 1) (10 + 10 * l + 6) (I (m + 1) (10 + 10 * l + 6) + 1)) (m + 1) (10 + 10 * l + 7) (I (m + 1) (10 + 10 * l + 7) + x)) (m + 1) (10 + 10 * l + 8) x) (m + 1) (10 + 10 * l + 9) (nI t)
theorem ce_rec (h : re_ M I m n ta tm) {t l : Nat} (ht : t < n) (hl : l < 5) {x : Int32} {P : mm_T → Prop} (K : ∀ M', re_ M' (sp_rec I m t l x) m n ta tm → P M') : cs_v mt_X3_recordTaken [pv_r (12 + l), pv_r (ta t), pv_i x] M P := by
  obtain ⟨g1, g2⟩ := re_ge h ht
  have hS := h.1.2.2.2
  refine wc_X3_recordTaken_0 (br_ln h.1.2.1 hl).1 ⟨g2, fun M1 e1 M2 e2 M3 e3 => ?_⟩
  have a1 : mm_i M (12 + l) 9 = I (m + 1) (10 + 10 * l + 5) := (hS l hl).2 0 (by decide)
  have a2 : mm_i M (ta t) 4 = I (m + 1) (200 + 14 * t + 2) := (h.1.2.2.1.1 t ht).2.1.2.1
  rw [a1, a2] at e1
  have h1 := re_Lf (f := 0) (x := I (m + 1) (10 + 10 * l + 5) + I (m + 1) (200 + 14 * t + 2)) h hl (by decide)
  rw [← e1] at h1
  have a3 : mm_i M1 (12 + l) 10 = I (m + 1) (10 + 10 * l + 6) := ((h1.1.2.2.2 l hl).2 1 (by decide)).trans (i2_uj (by omega))
  rw [a3] at e2
  have h2 := re_Lf (f := 1) (x := I (m + 1) (10 + 10 * l + 6) + 1) h1 hl (by decide)
  rw [← e2] at h2
  have a4 : mm_i M2 (12 + l) 11 = I (m + 1) (10 + 10 * l + 7) := by
    have := (h2.1.2.2.2 l hl).2 2 (by decide)
    unfold ra_L at this
    rw [i2_uj (by omega), i2_uj (by omega)] at this
    exact this
  rw [a4] at e3
  have h3 := re_Lf (f := 2) (x := I (m + 1) (10 + 10 * l + 7) + x) h2 hl (by decide)
  rw [← e3] at h3
  have a5 : mm_i M3 (12 + l) 12 = I (m + 1) (10 + 10 * l + 8) := by
    have := (h3.1.2.2.2 l hl).2 3 (by decide)
    unfold ra_L at this
    rw [i2_uj (by omega), i2_uj (by omega), i2_uj (by omega)] at this
    exact this
  rw [a5]
  unfold sp_rec at K
  refine ⟨fun c => ?_, fun c M4 e4 M5 e5 => ?_⟩
  · rw [if_pos c] at K
    exact K M3 h3
  · rw [if_neg c] at K
    have h4 := re_Lf (f := 3) (x := x) h3 hl (by decide)
    rw [← e4] at h4
    have a6 : mm_i M4 (ta t) 0 = nI t := (h4.1.2.2.1.1 t ht).1.2.2.1
    rw [a6] at e5
    have h5 := re_Lf (f := 4) (x := nI t) h4 hl (by decide)
    rw [← e5] at h5
    exact K M5 h5
/-- the tokens -/
theorem re_tok (h : re_ M I m n ta tm) {x : Int32} : re_ (mm_pi M 5 12 x) (i2_u I (m + 1) 2 x) m n ta tm := by
  obtain ⟨x1, x2, x3⟩ := h.2.2.2.2.1
  refine re_X h (fx_pi (by omega)) (fun a j q => by rw [i2_at, if_neg (by omega)]) ⟨?_, ?_, ?_⟩
  · rw [mi_pij (by decide), i2_uj (by omega)]; exact x1
  · rw [mi_pis, i2_us]
  · rw [mi_pij (by decide), i2_ua (by omega)]; exact x3
theorem re_now (h : re_ M I m n ta tm) {x : Int32} : re_ (mm_pi M 5 11 x) (i2_u I (m + 1) 0 x) m n ta tm := by
  obtain ⟨x1, x2, x3⟩ := h.2.2.2.2.1
  refine re_X h (fx_pi (by omega)) (fun a j q => by rw [i2_at, if_neg (by omega)]) ⟨?_, ?_, ?_⟩
  · rw [mi_pis, i2_us]
  · rw [mi_pij (by decide), i2_uj (by omega)]; exact x2
  · rw [mi_pij (by decide), i2_ua (by omega)]; exact x3
/-- the class' taking is the reference's -/
theorem tk_eq {t w l : Nat} (hw : w < 6) (hl : l < 5) : sp_rec (i2_u (sp_gv (i2_u (sp_srv I m t l) (m + 1) 2 (I (m + 1) 2 + 1)) m t w (I (m + 1) 2 + 1) (I (m + 1) 0 + I (m + 1) 5)) (m + 1) (60 + 4 * w + 1) (I (m + 1) (60 + 4 * w + 1) + 1)) m t l (I (m + 1) 0 - I (m + 1) (200 + 14 * t + 5)) = sp_tk17 I m t w l := by
  obtain ⟨v4, hv4⟩ : ∃ v, v = I (m + 1) (10 + 10 * l + 4) + (2520 / I (m + 1) (10 + 10 * l + 0)) * I (m + 1) (200 + 14 * t + 2) := ⟨_, rfl⟩
  have e1 : sp_srv I m t l = i2_u (i2_u I (m + 1) (200 + 14 * t + 6) 3) (m + 1) (10 + 10 * l + 4) v4 := by
    unfold sp_srv sp_pass
    rw [i2_uj (by omega), i2_uj (by omega), i2_uj (by omega), hv4]
  have e2 : sp_pass (sp_tk10 I m t w) m t l = i2_u (sp_tk10 I m t w) (m + 1) (10 + 10 * l + 4) v4 := by
    unfold sp_pass
    rw [tk10_o (by omega), tk10_o (by omega), tk10_o (by omega), hv4]
  obtain ⟨X, hX⟩ : ∃ X, X = i2_u (sp_gv (i2_u (sp_srv I m t l) (m + 1) 2 (I (m + 1) 2 + 1)) m t w (I (m + 1) 2 + 1) (I (m + 1) 0 + I (m + 1) 5)) (m + 1) (60 + 4 * w + 1) (I (m + 1) (60 + 4 * w + 1) + 1) := ⟨_, rfl⟩
  have eX : X = sp_pass (sp_tk10 I m t w) m t l := by
    rw [hX, e1, e2]
    unfold sp_gv sp_tk10 sp_tk7
    funext a j
    simp only [i2_at]
    repeat' split
    all_goals first | rfl | (exfalso; omega)
  rw [← hX, eX]
  have ro : ∀ j, (j = 200 + 14 * t + 2 ∨ j = 10 + 10 * l + 5 ∨ j = 10 + 10 * l + 6 ∨ j = 10 + 10 * l + 7 ∨ j = 10 + 10 * l + 8) → sp_pass (sp_tk10 I m t w) m t l (m + 1) j = I (m + 1) j := fun j q => by
    rw [pass_o (by omega), tk10_o (by omega)]
  unfold sp_rec sp_tk17 sp_tk14
  rw [ro _ (by omega), ro _ (by omega), ro _ (by omega), ro _ (by omega), ro _ (by omega)]
theorem ce_take (h : re_ M I m n ta tm) (h8 : I m 8 = 0) {L : Nat} (hL : I m 6 = nI L) (hL2 : L < 2000000000) (hrk : rk_ok I m n) (hwz : wz_ I m n) (hW : ∀ w, w < 6 → ra_W I m w 0 = -1 ∨ ∃ t, t < n ∧ ra_W I m w 0 = nI t) {x1 : Int32} {P : Int32 → mm_T → Prop} (K2 : ¬ (0 ≤ x1 ∧ x1 ≤ 5) → P (-2) M) (K3 : ∀ w, w < 6 → x1 = nI w → ¬ ra_W I m w 0 = -1 → P (-3) M) (K1 : ∀ w, w < 6 → x1 = nI w → ra_W I m w 0 = -1 → ∀ M', re_ M' (sp_tkby I m n w).2 m n ta tm → P (sp_tkby I m n w).1 M') : cs_i mt_X10_takeIfCan [pv_r 5, pv_i x1] M P := by
  have h4 := re_4 h
  refine wc_X10_takeIfCan_0 (re_m5 h) (ce_workerAt h (fun w hw hx => ?_) (fun q => ⟨fun c => absurd rfl c, fun _ => K2 q⟩))
  have kw := (h.1.1.2.2.1.2.1 w hw).2.1
  have rw1 := (h.2.1.2.2.1 w hw).1
  refine ⟨fun _ => ⟨kw, ?_⟩, fun c => absurd c (by omega)⟩
  rw [rw1]
  rcases hW w hw with e | ⟨t0, ht0, e⟩
  · refine ⟨fun _ => ?_, fun c => absurd (by rw [e]; rfl) c⟩
    obtain ⟨b1, b2⟩ := re_bk h
    rw [b1]
    have K1 := K1 w hw hx e
    unfold sp_tkby at K1
    refine ⟨b2, ce_serve h hrk hwz (fun q => ⟨fun c => absurd rfl c, fun _ => ?_⟩) (fun l t M1 q1 hl q3 ht q5 q6 h1 => ?_)⟩
    · rw [q] at K1
      exact K1 M h
    · simp only [q1, q3] at K1
      obtain ⟨g1, g2⟩ := re_ge h1 ht
      refine ⟨fun _ M2 e2 => ?_, fun c => absurd c (by omega)⟩
      have so : ∀ a j, (a ≠ m + 1 ∨ (j ≠ 10 + 10 * l + 4 ∧ j ≠ 200 + 14 * t + 6)) → sp_srv I m t l a j = I a j := fun a j q => by
        unfold sp_srv
        rw [pass_o (by omega), i2_at, if_neg (by omega)]
      rw [h1.2.2.2.2.1.2.1, so _ _ (by omega)] at e2
      have h2 := re_tok (x := I (m + 1) 2 + 1) h1
      rw [← e2] at h2
      obtain ⟨b3, b4⟩ := re_bk h2
      obtain ⟨r1, r2, r3⟩ := re_rules h2
      have so2 : ∀ a j, (a ≠ m + 1 ∨ (j ≠ 2 ∧ j ≠ 10 + 10 * l + 4 ∧ j ≠ 200 + 14 * t + 6)) → i2_u (sp_srv I m t l) (m + 1) 2 (I (m + 1) 2 + 1) a j = I a j := fun a j q => by
        rw [i2_at, if_neg (by omega), so _ _ (by omega)]
      have v12 : mm_i M2 5 12 = I (m + 1) 2 + 1 := h2.2.2.2.2.1.2.1.trans i2_us
      have v11 : mm_i M2 5 11 = I (m + 1) 0 := h2.2.2.2.2.1.1.trans (so2 _ _ (by omega))
      have v5 : mm_i M2 11 1 = I (m + 1) 5 := (r3 1 (by decide)).trans (so2 _ _ (by omega))
      rw [b3, r1, v12, v11, v5]
      refine ⟨b4, 6, r2, by decide, (re_ge h2 ht).2, ce_giveTo h2 ht hw (fun M3 h3 M4 e4 => ?_)⟩
      have vo : ∀ a j, (a ≠ m + 1 ∨ (j ≠ 2 ∧ j ≠ 10 + 10 * l + 4 ∧ j ≠ 200 + 14 * t + 6 ∧ j ≠ 60 + 4 * w ∧ j ≠ 200 + 14 * t + 9 ∧ j ≠ 200 + 14 * t + 10 ∧ j ≠ 200 + 14 * t + 11)) → sp_gv (i2_u (sp_srv I m t l) (m + 1) 2 (I (m + 1) 2 + 1)) m t w (I (m + 1) 2 + 1) (I (m + 1) 0 + I (m + 1) 5) a j = I a j := fun a j q => by
        unfold sp_gv
        rw [i2_at, if_neg (by omega), i2_at, if_neg (by omega), i2_at, if_neg (by omega), i2_at, if_neg (by omega), so2 _ _ (by omega)]
      have vt : mm_i M3 (86 + w) 2 = I (m + 1) (60 + 4 * w + 1) := (h3.2.1.2.2.1 w hw).2.1.trans (vo _ _ (by omega))
      rw [vt] at e4
      have h4' := re_wi (f := 1) (x := I (m + 1) (60 + 4 * w + 1) + 1) h3 hw (by omega)
      rw [← e4] at h4'
      have vo4 : ∀ a j, (a ≠ m + 1 ∨ (j ≠ 2 ∧ j ≠ 10 + 10 * l + 4 ∧ j ≠ 200 + 14 * t + 6 ∧ j ≠ 60 + 4 * w ∧ j ≠ 60 + 4 * w + 1 ∧ j ≠ 200 + 14 * t + 9 ∧ j ≠ 200 + 14 * t + 10 ∧ j ≠ 200 + 14 * t + 11)) → i2_u (sp_gv (i2_u (sp_srv I m t l) (m + 1) 2 (I (m + 1) 2 + 1)) m t w (I (m + 1) 2 + 1) (I (m + 1) 0 + I (m + 1) 5)) (m + 1) (60 + 4 * w + 1) (I (m + 1) (60 + 4 * w + 1) + 1) a j = I a j := fun a j q => by
        rw [i2_at, if_neg (by omega), vo _ _ (by omega)]
      have vl : mm_r M4 (ta t) 2 = 12 + l := by
        rw [(h4'.1.2.2.1.1 t ht).1.2.2.2.2.1]
        congr 1
        unfold lmI ra_T
        rw [vo4 _ _ (by omega), show I (m + 1) (200 + 14 * t + 0) = nI l from q5]
        exact nI_clamp (by omega)
      have v11' : mm_i M4 5 11 = I (m + 1) 0 := h4'.2.2.2.2.1.1.trans (vo4 _ _ (by omega))
      have v6 : mm_i M4 (ta t) 6 = I (m + 1) (200 + 14 * t + 5) := (h4'.1.2.2.1.1 t ht).2.1.2.2.2.1.trans (vo4 _ _ (by omega))
      rw [vl, v11', v6]
      refine ⟨(br_ln h4'.1.2.1 hl).1, ce_rec h4' ht hl (fun M5 h5 => ?_)⟩
      rw [tk_eq hw hl] at h5
      have to : ∀ a j, a ≠ m + 1 → sp_tk17 I m t w l a j = I a j := fun a j q => by
        unfold sp_tk17
        split
        · exact tk14_o (Or.inl q)
        · rw [i2_ua q, i2_ua q, tk14_o (Or.inl q)]
      refine ce_note h5 ((to _ _ (by omega)).trans h8) ((to _ _ (by omega)).trans hL) hL2 ht (x3 := nI w) (Or.inr ⟨w, hw, rfl, rfl⟩) (fun M6 h6 => ?_)
      rw [(h6.1.2.2.1.1 t ht).1.2.2.1]
      exact K1 M6 h6
  · have hne : ¬ ra_W I m w 0 = -1 := by rw [e]; exact nI_nm (by omega)
    rw [e, rft_n (by omega)]
    have := (re_ge h ht0).1
    exact ⟨fun c => absurd c (by omega), fun _ => K3 w hw hx hne⟩
end Tak
