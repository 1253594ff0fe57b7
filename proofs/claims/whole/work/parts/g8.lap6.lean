/-! lapse: cells past the row's end stay -/
section Lap6
variable {I J N G : Nat → Nat → Int32} {m n t T W P L : Nat}
def hi_ (m : Nat) (J N : fI) : Prop := ∀ j, 6200 ≤ j → N (m + 1) j = J (m + 1) j
theorem hi_rf : hi_ m J J := fun _ _ => rfl
theorem hi_tr (h : hi_ m I J) (h' : hi_ m J N) : hi_ m I N := fun j q => (h' j q).trans (h j q)
theorem hi_u {j : Nat} {x : Int32} (h : j < 6200) : hi_ m J (i2_u J (m + 1) j x) := fun k q => i2_uj (by omega)
theorem hi_ga {x : Int32} {a : Nat} (ht : t < 400) (ha : J (m + 1) 3 = nI a) (h4 : a < 400) : hi_ m J (sp_ga J m t x) ∧ sp_ga J m t x (m + 1) 3 = nI (a + 1) := by
  refine ⟨fun j q => ?_, ga_3 ha h4⟩
  unfold sp_ga
  rw [sp_log_r, i2_ua (by omega), i2_uj (by omega), ha, nI_clamp (by omega), i2_uj (by omega), i2_uj (by omega)]
theorem hi_as1 {x : Int32} {a : Nat} (ht : t < 400) (ha : J (m + 1) 3 = nI a) (h4 : a < 400) : hi_ m J (sp_as1 J m t x) ∧ sp_as1 J m t x (m + 1) 3 = nI (a + 1) := by
  have hb : hi_ m J (sp_bl J m t x) := fun j q => by
    rw [bl_r]
    exact i2_uj (by omega)
  have h3 : sp_bl J m t x (m + 1) 3 = nI a := by
    rw [bl_r, i2_uj (by omega)]
    exact ha
  obtain ⟨g1, g2⟩ := hi_ga (x := x) ht h3 h4
  exact ⟨hi_tr hb g1, g2⟩
theorem hi_asd {x : Int32} : ∀ {ts : List Nat} {J : fI} {a : Nat}, (∀ t, t ∈ ts → t < 400) → J (m + 1) 3 = nI a → a + ts.length ≤ 400 → hi_ m J (sp_asd J m ts x) ∧ sp_asd J m ts x (m + 1) 3 = nI (a + ts.length)
  | [], J, a, _, ha, _ => ⟨hi_rf, ha⟩
  | t :: ts, J, a, hm, ha, hb => by
    rw [List.length_cons] at hb
    obtain ⟨g1, g2⟩ := hi_as1 (x := x) (hm t List.mem_cons_self) ha (by omega)
    have ih := hi_asd (x := x) (ts := ts) (J := sp_as1 J m t x) (a := a + 1) (fun y q => hm y (List.mem_cons_of_mem _ q)) g2 (by omega)
    refine ⟨hi_tr g1 ih.1, ?_⟩
    rw [List.length_cons, show a + (ts.length + 1) = a + 1 + ts.length by omega]
    exact ih.2
theorem cn_split {p q : Nat → Bool} : ∀ n, cn_ p n = cn_ (fun x => p x && q x) n + cn_ (fun x => p x && !q x) n
  | 0 => rfl
  | n + 1 => by
    have ih := cn_split (p := p) (q := q) n
    show cn_ p n + _ = (cn_ (fun x => p x && q x) n + _) + (cn_ (fun x => p x && !q x) n + _)
    cases hp : p n <;> cases hq : q n <;> simp [hp, hq] <;> omega
theorem hc_asd (hn : n ≤ 400) {lv : List Nat} {c : Int32} : hc_ (sp_asd J m ((List.range n).filter (sp_p J m lv)) c) m n + ((List.range n).filter (sp_p J m lv)).length = hc_ J m n := by
  have e1 : ((List.range n).filter (sp_p J m lv)).length = cn_ (fun x => decide (ra_T J m x 6 = 1) && sp_p J m lv x) n := by
    rw [← cn_len]
    refine cn_eq (fun x _ => ?_)
    cases h : sp_p J m lv x with
    | false => rw [Bool.and_false]
    | true => rw [decide_eq_true (sp_p_of h).1]; rfl
  have e2 : hc_ (sp_asd J m ((List.range n).filter (sp_p J m lv)) c) m n = cn_ (fun x => decide (ra_T J m x 6 = 1) && !sp_p J m lv x) n := by
    unfold hc_
    refine cn_eq (fun x hx => ?_)
    rw [asd_s hn (fun y q => by rw [List.mem_filter, List.mem_range] at q; exact q.1) hx]
    by_cases z : x ∈ (List.range n).filter (sp_p J m lv)
    · rw [if_pos z]
      rw [List.mem_filter] at z
      rw [z.2]
      simp
    · rw [if_neg z]
      have : sp_p J m lv x = false := by
        cases h : sp_p J m lv x with
        | false => rfl
        | true => exact absurd (List.mem_filter.mpr ⟨List.mem_range.mpr hx, h⟩) z
      rw [this]
      simp
  rw [e1, e2]
  have := cn_split (p := fun x => decide (ra_T J m x 6 = 1)) (q := sp_p J m lv) n
  unfold hc_
  omega
theorem hi_dr (hn : n ≤ 400) : ∀ (k : Nat) {J : fI} {lv : List Nat} {c : Int32} {a : Nat}, J (m + 1) 3 = nI a → a + hc_ J m n ≤ 400 → hi_ m J (sp_dr k J m n lv c).1
  | 0, _, _, _, _, _, _ => hi_rf
  | k + 1, J, lv, c, a, ha, hb => by
    have hc := hc_asd (J := J) (m := m) (lv := lv) (c := c) hn
    have h1 := hi_asd (x := c) (ts := (List.range n).filter (sp_p J m lv)) (fun y q => by rw [List.mem_filter, List.mem_range] at q; omega) ha (by omega)
    exact hi_tr h1.1 (hi_dr hn k (lv := (List.range n).filter (sp_p J m lv)) (c := 100) h1.2 (by omega))
theorem hi_fl (hn : n ≤ 400) (ht : t < n) {a : Nat} (ha : J (m + 1) 3 = nI a) (hb : a + 1 + hc_ J m n ≤ 400) (h6 : ¬ ra_T J m t 6 = 1) (hw : ∃ w, w < 6 ∧ ra_T J m t 9 = nI w) {c : Int32} : hi_ m J (sp_fl J m n t c) := by
  obtain ⟨w, w6, ew⟩ := hw
  unfold sp_fl
  rw [ew, nI_clamp (by omega)]
  obtain ⟨k, ek⟩ : ∃ k, k = (ra_T J m t 3).toNatClampNeg := ⟨_, rfl⟩
  rw [← ek]
  obtain ⟨F, hF⟩ : ∃ F, F = sp_f8 J m t w c := ⟨_, rfl⟩
  have Fr : F (m + 1) = sp_f8 J m t w c (m + 1) := by rw [hF]
  have Fo : ∀ j, j ≠ 200 + 14 * t + 7 → j ≠ 60 + 4 * w + 3 → j ≠ 60 + 4 * w → j ≠ 200 + 14 * t + 9 → j ≠ 200 + 14 * t + 10 → j ≠ 200 + 14 * t + 11 → j ≠ 200 + 14 * t + 13 → F (m + 1) j = J (m + 1) j := fun j q1 q2 q3 q4 q5 q6 q7 => by
    rw [hF]
    exact f8_o (by omega) (by omega) (by omega) (by omega) (by omega)
  have hF1 : hi_ m J F := fun j q => Fo j (by omega) (by omega) (by omega) (by omega) (by omega) (by omega) (by omega)
  have F3 : F (m + 1) 3 = nI a := (Fo 3 (by omega) (by omega) (by omega) (by omega) (by omega) (by omega) (by omega)).trans ha
  have F6 : ∀ x, ra_T F m x 6 = ra_T J m x 6 := fun x => Fo _ (by omega) (by omega) (by omega) (by omega) (by omega) (by omega) (by omega)
  unfold sp_fail
  rw [← hF]
  split
  · show hi_ m J (sp_f5 F m n t k c)
    unfold sp_f5 sp_drags
    obtain ⟨Y, hY⟩ : ∃ Y, Y = (if F m 8 = 0 then i2_u F (m + 3) k (F (m + 3) k + 1) else F : fI) := ⟨_, rfl⟩
    rw [← hY]
    have Yr : Y (m + 1) = F (m + 1) := by
      rw [hY]
      split
      · exact ua_row (by omega)
      · rfl
    have g := hi_ga (t := t) (x := c) (J := Y) (by omega) (by rw [Yr]; exact F3) (by omega)
    have hc : hc_ (sp_ga Y m t c) m n ≤ hc_ J m n := cn_sub (fun x hx q => by
      have q := of_decide_eq_true q
      rw [ga_s (by omega) (by omega)] at q
      by_cases z : x = t
      · rw [if_pos z] at q
        exact absurd q (by decide)
      · rw [if_neg z, show ra_T Y m x 6 = ra_T F m x 6 by unfold ra_T; rw [Yr], F6] at q
        exact decide_eq_true q)
    have hYF : hi_ m F Y := fun j q => by rw [Yr]
    exact hi_tr hF1 (hi_tr hYF (hi_tr g.1 (hi_tr (hi_dr hn 401 g.2 (by omega)) (fun j q => cl_o (by omega)))))
  · show hi_ m J (sp_f2 F m t)
    unfold sp_f2
    exact hi_tr hF1 (hi_tr (hi_u (by omega)) (hi_u (by omega)))
theorem hi_fp (h : ip_ J m n T W P L) (ht : t < n) (h6 : ra_T J m t 6 = 3) : hi_ m J (sp_fl J m n t 0) := by
  have hn := ip_4 h
  have h3 := ivS_n h.2.2.1.2.1 (ix_4 h.2)
  rw [off_r] at h3
  obtain ⟨w, k, hw, h9, -⟩ := ix_out h.2 ht (offT.trans h6)
  rw [offT] at h9
  refine hi_fl hn ht h3 ?_ (by rw [h6]; decide) ⟨w, hw, h9⟩
  have e : cn_ (fun t => decide (ra_T (off_ J m) m t 6 = 5)) n = cn_ (fun x => decide (ra_T J m x 6 = 5)) n := cn_eq (fun x _ => by rw [offT])
  rw [e]
  have s1 := cn_split (p := fun _ => true) (q := fun x => decide (ra_T J m x 6 = 5)) n
  have s2 := cn_split (p := fun x => !decide (ra_T J m x 6 = 5)) (q := fun x => decide (ra_T J m x 6 = 1)) n
  have all : cn_ (fun _ => true) n = n := cn_all (fun _ _ => rfl)
  have e5 : cn_ (fun x => true && decide (ra_T J m x 6 = 5)) n = cn_ (fun x => decide (ra_T J m x 6 = 5)) n := rfl
  have e6 : cn_ (fun x => true && !decide (ra_T J m x 6 = 5)) n = cn_ (fun x => !decide (ra_T J m x 6 = 5)) n := rfl
  have e1 : cn_ (fun x => !decide (ra_T J m x 6 = 5) && decide (ra_T J m x 6 = 1)) n = hc_ J m n := cn_eq (fun x _ => by
    by_cases z : ra_T J m x 6 = 1
    · rw [z]; rfl
    · rw [decide_eq_false z, Bool.and_false])
  have p1 : 0 < cn_ (fun x => !decide (ra_T J m x 6 = 5) && !decide (ra_T J m x 6 = 1)) n := cn_pos (t := t) (by rw [h6]; rfl) ht
  rw [all, e5, e6] at s1
  rw [e1] at s2
  omega
end Lap6
