/-! what the functions of the ints neither read nor write may be anything -/
section Nat1
variable {I E : Nat → Nat → Int32} {m n : Nat} {S : Nat → Nat → Bool}
def U_ (m a j : Nat) : Prop := (a = m + 1 ∧ (j < 84 ∨ 200 ≤ j)) ∨ a = m ∨ (m + 2 ≤ a ∧ a ≤ m + 12)
def us_ (S : Nat → Nat → Bool) (m : Nat) : Prop := ∀ a j, U_ m a j → S a j = false
def pt_ (S : Nat → Nat → Bool) (E I : Nat → Nat → Int32) : Nat → Nat → Int32 := fun a j => if S a j = true then E a j else I a j
theorem pt_r (hS : us_ S m) {a j : Nat} (h : U_ m a j) : pt_ S E I a j = I a j := if_neg (by rw [hS a j h]; decide)
theorem pt_u (hS : us_ S m) {a j : Nat} {x : Int32} (h : U_ m a j) : i2_u (pt_ S E I) a j x = pt_ S E (i2_u I a j x) := by
  funext b k
  unfold pt_
  rw [i2_at, i2_at]
  by_cases q : b = a ∧ k = j
  · rw [if_pos q, if_pos q, q.1, q.2, if_neg (by rw [hS a j h]; decide)]
  · rw [if_neg q, if_neg q]
theorem u1 {j : Nat} (h : j < 84 ∨ 200 ≤ j) : U_ m (m + 1) j := Or.inl ⟨rfl, h⟩
theorem u0 {j : Nat} : U_ m m j := Or.inr (Or.inl rfl)
theorem uc {c j : Nat} (h : 2 ≤ c ∧ c ≤ 12) : U_ m (m + c) j := Or.inr (Or.inr (by omega))
theorem nt_T (hS : us_ S m) {t f : Nat} : ra_T (pt_ S E I) m t f = ra_T I m t f := pt_r hS (u1 (by omega))
theorem nt_L (hS : us_ S m) {l f : Nat} (h : l < 5 ∧ f < 10) : ra_L (pt_ S E I) m l f = ra_L I m l f := pt_r hS (u1 (by omega))
theorem nt_many (hS : us_ S m) {x y : Int32} : ra_many (pt_ S E I) m x y = ra_many I m x y := by
  funext t
  unfold ra_many
  rw [nt_T hS, nt_T hS]
theorem nt_st (hS : us_ S m) {x : Int32} : ra_st (pt_ S E I) m x = ra_st I m x := by
  funext t
  unfold ra_st
  rw [nt_T hS, nt_T hS]
theorem nt_wt' (hS : us_ S m) {x : Int32} : ra_wt (pt_ S E I) m x = ra_wt I m x := by
  funext t
  unfold ra_wt
  rw [nt_T hS, nt_T hS]
theorem nt_kst (hS : us_ S m) {x : Int32} : ra_kst (pt_ S E I) m x = ra_kst I m x := by
  funext t
  unfold ra_kst
  rw [nt_T hS, nt_T hS]
theorem nt_live (hS : us_ S m) {x : Int32} : ra_live (pt_ S E I) m n x = ra_live I m n x := by
  unfold ra_live
  rw [nt_wt' hS]
theorem nt_rank (hS : us_ S m) {t : Nat} : ra_rank (pt_ S E I) m t = ra_rank I m t := by
  unfold ra_rank
  rw [pt_r hS (u1 (by omega)), pt_r hS (u1 (by omega)), pt_r hS (u1 (by omega))]
theorem nt_ah (hS : us_ S m) : ra_ah (pt_ S E I) m = ra_ah I m := by
  funext a b
  unfold ra_ah
  rw [nt_rank hS, nt_rank hS]
theorem nt_first (hS : us_ S m) {x : Int32} : ra_first (pt_ S E I) m n x = ra_first I m n x := by
  unfold ra_first
  rw [nt_wt' hS, nt_ah hS]
theorem nt_lane (hS : us_ S m) {x : Int32} : ra_lane (pt_ S E I) m n x = ra_lane I m n x := by
  unfold ra_lane
  refine bs_eq (fun l hl => ?_) (fun a b h1 h2 => ?_)
  · unfold ra_may
    rw [nt_live hS, nt_many hS, nt_L hS ⟨hl, by decide⟩]
  · unfold ra_ps
    rw [nt_L hS ⟨by omega, by decide⟩, nt_L hS ⟨by omega, by decide⟩]
theorem nt_up (hS : us_ S m) {l : Nat} (hl : l < 5) : ra_up (pt_ S E I) m n l = ra_up I m n l := by
  unfold ra_up
  rw [nt_lane hS, nt_L hS ⟨hl, by decide⟩]
  cases hq : ra_lane I m n 0 with
  | none => rfl
  | some q => simp only [nt_L hS ⟨ra_lane_5 hq, show 4 < 10 by decide⟩]
theorem nt_wt (hS : us_ S m) {t : Nat} (ht : ∃ l, l < 5 ∧ ra_T I m t 0 = nI l) : sp_wt (pt_ S E I) m n t = pt_ S E (sp_wt I m n t) := by
  obtain ⟨l, hl, e⟩ := ht
  unfold sp_wt
  rw [nt_T hS, e, nI_clamp (by omega)]
  unfold ra_wait
  rw [nt_live hS, nt_up hS hl]
  split
  · exact pt_u hS (u1 (by omega))
  · rw [pt_u hS (u1 (by omega)), pt_u hS (u1 (by omega))]
theorem nt_log (hS : us_ S m) {t : Nat} {x1 x3 x4 : Int32} : sp_log (pt_ S E I) m x1 t x3 x4 = pt_ S E (sp_log I m x1 t x3 x4) := by
  unfold sp_log
  rw [pt_r hS u0, pt_r hS u0]
  split
  · unfold ra_wr
    rw [nt_T hS, pt_r hS (u1 (by omega)), pt_u hS (uc (by omega)), pt_u hS (uc (by omega)), pt_u hS (uc (by omega)), pt_u hS (uc (by omega)), pt_u hS (uc (by omega)), pt_u hS (uc (by omega)), pt_u hS u0]
  · rfl
theorem nt_bl (hS : us_ S m) {t : Nat} {x : Int32} : sp_bl (pt_ S E I) m t x = pt_ S E (sp_bl I m t x) := by
  unfold sp_bl
  rw [pt_r hS u0, pt_r hS (uc (by omega))]
  split
  · unfold ra_blame
    split
    · exact pt_u hS (u1 (by omega))
    · rw [pt_u hS (u1 (by omega)), pt_u hS (uc (by omega)), pt_u hS (uc (by omega))]
  · exact pt_u hS (u1 (by omega))
theorem nt_ga (hS : us_ S m) {t : Nat} {x : Int32} : sp_ga (pt_ S E I) m t x = pt_ S E (sp_ga I m t x) := by
  unfold sp_ga
  rw [pt_r hS (u1 (by omega)), pt_r hS u0, pt_u hS (u1 (by omega)), pt_u hS (u1 (by omega)), pt_u hS (u1 (by omega)), pt_u hS u0, nt_log hS]
theorem nt_lw (hS : us_ S m) {t w : Nat} (hw : w < 6) : sp_lw (pt_ S E I) m t w = pt_ S E (sp_lw I m t w) := by
  unfold sp_lw
  rw [pt_u hS (u1 (by omega)), pt_u hS (u1 (by omega)), pt_u hS (u1 (by omega)), pt_u hS (u1 (by omega))]
theorem nt_fr1 (hS : us_ S m) {t : Nat} (ht : ∃ l, l < 5 ∧ ra_T I m t 0 = nI l) : sp_fr1 (pt_ S E I) m n t = pt_ S E (sp_fr1 I m n t) := by
  unfold sp_fr1
  rw [nt_wt hS ht, nt_log hS]
theorem nt_frs (hS : us_ S m) {pb : Int32} : ∀ {ts : List Nat} {I : Nat → Nat → Int32}, rb_ I m n pb → (∀ t, t ∈ ts → t < n) → sp_frs (pt_ S E I) m n ts = pt_ S E (sp_frs I m n ts)
  | [], _, _, _ => rfl
  | t :: ts, I, hb, hm => by
    have ht := hm t List.mem_cons_self
    show sp_frs (sp_fr1 (pt_ S E I) m n t) m n ts = pt_ S E (sp_frs (sp_fr1 I m n t) m n ts)
    rw [nt_fr1 hS (hb.2.2.1 t ht), nt_frs hS (rb_fr1 hb ht) (fun t q => hm t (List.mem_cons_of_mem _ q))]
theorem nt_hs (hS : us_ S m) {x : Int32} : sp_hs (pt_ S E I) m n x = sp_hs I m n x := by
  unfold sp_hs
  congr 1
  funext t
  unfold sp_hp
  rw [nt_T hS, nt_T hS]
theorem nt_frees (hS : us_ S m) {pb : Int32} {t : Nat} (hb : rb_ I m n pb) : sp_frees (pt_ S E I) m n t = pt_ S E (sp_frees I m n t) := by
  unfold sp_frees
  rw [pt_u hS (u1 (by omega)), nt_hs hS, nt_frs hS (rb_T6 hb) (fun t q => (hs_lt q).1)]
theorem nt_cls (hS : us_ S m) : ∀ k, k ≤ 5 → ra_cls (pt_ S E I) m n k = pt_ S E (ra_cls I m n k)
  | 0, _ => rfl
  | l + 1, h => by
    show (if _ then i2_u _ _ _ _ else _ : Nat → Nat → Int32) = pt_ S E (if _ then i2_u _ _ _ _ else _ : Nat → Nat → Int32)
    rw [nt_cls hS l (by omega), nt_st hS, pt_r hS (u1 (by omega))]
    split
    · exact pt_u hS (u1 (by omega))
    · rfl
theorem nt_done (hS : us_ S m) {pb : Int32} {t w : Nat} (hb : rb_ I m n pb) (hw : w < 6) : sp_done (pt_ S E I) m n t w = pt_ S E (sp_done I m n t w) := by
  unfold sp_done
  rw [nt_log hS, pt_r hS (u1 (by omega)), pt_r hS (u1 (by omega)), pt_u hS (u1 (by omega)), nt_lw hS hw, pt_u hS (u1 (by omega)), nt_frees hS (pb := pb), nt_cls hS 5 (by omega)]
  refine rb_o (rb_log hb (x1 := 2) (t := t) (x3 := nI w) (x4 := 0)) ?_ (fun t' _ => ?_) (fun l hl => ?_)
  · rw [i2_uj (by omega), sp_lw_o (by omega), i2_uj (by omega)]
  · unfold ra_T
    rw [i2_uj (by omega), sp_lw_o (by omega), i2_uj (by omega)]
  · unfold ra_L
    rw [i2_uj (by omega), sp_lw_o (by omega), i2_uj (by omega)]
theorem nt_p (hS : us_ S m) {lv : List Nat} : sp_p (pt_ S E I) m lv = sp_p I m lv := by
  funext t
  unfold sp_p
  rw [nt_T hS]
  congr 1
  congr 1
  funext b
  rw [nt_T hS]
theorem nt_as1 (hS : us_ S m) {t : Nat} {c : Int32} : sp_as1 (pt_ S E I) m t c = pt_ S E (sp_as1 I m t c) := by
  unfold sp_as1
  rw [nt_bl hS, nt_ga hS]
theorem nt_asd (hS : us_ S m) {c : Int32} : ∀ {ts : List Nat} {I : Nat → Nat → Int32}, sp_asd (pt_ S E I) m ts c = pt_ S E (sp_asd I m ts c)
  | [], _ => rfl
  | t :: ts, I => by
    show sp_asd (sp_as1 (pt_ S E I) m t c) m ts c = pt_ S E (sp_asd (sp_as1 I m t c) m ts c)
    rw [nt_as1 hS, nt_asd hS]
theorem nt_dr (hS : us_ S m) : ∀ (k : Nat) {I : Nat → Nat → Int32} {lv : List Nat} {c : Int32}, sp_dr k (pt_ S E I) m n lv c = (pt_ S E (sp_dr k I m n lv c).1, (sp_dr k I m n lv c).2)
  | 0, _, _, _ => rfl
  | k + 1, I, lv, c => by
    show ((sp_dr k (sp_asd (pt_ S E I) m ((List.range n).filter (sp_p (pt_ S E I) m lv)) c) m n ((List.range n).filter (sp_p (pt_ S E I) m lv)) 100).1, ((List.range n).filter (sp_p (pt_ S E I) m lv)).length + (sp_dr k (sp_asd (pt_ S E I) m ((List.range n).filter (sp_p (pt_ S E I) m lv)) c) m n ((List.range n).filter (sp_p (pt_ S E I) m lv)) 100).2) = _
    rw [nt_p hS, nt_asd hS, nt_dr hS k]
    rfl
theorem nt_f8 (hS : us_ S m) {t w : Nat} {c : Int32} (hw : w < 6) : sp_f8 (pt_ S E I) m t w c = pt_ S E (sp_f8 I m t w c) := by
  unfold sp_f8
  rw [pt_r hS (u1 (by omega)), pt_r hS (u1 (by omega)), pt_r hS u0, pt_u hS (u1 (by omega)), pt_u hS (u1 (by omega)), pt_u hS u0, nt_lw hS hw, nt_log hS, nt_bl hS]
theorem nt_f2 (hS : us_ S m) {t : Nat} : sp_f2 (pt_ S E I) m t = pt_ S E (sp_f2 I m t) := by
  unfold sp_f2
  rw [pt_r hS (u1 (by omega)), pt_r hS (u1 (by omega)), pt_r hS (u1 (by omega)), pt_u hS (u1 (by omega)), pt_u hS (u1 (by omega))]
theorem nt_f5 (hS : us_ S m) {t k : Nat} {c : Int32} : sp_f5 (pt_ S E I) m n t k c = pt_ S E (sp_f5 I m n t k c) := by
  unfold sp_f5 sp_drags
  rw [pt_r hS u0, pt_r hS (uc (by omega))]
  split
  · rw [pt_u hS (uc (by omega)), nt_ga hS, nt_dr hS, nt_cls hS 5 (by omega)]
  · rw [nt_ga hS, nt_dr hS, nt_cls hS 5 (by omega)]
theorem nt_fail (hS : us_ S m) {t w k : Nat} {c : Int32} (hw : w < 6) : sp_fail (pt_ S E I) m n t w k c = ((sp_fail I m n t w k c).1, pt_ S E (sp_fail I m n t w k c).2) := by
  unfold sp_fail
  rw [pt_r hS (u1 (by omega)), pt_r hS (u1 (by omega)), nt_f8 hS hw, nt_f5 hS, nt_f2 hS]
  split <;> rfl
theorem nt_why4 (hS : us_ S m) {l k : Nat} (hl : l < 5) : sp_why4 (pt_ S E I) m n l k = sp_why4 I m n l k := by
  unfold sp_why4
  rw [nt_L hS ⟨hl, by decide⟩, nt_st hS, nt_st hS, nt_kst hS, pt_r hS (u1 (by omega)), pt_r hS (uc (by omega)), pt_r hS (u1 (by omega))]
theorem nt_why (hS : us_ S m) {x1 x2 x3 x4 x5 : Int32} : sp_why (pt_ S E I) m n x1 x2 x3 x4 x5 = sp_why I m n x1 x2 x3 x4 x5 := by
  unfold sp_why
  by_cases c : (0 ≤ x1 ∧ x1 ≤ 4) ∧ (0 ≤ x2 ∧ x2 ≤ 9) ∧ (1 ≤ x3 ∧ x3 ≤ 20) ∧ (0 ≤ x4 ∧ x4 ≤ 9999)
  · obtain ⟨l, hl, e⟩ := i32_in (N := 4) (by decide) c.1
    have cl : x1.toNatClampNeg = l := by rw [e]; exact nI_clamp (by omega)
    rw [cl, nt_T hS, nt_L hS ⟨by omega, by decide⟩, nt_why4 hS (by omega)]
  · rw [if_pos c, if_pos c]
theorem nt_neg (hS : us_ S m) {t : Nat} : ∀ k, sp_neg (pt_ S E I) m t k = pt_ S E (sp_neg I m t k)
  | 0 => rfl
  | k + 1 => by
    show i2_u (sp_neg (pt_ S E I) m t k) _ _ _ = pt_ S E (i2_u (sp_neg I m t k) _ _ _)
    rw [nt_neg hS k, pt_u hS (u1 (by omega))]
theorem nt_new (hS : us_ S m) {x1 x2 x3 x4 x5 : Int32} : sp_new (pt_ S E I) m n x1 x2 x3 x4 x5 = pt_ S E (sp_new I m n x1 x2 x3 x4 x5) := by
  unfold sp_new sp_nw
  rw [pt_r hS (u1 (by omega)), pt_u hS (u1 (by omega)), pt_u hS (u1 (by omega)), pt_u hS (u1 (by omega)), pt_u hS (u1 (by omega)), pt_u hS (u1 (by omega)), pt_u hS (u1 (by omega)), pt_u hS (u1 (by omega)), pt_u hS (u1 (by omega)), nt_neg hS, pt_u hS (u1 (by omega))]
theorem nt_com (hS : us_ S m) {x1 x2 x3 x4 x5 : Int32} {l : Nat} (hl : l < 5) (e1 : x1 = nI l) : sp_com (pt_ S E I) m n x1 x2 x3 x4 x5 = pt_ S E (sp_com I m n x1 x2 x3 x4 x5) := by
  have hh : ra_held (sp_new (pt_ S E I) m n x1 x2 x3 x4 x5) m n = ra_held (sp_new I m n x1 x2 x3 x4 x5) m n := by
    rw [nt_new hS]
    unfold ra_held
    rw [nt_T hS, nt_T hS]
  unfold sp_com
  rw [hh, nt_new hS]
  split
  · exact nt_log hS
  · rw [nt_wt hS ⟨l, hl, sp_new_n.1.trans e1⟩, nt_log hS]
theorem nt_comes (hS : us_ S m) (hn : n ≤ 400) {x1 x2 x3 x4 x5 : Int32} : sp_comes (pt_ S E I) m n x1 x2 x3 x4 x5 = ((sp_comes I m n x1 x2 x3 x4 x5).1, pt_ S E (sp_comes I m n x1 x2 x3 x4 x5).2) := by
  unfold sp_comes
  rw [nt_why hS]
  by_cases z : sp_why I m n x1 x2 x3 x4 x5 = 0
  · obtain ⟨l, p, s, k, hl, e1, -⟩ := why_0 hn z
    rw [if_pos z, if_pos z, nt_com hS hl e1]
  · rw [if_neg z, if_neg z]
theorem nt_pass (hS : us_ S m) {t l : Nat} (hl : l < 5) : sp_pass (pt_ S E I) m t l = pt_ S E (sp_pass I m t l) := by
  unfold sp_pass
  rw [pt_r hS (u1 (by omega)), pt_r hS (u1 (by omega)), pt_r hS (u1 (by omega)), pt_u hS (u1 (by omega))]
theorem nt_tk (hS : us_ S m) {t w l : Nat} (hl : l < 5) (hw : w < 6) : sp_tk (pt_ S E I) m t w l = pt_ S E (sp_tk I m t w l) := by
  have e7 : sp_tk7 (pt_ S E I) m t w = pt_ S E (sp_tk7 I m t w) := by
    unfold sp_tk7
    rw [pt_r hS (u1 (by omega)), pt_r hS (u1 (by omega)), pt_r hS (u1 (by omega)), pt_u hS (u1 (by omega)), pt_u hS (u1 (by omega)), pt_u hS (u1 (by omega)), pt_u hS (u1 (by omega)), pt_u hS (u1 (by omega))]
  have e10 : sp_tk10 (pt_ S E I) m t w = pt_ S E (sp_tk10 I m t w) := by
    unfold sp_tk10
    rw [e7, pt_r hS (u1 (by omega)), pt_u hS (u1 (by omega)), pt_u hS (u1 (by omega))]
  have e14 : sp_tk14 (pt_ S E I) m t w l = pt_ S E (sp_tk14 I m t w l) := by
    unfold sp_tk14
    rw [e10, nt_pass hS hl, pt_r hS (u1 (by omega)), pt_r hS (u1 (by omega)), pt_r hS (u1 (by omega)), pt_r hS (u1 (by omega)), pt_r hS (u1 (by omega)), pt_r hS (u1 (by omega)), pt_u hS (u1 (by omega)), pt_u hS (u1 (by omega)), pt_u hS (u1 (by omega))]
  unfold sp_tk sp_tk17
  rw [e14, pt_r hS (u1 (by omega)), pt_r hS (u1 (by omega)), pt_r hS (u1 (by omega))]
  split
  · exact nt_log hS
  · rw [pt_u hS (u1 (by omega)), pt_u hS (u1 (by omega)), nt_log hS]
theorem nt_tkby (hS : us_ S m) {w : Nat} (hw : w < 6) : sp_tkby (pt_ S E I) m n w = ((sp_tkby I m n w).1, pt_ S E (sp_tkby I m n w).2) := by
  unfold sp_tkby
  rw [nt_lane hS]
  cases hl : ra_lane I m n 1 with
  | none => rfl
  | some l =>
    simp only [nt_first hS]
    cases ht : ra_first I m n (nI l) with
    | none => rfl
    | some t => simp only [nt_tk hS (ra_lane_5 hl) hw]
theorem nt_nr (hS : us_ S m) : sp_nr (pt_ S E I) m n = sp_nr I m n := by
  unfold sp_nr
  exact bs_eq (fun t _ => by rw [nt_T hS]) (fun a b _ _ => by rw [nt_T hS, nt_T hS])
theorem nt_wk1 (hS : us_ S m) {t : Nat} (ht : ∃ l, l < 5 ∧ ra_T I m t 0 = nI l) : sp_wk1 (pt_ S E I) m n t = pt_ S E (sp_wk1 I m n t) := by
  unfold sp_wk1
  rw [pt_r hS u0, pt_u hS (u1 (by omega)), nt_wt hS, pt_u hS u0, nt_log hS]
  obtain ⟨l, hl, e⟩ := ht
  exact ⟨l, hl, (i2_uj (by omega)).trans e⟩
theorem nt_wk (hS : us_ S m) {pb : Int32} : ∀ (k : Nat) {I : Nat → Nat → Int32}, rb_ I m n pb → sp_wk k (pt_ S E I) m n = pt_ S E (sp_wk k I m n)
  | 0, _, _ => rfl
  | k + 1, I, hb => by
    unfold sp_wk
    rw [nt_nr hS]
    cases hq : sp_nr I m n with
    | none => rfl
    | some t =>
      have ht := (nr_of hq).1
      simp only [nt_T hS, pt_r (E := E) (I := I) hS (u1 (show 0 < 84 ∨ 200 ≤ 0 by omega))]
      split
      · rfl
      · rw [nt_wk1 hS (hb.2.2.1 t ht), nt_wk hS k (rb_wk1 hb ht)]
end Nat1
