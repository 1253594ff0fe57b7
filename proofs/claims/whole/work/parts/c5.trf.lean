/-! a task goes to another lane, on a board -/
section Trf
variable {M : mm_T} {I J : Nat → Nat → Int32} {m n b : Nat} {ta : Nat → Nat}
def bp0 (lv : Nat → Bool) (ps : Nat → Int32) (k : Nat) : Option Nat := bs_ lv (fun a c => decide (ps a < ps c)) k
def up0 (lv : Nat → Bool) (ps : Nat → Int32) (l : Nat) : Int32 := match bp0 lv ps 5 with
  | none => ps l
  | some q => if ps l ≤ ps q then ps q else ps l
theorem cc_theLane0 (hS : bS M b) {lv : Nat → Bool} {ps : Nat → Int32} (hlv : ∀ l, l < 5 → (mm_i M (b + 6 + l) 6 ≤ 0 ↔ lv l = false)) (hps : ∀ l, l < 5 → mm_i M (b + 6 + l) 5 = ps l) {P : Nat → mm_T → Prop} (K : P (oa_ (fun l => b + 6 + l) (bp0 lv ps 5)) M) : cs_r mt_X0_theLane [pv_r b, pv_i 0] M P := by
  obtain ⟨h1, h2, h3, h4', h5', h6', h7', h8', h9', h10', h11', h12⟩ := hS
  refine wc_X0_theLane_0 h1 ⟨5, by rw [h2]; exact h3, ?_⟩
  rw [h2]
  have loop : ∀ k l, l + k = 5 → cw_r mt_X0_theLane 14 [some (pv_r b), some (pv_i 0), some (pv_r (oa_ (fun l => b + 6 + l) (bp0 lv ps l))), some (pv_r (b + 1)), some (pv_i (nI 5)), some (pv_i (nI l)), none, none] [] M P := by
    intro k
    induction k with
    | zero =>
      intro l hl
      have hl : l = 5 := by omega
      subst hl
      exact wc_X0_theLane_14 h1 ⟨fun _ => K, fun c => absurd (Int32.le_refl _) c⟩
    | succ k ih =>
      intro l hl
      have hl5 : l < 5 := by omega
      have ih := ih (l + 1) (by omega)
      obtain ⟨g1, g2, g3⟩ := h12 l hl5
      refine wc_X0_theLane_14 h1 ⟨fun c => absurd c (nI_5 hl5), fun _ => ⟨5, h3, l, ⟨rfl, hl5⟩, ?_⟩⟩
      rw [g2]
      refine ⟨g1, fun c => ?_, fun c => ⟨fun _ => ?_, fun c2 => absurd rfl c2⟩⟩
      · rw [show bp0 lv ps (l + 1) = bp0 lv ps l from bs_f ((hlv l hl5).mp c)] at ih
        exact ih
      · have ht : lv l = true := by
          cases hz : lv l with
          | true => rfl
          | false => exact absurd ((hlv l hl5).mpr hz) c
        cases hb : bp0 lv ps l with
        | none =>
          rw [show bp0 lv ps (l + 1) = some l from bs_n ht hb] at ih
          exact ⟨fun _ => ih, fun c => absurd rfl c⟩
        | some q =>
          have hq := (bs_lt hb).1
          rw [show bp0 lv ps (l + 1) = _ from bs_s ht hb] at ih
          refine ⟨fun c => absurd c (by show ¬ b + 6 + q = 0; omega), fun _ => ⟨(h12 q (by omega)).1, fun c => ?_, fun c => ?_⟩⟩
          · have c : mm_i M (b + 6 + q) 5 ≤ mm_i M (b + 6 + l) 5 := c
            rw [hps q (by omega), hps l hl5] at c
            rw [if_neg (fun w => absurd (of_decide_eq_true w) (Int32.not_lt.mpr c))] at ih
            exact ih
          · have c : ¬ mm_i M (b + 6 + q) 5 ≤ mm_i M (b + 6 + l) 5 := c
            rw [hps q (by omega), hps l hl5] at c
            rw [if_pos (decide_eq_true (Int32.not_le.mp c))] at ih
            exact ih
  exact loop 5 0 (by omega)
theorem cc_lift0 (hS : bS M b) {lv : Nat → Bool} {ps : Nat → Int32} (hlv : ∀ l, l < 5 → (mm_i M (b + 6 + l) 6 ≤ 0 ↔ lv l = false)) (hps : ∀ l, l < 5 → mm_i M (b + 6 + l) 5 = ps l) {l : Nat} (hl : l < 5) (hl0 : mm_i M (b + 6 + l) 6 = 0 ↔ lv l = false) {P : mm_T → Prop} (K : ∀ M', fx_ (fun p j => p = b + 6 + l ∧ j = 5) (fun _ _ => False) M M' → mm_i M' (b + 6 + l) 5 = (if lv l = true then ps l else up0 lv ps l) → P M') : cs_v mt_X0_liftPass [pv_r b, pv_r (b + 6 + l)] M P := by
  have h12 := hS.2.2.2.2.2.2.2.2.2.2.2
  refine wc_X0_liftPass_0 hS.1 (cc_theLane0 hS hlv hps ⟨(h12 l hl).1, fun c => ?_, fun c => ?_⟩)
  · have hv : lv l = true := by
      cases hz : lv l with
      | true => rfl
      | false => exact absurd (hl0.mpr hz) c
    exact K M fx_rf (by rw [if_pos hv]; exact hps l hl)
  · have hv : lv l = false := hl0.mp c
    cases hq : bp0 lv ps 5 with
    | none =>
      refine ⟨fun _ => K M fx_rf ?_, fun c2 => absurd rfl c2⟩
      rw [if_neg (by rw [hv]; decide), hps l hl]
      unfold up0
      rw [hq]
    | some q =>
      have hq5 := (bs_lt hq).1
      refine ⟨fun c2 => absurd c2 (by show ¬ b + 6 + q = 0; omega), fun _ => ⟨(h12 q hq5).1, fun M6 h6 => K M6 (by rw [h6]; exact fx_pi ⟨rfl, rfl⟩) ?_⟩⟩
      have h6 : M6 = mm_pi M (b + 6 + l) 5 (if mm_i M (b + 6 + l) 5 < mm_i M (b + 6 + q) 5 then mm_i M (b + 6 + q) 5 else mm_i M (b + 6 + l) 5) := h6
      rw [if_neg (by rw [hv]; decide), h6, mi_pis, hps l hl, hps q hq5]
      unfold up0
      rw [hq]
      simp only
      by_cases z : ps l < ps q
      · rw [if_pos z, if_pos (Int32.le_of_lt z)]
      · rw [if_neg z]
        by_cases z2 : ps l ≤ ps q
        · rw [if_pos z2]
          exact Int32.le_antisymm z2 (Int32.not_lt.mp z)
        · rw [if_neg z2]
theorem up0_eq {l : Nat} : up0 (fun l => ra_live I m n (nI l)) (fun l => ra_L I m l 4) l = ra_up I m n l := by
  have e : bp0 (fun l => ra_live I m n (nI l)) (fun l => ra_L I m l 4) 5 = ra_lane I m n 0 := bs_eq (fun l _ => by unfold ra_may; simp) (fun _ _ _ _ => rfl)
  unfold up0 ra_up
  rw [e]
  rfl
theorem nI_dn {a a' : Nat} {P : Prop} [Decidable P] (h : a' + (if P then 1 else 0) = a) {x : Int32} (hx : x = nI a) : (if P then x + -1 else x) = nI a' := by
  subst hx
  by_cases p : P
  · rw [if_pos p] at h ⊢
    subst h
    rw [pk_m1]
  · rw [if_neg p] at h ⊢
    rw [show a = a' by omega]
theorem nI_u1 {a a' : Nat} {P : Prop} [Decidable P] (h : a' = a + (if P then 1 else 0)) {x : Int32} (hx : x = nI a) : (if P then x + 1 else x) = nI a' := by
  subst hx
  by_cases p : P
  · rw [if_pos p] at h ⊢
    rw [nI_1, h]
  · rw [if_neg p] at h ⊢
    rw [h, Nat.add_zero]
/-- it stands in no lane, for the moment -/
def sp_mu (I : fI) (m t l : Nat) : fI := i2_u (i2_u I (m + 1) (200 + 14 * t + 6) 1) (m + 1) (200 + 14 * t + 0) (nI l)
def sp_mv (I : fI) (m n t l : Nat) : fI := if ra_T I m t 6 = 0 then sp_wt (sp_mu I m t l) m n t else i2_u I (m + 1) (200 + 14 * t + 0) (nI l)
theorem mu_T {t l x f : Nat} (hf : f < 14) : ra_T (sp_mu I m t l) m x f = if x = t ∧ f = 0 then nI l else if x = t ∧ f = 6 then 1 else ra_T I m x f := by
  unfold sp_mu ra_T
  rw [i2_at]
  by_cases z : x = t ∧ f = 0
  · rw [if_pos ⟨rfl, by omega⟩, if_pos z]
  · rw [if_neg (by omega), if_neg z, i2_at]
    by_cases z2 : x = t ∧ f = 6
    · rw [if_pos ⟨rfl, by omega⟩, if_pos z2]
    · rw [if_neg (by omega), if_neg z2]
theorem mu_o {t l a j : Nat} (h : a ≠ m + 1 ∨ (j ≠ 200 + 14 * t + 0 ∧ j ≠ 200 + 14 * t + 6)) : sp_mu I m t l a j = I a j := by
  unfold sp_mu
  rw [i2_at, if_neg (by omega), i2_at, if_neg (by omega)]
theorem mv_eq {t l : Nat} (hl : l < 5) : sp_mv I m n t l = if ra_T I m t 6 = 0 then i2_u (lft_ (sp_mu I m t l) m n l) (m + 1) (200 + 14 * t + 6) 0 else i2_u I (m + 1) (200 + 14 * t + 0) (nI l) := by
  unfold sp_mv
  split
  · unfold sp_wt
    rw [mu_T (by decide), if_pos ⟨rfl, rfl⟩, nI_clamp (by omega)]
    rfl
  · rfl
theorem mv_o {t l a j : Nat} (hl : l < 5) (h : a ≠ m + 1 ∨ (j ≠ 200 + 14 * t + 0 ∧ j ≠ 200 + 14 * t + 6 ∧ j ≠ 10 + 10 * l + 4)) : sp_mv I m n t l a j = I a j := by
  rw [mv_eq hl]
  split
  · rw [i2_at, if_neg (by omega), lft_o (by omega)]
    exact mu_o (by omega)
  · rw [i2_at, if_neg (by omega)]
theorem mv_T {t l x f : Nat} (hl : l < 5) (hf : f < 14) : ra_T (sp_mv I m n t l) m x f = if x = t ∧ f = 0 then nI l else ra_T I m x f := by
  rw [mv_eq hl]
  split
  · next c =>
    by_cases z : x = t ∧ f = 6
    · rw [if_neg (by omega), z.1, z.2, c]
      exact i2_us
    · show i2_u (lft_ (sp_mu I m t l) m n l) (m + 1) (200 + 14 * t + 6) 0 (m + 1) (200 + 14 * x + f) = _
      rw [i2_at, if_neg (by omega), lft_o (by omega)]
      show ra_T (sp_mu I m t l) m x f = _
      rw [mu_T hf]
      split
      · rfl
      · rfl
  · unfold ra_T
    rw [i2_at]
    by_cases z : x = t ∧ f = 0
    · rw [if_pos ⟨rfl, by omega⟩, if_pos z]
    · rw [if_neg (by omega), if_neg z]
theorem mv_4 {t l : Nat} (hl : l < 5) (ht : t < 400) : ra_L (sp_mv I m n t l) m l 4 = if ra_T I m t 6 = 0 then (if ra_live (sp_mu I m t l) m n (nI l) = true then ra_L (sp_mu I m t l) m l 4 else up0 (fun l' => ra_live (sp_mu I m t l) m n (nI l')) (fun l' => ra_L (sp_mu I m t l) m l' 4) l) else ra_L I m l 4 := by
  rw [mv_eq hl]
  split
  · rw [up0_eq]
    have e : ra_L (i2_u (lft_ (sp_mu I m t l) m n l) (m + 1) (200 + 14 * t + 6) 0) m l 4 = ra_L (lft_ (sp_mu I m t l) m n l) m l 4 := i2_uj (by omega)
    rw [e, lft_4]
    by_cases z : ra_live (sp_mu I m t l) m n (nI l) = true
    · rw [if_pos z, if_neg (fun y => by rw [z] at y; exact absurd y.2 (by decide))]
    · rw [if_neg z, if_pos ⟨rfl, by simpa using z⟩]
  · exact i2_uj (by omega)
def tfI (b o l p j : Nat) : Prop := p = b + 4 ∨ (p = b + 6 + o ∧ (j = 4 ∨ j = 6 ∨ j = 7 ∨ j = 8)) ∨ (p = b + 6 + l ∧ (j = 5 ∨ j = 6 ∨ j = 7 ∨ j = 8))
end Trf
