/-! THE CLASS: a new task comes -/
section New
variable {M M' : mm_T} {I J : Nat → Nat → Int32} {m n : Nat} {ta tm : Nat → Nat}
theorem log_eq6 {Z N : Nat → Nat → Int32} {t : Nat} {x1 x3 x4 : Int32} (h8 : Z m 8 = N m 8) (h6 : Z m 6 = N m 6) (h0 : Z (m + 1) 0 = N (m + 1) 0) (hT : ra_T Z m t 0 = ra_T N m t 0) (hl : ∀ j, Z (m + 6) j = N (m + 6) j) : sp_log Z m x1 t x3 x4 m 6 = sp_log N m x1 t x3 x4 m 6 ∧ ∀ j, sp_log Z m x1 t x3 x4 (m + 6) j = sp_log N m x1 t x3 x4 (m + 6) j := by
  unfold sp_log
  rw [h8, h6]
  by_cases q : N m 8 = 0
  · rw [if_pos q, if_pos q]
    unfold ra_wr
    rw [h0, hT]
    refine ⟨by rw [i2_us, i2_us], fun j => ?_⟩
    simp only [i2_at, hl]
  · rw [if_neg q, if_neg q]
    exact ⟨h6, hl⟩
def tax (ta : Nat → Nat) (n r : Nat) : Nat → Nat := fun t => if t = n then r else ta t
theorem tax_n {r : Nat} : tax ta n r n = r := if_pos rfl
theorem tax_o {r t : Nat} (h : t < n) : tax ta n r t = ta t := if_neg (by omega)
theorem rft_tax {r : Nat} {x : Int32} (h : x = -1 ∨ ∃ q, q < n ∧ x = nI q) (hn : n ≤ 400) : rft (tax ta n r) x = rft ta x := by
  rcases h with e | ⟨q, hq, e⟩
  · rw [e]; rfl
  · rw [e, rft_n (by omega), rft_n (by omega), tax_o hq]
/-- the memory with the new task's cell, as it stands when its state is to be set -/
def nw_ (M M5 : mm_T) (I : Nat → Nat → Int32) (m n : Nat) (ta : Nat → Nat) (l a3 : Nat) (x2 x3 x4 : Int32) : Prop :=
  kd_ M M5 ∧ mm_n M5 = mm_n M + 1 ∧ mm_t M5 (mm_n M + 1) = mm_t M (mm_n M) + 17 ∧ mm_k M5 (mm_n M) = (6, 17) ∧ (∀ a j, a ≠ mm_n M → a ≠ 97 → a ≠ 96 → (a ≠ 79 ∨ j ≠ 1) → mm_i M5 a j = mm_i M a j) ∧ (∀ a j, a ≠ mm_n M → a ≠ 80 → mm_r M5 a j = mm_r M a j) ∧
  (∀ j, mm_i M5 (mm_n M) j = if j = 6 then I (m + 1) 0 else if j = 5 then x4 else if j = 4 then x3 else if j = 3 then x2 else if j = 0 then nI n else if j = 16 then -1 else if j = 13 then -1 else if j = 7 then -1 else 0) ∧ (∀ j, mm_r M5 (mm_n M) j = if j = 1 then a3 else if j = 2 then 12 + l else 0) ∧ ro_ M5 79 80 400 ((List.range n).map ta ++ [mm_n M])
/-- the ints with the new task -/
def nz_ (Z I I1 : Nat → Nat → Int32) (m n : Nat) (x1 x2 x3 x4 x5 v : Int32) : Prop :=
  (∀ t f, t < n → f < 14 → ra_T Z m t f = ra_T I m t f) ∧ (ra_T Z m n 0 = x1 ∧ ra_T Z m n 1 = x2 ∧ ra_T Z m n 2 = x3 ∧ ra_T Z m n 3 = x4 ∧ ra_T Z m n 4 = x5 ∧ ra_T Z m n 5 = I (m + 1) 0 ∧ ra_T Z m n 6 = v ∧ ra_T Z m n 7 = 0 ∧ ∀ f, 8 ≤ f → f < 14 → ra_T Z m n f = -1) ∧ (∀ l f, l < 5 → f < 10 → ra_L Z m l f = ra_L I1 m l f) ∧ Z (m + 1) 1 = nI (n + 1) ∧ (∀ j, j ≠ 1 → (j < 10 ∨ (60 ≤ j ∧ j < 200) ∨ 5800 ≤ j) → Z (m + 1) j = I (m + 1) j) ∧ ∀ a j, a ≠ m + 1 → Z a j = I a j
theorem ce_new1 (h : re_ M I m n ta tm) (h8 : I m 8 = 0) (hbl : bl_ I m n) (hW : ∀ w, w < 6 → ra_W I m w 0 = -1 ∨ ∃ t, t < n ∧ ra_W I m w 0 = nI t) (hn : n < 400) (hst : cn_ (ra_st I m (-1)) n < 48) (hcb : I (m + 4) n = 0) {l a3 s : Nat} (hl : l < 5) (hop : ra_L I m l 3 = 0) {x2 x3 x4 x5 : Int32} (h3 : (x5 = -1 ∧ a3 = 0) ∨ ∃ q, q < n ∧ x5 = nI q ∧ a3 = ta q) {v : Int32} (hv : v = nI s) (hs : s = 0 ∨ s = 1) {M5 M6 : mm_T} {N I1 Z : Nat → Nat → Int32} (w5 : nw_ M M5 I m n ta l a3 x2 x3 x4) (hD5 : rD_ M5 (sp_log N m 0 n (-1) 0) m) (zN : nz_ N I I m n (nI l) x2 x3 x4 x5 1)
    (f6 : fx_ (fun p j => p = 6 + 6 + l ∧ j = 5) (fun _ _ => False) M5 M6) (hB6 : br_ M6 6 ta I1 m n) (hI1 : ∀ a j, (a ≠ m + 1 ∨ j ≠ 10 + 10 * l + 4) → I1 a j = I a j) (z : nz_ Z I I1 m n (nI l) x2 x3 x4 x5 v) {P : mm_T → Prop} (K : ∀ M' ta', re_ M' (sp_log Z m 0 n (-1) 0) m (n + 1) ta' tm → mm_i M' (mm_n M) 0 = nI n → P M') : cs_v mt_X0_change [pv_r 6, pv_r (mm_n M), pv_i v] M6 P := by
  obtain ⟨w1, w2, w3, w4, w6, w7, w8, w9, w10⟩ := w5
  obtain ⟨z1, z2, z3, z4, z5, z6⟩ := z
  obtain ⟨r, hr⟩ : ∃ r, r = mm_n M := ⟨_, rfl⟩
  rw [← hr] at w2 w3 w4 w6 w7 w8 w9 w10 K ⊢
  have hr112 : 112 ≤ r := by rw [hr]; exact h.2.2.2.2.2.1
  have hlt : ∀ t, t < n → ta t < r := fun t q => by rw [hr]; exact mm_k_lt (by rw [(re_ge h q).2]; decide)
  have hge : ∀ t, t < n → 112 ≤ ta t := fun t q => (re_ge h q).1
  have k6 : kd_ M M6 := fun a q => (f6.2.1 a).trans (w1 a q)
  have i6 : ∀ a j, a ≠ r → a ≠ 97 → a ≠ 96 → (a ≠ 79 ∨ j ≠ 1) → (a ≠ 12 + l ∨ j ≠ 5) → mm_i M6 a j = mm_i M a j := fun a j q1 q2 q3 q4 q5 => (f6.2.2.1 _ _ (by omega)).trans (w6 a j q1 q2 q3 q4)
  have r6 : ∀ a j, a ≠ r → a ≠ 80 → mm_r M6 a j = mm_r M a j := fun a j q1 q2 => (f6.2.2.2.1 _ _ (fun z => z)).trans (w7 a j q1 q2)
  have kr6 : mm_k M6 r = (6, 17) := (f6.2.1 r).trans w4
  have ir6 : ∀ j, mm_i M6 r j = mm_i M5 r j := fun j => f6.2.2.1 _ _ (by omega)
  have rr6 : ∀ j, mm_r M6 r j = mm_r M5 r j := fun j => f6.2.2.2.1 _ _ (fun z => z)
  have hsv : sd_ v = true := by rcases hs with e | e <;> rw [hv, e] <;> decide
  have T0 : ∀ t, t < n → ra_T I1 m t 0 = ra_T I m t 0 ∧ ra_T I1 m t 6 = ra_T I m t 6 := fun t _ => ⟨hI1 _ _ (by omega), hI1 _ _ (by omega)⟩
  -- the board, with one more
  have hB : bd0 M6 6 (n + 1) (fun t => if t = n then -1 else ra_T I m t 6) (fun t => if t = n then l else lmI I m t) (tax ta n r) := bd0_ext hB6.1 hn (fun t q => by simp only [if_neg (show ¬ t = n by omega)]; exact (T0 t q).2.symm) (fun t q => by simp only [if_neg (show ¬ t = n by omega)]; unfold lmI; rw [(T0 t q).1]) (fun t q => tax_o q) (by simp)
  have hT : tc_ M6 6 (fun t => if t = n then -1 else ra_T I m t 6) (fun t => if t = n then l else lmI I m t) (tax ta n r) n := by
    refine ⟨by rw [tax_n]; exact kr6, ?_, ?_, ?_, ?_⟩
    · rw [tax_n, ir6, w8]; simp
    · rw [tax_n, ir6, w8]; simp
    · rw [tax_n, rr6, w9]; simp
    · simp; exact hl
  have hlen : (sl_ (fun t => if t = n then -1 else ra_T I m t 6) (n + 1)).length < 48 := by
    have e : sl_ (fun t => if t = n then (-1 : Int32) else ra_T I m t 6) (n + 1) = sl_ (sgI I m) n := by
      unfold sl_
      rw [List.range_succ, List.filter_append, List.filter_cons, if_neg (by simp; decide)]
      simp only [List.filter_nil, List.append_nil]
      exact fl_eq (fun t q => by simp only [if_neg (show ¬ t = n by omega)]; rfl)
    rw [e, lkS h.1.2.1.2.1]
    exact hst
  have key := cc_change (M := M6) (b := 6) (n := n + 1) (sg := fun t => if t = n then -1 else ra_T I m t 6) (lm := fun t => if t = n then l else lmI I m t) (ta := tax ta n r) hB (t := n) (by omega) hT (fun t' q1 q2 q3 => by
    by_cases e : t' = n
    · exact e
    · rw [tax_n, tax_o (by omega)] at q3
      have := hlt t' (by omega)
      omega) (v := v) (fun _ _ => hlen) (P := P)
  rw [tax_n] at key
  refine key (fun M7 hB7 hT7 hO7 f7 => K M7 (tax ta n r) ?_ ?_)
  · have en : (if n = n then l else lmI I m n) = l := if_pos rfl
    rw [en] at f7
    have i7 : ∀ a j, a ≠ r → a ≠ 97 → a ≠ 96 → (a ≠ 79 ∨ j ≠ 1) → a ≠ 10 → (a ≠ 12 + l ∨ (j ≠ 4 ∧ j ≠ 5 ∧ j ≠ 6 ∧ j ≠ 7 ∧ j ≠ 8)) → (a ≠ 8 ∨ j ≠ 1) → mm_i M7 a j = mm_i M a j := fun a j q1 q2 q3 q4 q5 q6 q7 => (f7.2.2.1 _ _ (by unfold chI; omega)).trans (i6 a j q1 q2 q3 q4 (by omega))
    have r7 : ∀ a j, a ≠ r → a ≠ 80 → a ≠ 9 → mm_r M7 a j = mm_r M a j := fun a j q1 q2 q3 => (f7.2.2.2.1 _ _ (by omega)).trans (r6 a j q1 q2)
    have k7 : kd_ M M7 := fun a q => (f7.2.1 a).trans (k6 a q)
    have kr7 : mm_k M7 r = (6, 17) := (f7.2.1 r).trans kr6
    have ir7 : ∀ j, j ≠ 7 → mm_i M7 r j = mm_i M5 r j := fun j q => (f7.2.2.1 _ _ (by unfold chI; omega)).trans (ir6 j)
    have rr7 : ∀ j, mm_r M7 r j = mm_r M5 r j := fun j => (f7.2.2.2.1 _ _ (by omega)).trans (rr6 j)
    have i77 : mm_i M7 r 7 = v := by
      have := hT7.2.2.1
      rw [tax_n] at this
      rw [this]
      unfold su1
      exact if_pos rfl
    -- the ints
    have jo : ∀ a j, a ≠ m + 6 → (a ≠ m ∨ j ≠ 6) → sp_log Z m 0 n (-1) 0 a j = Z a j := fun a j q1 q2 => sp_log_o q1 q2
    have jT : ∀ t f, t < n → f < 14 → ra_T (sp_log Z m 0 n (-1) 0) m t f = ra_T I m t f := fun t f q1 q2 => (jo _ _ (by omega) (by omega)).trans (z1 t f q1 q2)
    have jn : ∀ f, ra_T (sp_log Z m 0 n (-1) 0) m n f = ra_T Z m n f := fun f => jo _ _ (by omega) (by omega)
    have jL : ∀ l' f, l' < 5 → f < 10 → ra_L (sp_log Z m 0 n (-1) 0) m l' f = ra_L I1 m l' f := fun l' f q1 q2 => (jo _ _ (by omega) (by omega)).trans (z3 l' f q1 q2)
    have jr : ∀ j, j ≠ 1 → (j < 10 ∨ (60 ≤ j ∧ j < 200) ∨ 5800 ≤ j) → sp_log Z m 0 n (-1) 0 (m + 1) j = I (m + 1) j := fun j q1 q2 => (jo _ _ (by omega) (by omega)).trans (z5 j q1 q2)
    have jc : ∀ a j, a ≠ m + 1 → a ≠ m + 6 → (a ≠ m ∨ j ≠ 6) → sp_log Z m 0 n (-1) 0 a j = I a j := fun a j q1 q2 q3 => (jo _ _ q2 q3).trans (z6 a j q1)
    obtain ⟨J, hJ⟩ : ∃ J, J = sp_log Z m 0 n (-1) 0 := ⟨_, rfl⟩
    rw [← hJ] at jT jn jL jr jc ⊢
    obtain ⟨n0, n1, n2, n3, n4, n5, n6, n7, n8⟩ := z2
    have tvI := h.1.2.1.2.1
    have lmn : lmI J m n = l := by unfold lmI; rw [jn, n0]; exact nI_clamp (by omega)
    have lmo : ∀ t, t < n → lmI J m t = lmI I m t := fun t q => by unfold lmI; rw [jT t 0 q (by decide)]
    have sgo : ∀ t, t < n + 1 → sgI J m t = su1 (fun t => if t = n then -1 else ra_T I m t 6) n v t := fun t q => by
      unfold sgI su1
      by_cases e : t = n
      · rw [if_pos e, e, jn, n6]
      · rw [if_neg e, jT t 6 (by omega) (by decide)]
        exact (if_neg e).symm
    have tvJ : tv_ J m (n + 1) := by
      refine ⟨by rw [hJ, jo _ _ (by omega) (by omega)]; exact z4, by omega, fun t q => ?_⟩
      by_cases e : t = n
      · rw [e, jn, jn, n0, n6]
        exact ⟨⟨l, hl, rfl⟩, ⟨s, by omega, hv⟩⟩
      · rw [jT t 0 (by omega) (by decide), jT t 6 (by omega) (by decide)]
        exact tvI.2.2 t (by omega)
    have stn : ∀ l', l' < 5 → l' ≠ l → cn_ (ra_st J m (nI l')) (n + 1) = cn_ (ra_st I m (nI l')) n := fun l' q1 q2 => by
      rw [cn_f (by
        unfold ra_st
        refine decide_eq_false (fun y => ?_)
        rw [jn, n0] at y
        rcases y.1 with y | y
        · exact nI_nm (by omega) y
        · exact q2 ((nI_eq (by omega) (by omega)).mp y).symm)]
      refine cn_eq (fun t q => ?_)
      unfold ra_st
      rw [jT t 0 q (by decide), jT t 6 q (by decide)]
    obtain ⟨⟨hS, hBo, hTo, hLo⟩, ⟨hO, hA, hWo, hC⟩, hK, hD, hX, hM⟩ := h
    refine ⟨⟨?_, ?_, ?_, ?_⟩, ⟨?_, ?_, ?_, ?_⟩, ?_, ?_, ?_, ?_⟩
    · exact rS_o hS k7 (fun a j q => r7 a j (by unfold sr_ at q; omega) (by unfold sr_ at q; omega) (by unfold sr_ at q; omega)) (fun a j q => i7 a j (by unfold si_ at q; omega) (by unfold si_ at q; omega) (by unfold si_ at q; omega) (by unfold si_ at q; omega) (by unfold si_ at q; omega) (by unfold si_ at q; omega) (by unfold si_ at q; omega))
    · -- the board
      have own : ∀ t, t < n + 1 → sd_ (sgI J m t) = true → mm_i M7 (tax ta n r t) 3 = ra_T J m t 1 ∧ mm_i M7 (tax ta n r t) 4 = ra_T J m t 2 ∧ mm_i M7 (tax ta n r t) 6 = ra_T J m t 5 := fun t q _ => by
        by_cases e : t = n
        · rw [e, tax_n, ir7 _ (by decide), ir7 _ (by decide), ir7 _ (by decide), w8, w8, w8, jn, jn, jn, n1, n2, n5]
          exact ⟨rfl, rfl, rfl⟩
        · have q' : t < n := by omega
          have g1 := hge t q'
          have g2 := hlt t q'
          obtain ⟨-, ⟨b1, b2, b3, b4, -⟩, -⟩ := hTo.1 t q'
          rw [tax_o q', i7 _ _ (by omega) (by omega) (by omega) (by omega) (by omega) (by omega) (by omega), i7 _ _ (by omega) (by omega) (by omega) (by omega) (by omega) (by omega) (by omega), i7 _ _ (by omega) (by omega) (by omega) (by omega) (by omega) (by omega) (by omega), jT t 1 q' (by decide), jT t 2 q' (by decide), jT t 5 q' (by decide)]
          exact ⟨b1, b2, b4⟩
      refine ⟨bd0_sg hB7 sgo (fun t q => ?_), tvJ, fun l' q => ?_, fun k q => ?_, own, fun t t' q1 q2 _ _ q5 => ?_⟩
      · by_cases e : t = n
        · rw [e, lmn, if_pos rfl]
        · rw [lmo t (by omega), if_neg e]
      · obtain ⟨b1, b2, b3, b4⟩ := hB6.2.2.1 l' q
        rw [jL l' 0 q (by decide), jL l' 1 q (by decide), jL l' 2 q (by decide), jL l' 4 q (by decide), f7.2.2.1 _ _ (by unfold chI; omega), f7.2.2.1 _ _ (by unfold chI; omega), f7.2.2.1 _ _ (by unfold chI; omega), f7.2.2.1 _ _ (by unfold chI; omega)]
        exact ⟨b1, b2, b3, b4⟩
      · rw [i7 _ _ (by omega) (by omega) (by omega) (by omega) (by omega) (by omega) (by omega), jr _ (by omega) (by omega)]
        exact hBo.2.2.2.1 k q
      · by_cases e1 : t = n
        · by_cases e2 : t' = n
          · rw [e1, e2]
          · rw [e1, tax_n, tax_o (by omega)] at q5
            have := hlt t' (by omega)
            omega
        · by_cases e2 : t' = n
          · rw [e2, tax_n, tax_o (by omega)] at q5
            have := hlt t (by omega)
            omega
          · rw [tax_o (by omega), tax_o (by omega)] at q5
            exact hTo.2.1 t t' (by omega) (by omega) q5
    · -- the tasks
      have old14 : ∀ t, t < n → mm_r M7 (tax ta n r t) 14 = mm_r M (ta t) 14 := fun t q => by
        have g1 := hge t q
        have g2 := hlt t q
        rw [tax_o q, r7 _ _ (by omega) (by omega) (by omega)]
      have new14 : mm_r M7 (tax ta n r n) 14 = 0 := by rw [tax_n, rr7, w9]; simp
      refine ⟨fun t q => ?_, fun t t' q1 q2 q5 => ?_, fun t t' q1 q2 q3 q4 => ?_⟩
      · by_cases e : t = n
        · rw [e]
          unfold tk_
          rw [tax_n, jn, jn, jn, jn, jn, jn, jn, jn, jn, jn, jn, jn, jn, n1, n2, n3, n4, n5, n6, n7, n8 9 (by decide) (by decide), n8 12 (by decide) (by decide), n8 13 (by decide) (by decide), n8 8 (by decide) (by decide), n8 10 (by decide) (by decide), n8 11 (by decide) (by decide), lmn, rr7, rr7, rr7, w9, w9, w9, i77, ir7 0 (by decide), ir7 3 (by decide), ir7 4 (by decide), ir7 5 (by decide), ir7 6 (by decide), ir7 8 (by decide), ir7 13 (by decide), ir7 16 (by decide), ir7 15 (by decide), w8, w8, w8, w8, w8, w8, w8, w8, w8]
          refine ⟨⟨kr7, hr112, rfl, ?_, rfl, rfl⟩, ⟨rfl, rfl, rfl, rfl, rfl, rfl, rfl, rfl⟩, ⟨fun y => absurd rfl y, fun y => absurd rfl y, fun y => absurd rfl y⟩, ?_, ?_⟩
          · show a3 = rft (tax ta n r) x5
            rcases h3 with ⟨e1, e2⟩ | ⟨q', hq, e1, e2⟩
            · rw [e1, e2]; rfl
            · rw [e1, e2, rft_n (by omega), tax_o hq]
          · rw [jc _ _ (by omega) (by omega) (by omega)]
            exact hcb.symm
          · refine Or.inl ⟨?_, ?_⟩
            · rw [rr7, w9]; rfl
            · rw [jc _ _ (by omega) (by omega) (by omega)]
              exact hcb
        · have q' : t < n := by omega
          have g1 := hge t q'
          have g2 := hlt t q'
          obtain ⟨⟨a1, a2, a3', a4, a5, a6⟩, ⟨b1, b2, b3, b4, b5, b6, b7, b8⟩, ⟨c1, c2, c3⟩, d1, d2⟩ := hTo.1 t q'
          have ii : ∀ j, mm_i M7 (ta t) j = mm_i M (ta t) j := fun j => i7 _ _ (by omega) (by omega) (by omega) (by omega) (by omega) (by omega) (by omega)
          have rr : ∀ j, mm_r M7 (ta t) j = mm_r M (ta t) j := fun j => r7 _ _ (by omega) (by omega) (by omega)
          have eT : ∀ f, f < 14 → ra_T J m t f = ra_T I m t f := fun f q2 => jT t f q' q2
          unfold tk_
          rw [tax_o q', eT 1 (by decide), eT 2 (by decide), eT 3 (by decide), eT 4 (by decide), eT 5 (by decide), eT 6 (by decide), eT 7 (by decide), eT 8 (by decide), eT 9 (by decide), eT 10 (by decide), eT 11 (by decide), eT 12 (by decide), eT 13 (by decide), lmo t q', rr, rr, rr, ii, ii, ii, ii, ii, ii, ii, ii, ii, ii, ii, ii, ii, jc _ _ (by omega) (by omega) (by omega)]
          refine ⟨⟨kd_at k7 a1 (by omega), a2, a3', ?_, a5, a6⟩, ⟨b1, b2, b3, b4, b5, b6, b7, b8⟩, ⟨c1, c2, c3⟩, d1, ?_⟩
          · rw [rft_tax ((hbl t q').imp id (fun y => by obtain ⟨p, y1, y2⟩ := y; exact ⟨p, by omega, y2⟩)) (by omega)]
            exact a4
          · unfold rcs
            rw [rr, jc _ _ (by omega) (by omega) (by omega)]
            rcases d2 with d2 | ⟨d2, d3, d4⟩
            · exact Or.inl d2
            · refine Or.inr ⟨d2, kd_ak k7 d3, fun k q1 q2 => ?_⟩
              have hk : mm_r M (ta t) 14 < r := by
                obtain ⟨tg, y1, -⟩ := d3
                rw [hr]
                exact mm_k_lt (by rw [y1]; simp)
              rw [i7 _ _ (by omega) (by omega) (by omega) (by omega) (by omega) (by omega) (by omega), jc _ _ (by omega) (by omega) (by omega)]
              exact d4 k q1 q2
      · by_cases e1 : t = n
        · by_cases e2 : t' = n
          · rw [e1, e2]
          · rw [e1, tax_n, tax_o (by omega)] at q5
            have := hlt t' (by omega)
            omega
        · by_cases e2 : t' = n
          · rw [e2, tax_n, tax_o (by omega)] at q5
            have := hlt t (by omega)
            omega
          · rw [tax_o (by omega), tax_o (by omega)] at q5
            exact hTo.2.1 t t' (by omega) (by omega) q5
      · by_cases e1 : t = n
        · rw [e1] at q3
          exact absurd new14 q3
        · by_cases e2 : t' = n
          · rw [q4, e2] at q3
            exact absurd new14 q3
          · rw [old14 t (by omega)] at q3 q4
            rw [old14 t' (by omega)] at q4
            exact hTo.2.2 t t' (by omega) (by omega) q3 q4
    · -- lanes
      intro l' q
      obtain ⟨b1, b2⟩ := hLo l' q
      have e3 : ra_L J m l' 3 = ra_L I m l' 3 := (jL l' 3 q (by decide)).trans (hI1 _ _ (by omega))
      have eo : opn_ J m (n + 1) l' = opn_ I m n l' := by
        unfold opn_
        rw [e3]
        by_cases e : l' = l
        · rw [e, hop, if_neg (fun y => absurd y.1 (by decide)), if_neg (fun y => absurd y.1 (by decide))]
        · rw [stn l' q e]
      refine ⟨?_, fun f q2 => ?_⟩
      · have := hO7 l' q
        rw [eo, ← b1]
        have e6 : mm_i M6 (12 + l') 4 = mm_i M (12 + l') 4 := i6 _ _ (by omega) (by omega) (by omega) (by omega) (by omega)
        rw [← e6]
        refine this.trans (if_neg (fun y => ?_))
        have y2 := y.2.1
        simp at y2
        exact absurd y2 (by decide)
      · rw [i7 _ _ (by omega) (by omega) (by omega) (by omega) (by omega) (by omega) (by omega), jL l' _ q (by omega)]
        unfold ra_L
        rw [hI1 _ _ (by omega)]
        exact b2 f q2
    · -- the row of all
      have e : (List.range (n + 1)).map (tax ta n r) = (List.range n).map ta ++ [r] := by
        rw [List.range_succ, List.map_append]
        congr 1
        · exact List.map_congr_left (fun t q => tax_o (List.mem_range.mp q))
        · show [tax ta n r n] = [r]
          rw [tax_n]
      show ro_ M7 79 80 400 ((List.range (n + 1)).map (tax ta n r))
      rw [e]
      refine ro_kd w10 (fun a q => (f7.2.1 a).trans (f6.2.1 a)) ?_ ?_ (fun i => ?_)
      · rw [f7.2.2.2.1 _ _ (by omega), f6.2.2.2.1 _ _ (fun z => z)]
      · rw [f7.2.2.1 _ _ (by unfold chI; omega), f6.2.2.1 _ _ (by omega)]
      · rw [f7.2.2.2.1 _ _ (by omega), f6.2.2.2.1 _ _ (fun z => z)]
    · obtain ⟨as, a1, a2, a3', a4⟩ := hA
      have e : as.map (tax ta n r) = as.map ta := List.map_congr_left (fun t q => by
        obtain ⟨i, hi⟩ := List.mem_iff_getElem?.mp q
        exact tax_o (a3' i t hi).2)
      refine ⟨as, by rw [jr _ (by omega) (by omega)]; exact a1, a2, fun i x q => ?_, ?_⟩
      · have := a3' i x q
        rw [jr _ (by omega) (by omega)]
        exact ⟨this.1, by omega⟩
      · rw [e]
        exact ro_kd a4 k7 (r7 _ _ (by omega) (by omega) (by omega)) (i7 _ _ (by omega) (by omega) (by omega) (by omega) (by omega) (by omega) (by omega)) (fun i => r7 _ _ (by omega) (by omega) (by omega))
    · intro w q
      obtain ⟨b1, b2, b3, b4⟩ := hWo w q
      have eW : ∀ f, f < 4 → ra_W J m w f = ra_W I m w f := fun f q2 => jr _ (by omega) (by omega)
      rw [eW 0 (by decide), eW 1 (by decide), eW 2 (by decide), eW 3 (by decide), r7 _ _ (by omega) (by omega) (by omega), i7 _ _ (by omega) (by omega) (by omega) (by omega) (by omega) (by omega) (by omega), i7 _ _ (by omega) (by omega) (by omega) (by omega) (by omega) (by omega) (by omega), i7 _ _ (by omega) (by omega) (by omega) (by omega) (by omega) (by omega) (by omega), rft_tax (hW w q) (by omega)]
      exact ⟨b1, b2, b3, b4⟩
    · have lt7 : ∀ a, mm_k M a = (7, 8) → a < r := fun a q => by rw [hr]; exact mm_k_lt (by rw [q]; decide)
      exact rC_o hC k7 (i7 _ _ (by omega) (by omega) (by omega) (by omega) (by omega) (by omega) (by omega)) (fun c => r7 _ _ (by omega) (by omega) (by omega)) (fun a j q1 q2 => i7 _ _ (by have := lt7 a q2; omega) (by omega) (by omega) (by omega) (by omega) (by omega) (by omega)) (fun a q1 q2 => r7 _ _ (by have := lt7 a q2; omega) (by omega) (by omega)) (fun j q1 q2 => jr _ (by omega) (by omega)) (i7 _ _ (by omega) (by omega) (by omega) (by omega) (by omega) (by omega) (by omega)) (fun i => r7 _ _ (by omega) (by omega) (by omega))
    · obtain ⟨ks, a1, a2, a3', a4, a5, a6⟩ := hK
      refine ⟨ks, a1, by rw [i7 _ _ (by omega) (by omega) (by omega) (by omega) (by omega) (by omega) (by omega)]; exact a2, fun i x q => ?_, a4, fun x q1 q2 => by rw [jc _ _ (by omega) (by omega) (by omega)]; exact a5 x q1 q2, fun x q => ?_⟩
      · rw [i7 _ _ (by omega) (by omega) (by omega) (by omega) (by omega) (by omega) (by omega), i7 _ _ (by omega) (by omega) (by omega) (by omega) (by omega) (by omega) (by omega), jc _ _ (by omega) (by omega) (by omega)]
        exact a3' i x q
      · obtain ⟨t, y1, y2⟩ := a6 x q
        exact ⟨t, by omega, by rw [jT t 3 y1 (by decide)]; exact y2⟩
    · obtain ⟨zz1, zz2, zz3, zz4, zz5, zz6⟩ := zN
      have hq := log_eq6 (Z := Z) (N := N) (m := m) (t := n) (x1 := 0) (x3 := -1) (x4 := 0) ((z6 _ _ (by omega)).trans (zz6 _ _ (by omega)).symm) ((z6 _ _ (by omega)).trans (zz6 _ _ (by omega)).symm) ((z5 _ (by omega) (by omega)).trans (zz5 _ (by omega) (by omega)).symm) (n0.trans zz2.1.symm) (fun j => (z6 _ _ (by omega)).trans (zz6 _ _ (by omega)).symm)
      rw [hJ]
      refine ⟨?_, fun j q => ?_⟩
      · rw [hq.1]
        exact dc_o hD5.1 (fun j => by rw [f7.2.2.1 _ _ (by unfold chI; omega), f6.2.2.1 _ _ (by omega)])
      · rw [hq.2, f7.2.2.1 _ _ (by unfold chI; omega), f6.2.2.1 _ _ (by omega)]
        exact hD5.2 j q
    · exact rX_o hX (fun j q => i7 _ _ (by omega) (by omega) (by omega) (by omega) (by omega) (by omega) (by omega)) (jr _ (by omega) (by omega)) (jr _ (by omega) (by omega)) (jc _ _ (by omega) (by omega) (by omega))
    · obtain ⟨m1, k, m2, m3, m4, m5⟩ := hM
      have en' : mm_n M7 = r + 1 := by rw [f7.1, f6.1]; exact w2
      have et' : mm_t M7 (r + 1) = mm_t M r + 17 := by
        rw [mm_t_eq (M := M5) (M' := M7) (fun a _ => (f7.2.1 a).trans (f6.2.1 a)), w3, hr]
      have ec : cn_ (fun t => decide (mm_r M7 (tax ta n r t) 14 ≠ 0)) (n + 1) = cn_ (fun t => decide (mm_r M (ta t) 14 ≠ 0)) n := by
        rw [cn_f (by rw [tax_n, rr7, w9]; rfl)]
        refine cn_eq (fun t q => ?_)
        have g1 := hge t q
        have g2 := hlt t q
        rw [tax_o q, r7 _ _ (by omega) (by omega) (by omega)]
      have hle := cn_le (fun t => decide (mm_r M (ta t) 14 ≠ 0)) n
      refine ⟨by rw [en']; omega, k, m2, by rw [jr _ (by omega) (by omega)]; exact m3, ?_, ?_⟩
      · rw [en', ec]
        rw [← hr] at m4
        omega
      · rw [en', et', ec]
        rw [← hr] at m5
        omega
  · have := hT7.2.1
    rw [tax_n] at this
    exact this
end New
