/-! THE BOARD of the class: its cells b .. b + 10, counts, the standing row; a task's change -/
section CBoard
variable {M : mm_T} {b n : Nat}
def bS (M : mm_T) (b : Nat) : Prop := mm_k M b = (0, 4) ∧ mm_r M b 0 = b + 1 ∧ ak_ M (b + 1) 2 5 ∧ mm_r M b 1 = b + 2 ∧ mm_k M (b + 2) = (4, 2) ∧ mm_r M (b + 2) 0 = b + 3 ∧ ak_ M (b + 3) 3 48 ∧ mm_r M b 2 = b + 4 ∧ ak_ M (b + 4) 0 7 ∧ mm_r M b 3 = b + 5 ∧ ak_ M (b + 5) 0 6 ∧ ∀ l, l < 5 → mm_k M (b + 6 + l) = (3, 14) ∧ mm_r M (b + 1) l = b + 6 + l ∧ mm_i M (b + 6 + l) 0 = nI l
theorem ak_o {M' : mm_T} {r y k : Nat} (h : ak_ M r y k) (hk : mm_k M' r = mm_k M r) : ak_ M' r y k := by
  obtain ⟨tg, h1, h2⟩ := h
  exact ⟨tg, hk.trans h1, h2⟩
theorem bS_o {M' : mm_T} (h : bS M b) (hk : ∀ a, mm_k M' a = mm_k M a) (hr : ∀ a j, (a = b ∨ a = b + 1 ∨ a = b + 2) → mm_r M' a j = mm_r M a j) (hi : ∀ l, l < 5 → mm_i M' (b + 6 + l) 0 = mm_i M (b + 6 + l) 0) : bS M' b := by
  obtain ⟨h1, h2, h3, h4, h5, h6, h7, h8, h9, h10, h11, h12⟩ := h
  refine ⟨(hk _).trans h1, (hr _ _ (Or.inl rfl)).trans h2, ak_o h3 (hk _), (hr _ _ (Or.inl rfl)).trans h4, (hk _).trans h5, (hr _ _ (Or.inr (Or.inr rfl))).trans h6, ak_o h7 (hk _), (hr _ _ (Or.inl rfl)).trans h8, ak_o h9 (hk _), (hr _ _ (Or.inl rfl)).trans h10, ak_o h11 (hk _), fun l hl => ?_⟩
  obtain ⟨g1, g2, g3⟩ := h12 l hl
  exact ⟨(hk _).trans g1, (hr _ _ (Or.inr (Or.inl rfl))).trans g2, (hi l hl).trans g3⟩
theorem ne_k {a c x y : Nat} {p q : Nat} (h : mm_k M a = (x, y)) (h' : mm_k M c = (p, q)) (hn : ¬ x = p) : a ≠ c := by
  rintro rfl
  rw [h] at h'
  exact hn (by injection h')
theorem ne_ak {a c x y z k : Nat} (h : mm_k M a = (x, y)) (hx : x < 20) (h' : ak_ M c z k) : a ≠ c := by
  obtain ⟨tg, h1, h2, -⟩ := h'
  exact ne_k h h1 (by omega)
/-- a task's cell is none of the board's -/
theorem tc_ne (hS : bS M b) {a : Nat} (ha : mm_k M a = (6, 17)) : a ≠ b ∧ a ≠ b + 1 ∧ a ≠ b + 2 ∧ a ≠ b + 3 ∧ a ≠ b + 4 ∧ a ≠ b + 5 ∧ ∀ l, l < 5 → a ≠ b + 6 + l := by
  obtain ⟨h1, h2, h3, h4, h5, h6, h7, h8, h9, h10, h11, h12⟩ := hS
  exact ⟨ne_k ha h1 (by decide), ne_ak ha (by decide) h3, ne_k ha h5 (by decide), ne_ak ha (by decide) h7, ne_ak ha (by decide) h9, ne_ak ha (by decide) h11, fun l hl => ne_k ha (h12 l hl).1 (by decide)⟩
theorem cc_stands {a : Nat} (ha : mm_k M a = (6, 17)) {P : Int32 → mm_T → Prop} (K : P (if 0 ≤ mm_i M a 7 ∧ mm_i M a 7 ≤ 3 then 1 else 0) M) : cs_i mt_X6_stands [pv_r a] M P := by
  refine wc_X6_stands_0 ha ⟨fun c => ?_, fun c => ⟨fun c2 => ?_, fun c2 => ?_⟩⟩
  · rw [if_neg (fun q => absurd c (Int32.not_lt.mpr q.1))] at K; exact K
  · rw [if_neg (fun q => absurd c2 (Int32.not_lt.mpr q.2))] at K; exact K
  · rw [if_pos ⟨Int32.not_lt.mp c, Int32.not_lt.mp c2⟩] at K; exact K
theorem i32_s7 {x : Int32} (h : ¬ x < 0) (h' : x < 7) : ∃ s, s < 7 ∧ x = nI s := by
  obtain ⟨j, hj, rfl⟩ := nI_of h
  exact ⟨j, (nI_ltI hj (by omega)).mp h', rfl⟩
theorem cc_count (hS : bS M b) {a l : Nat} (ha : mm_k M a = (6, 17)) (hl : mm_r M a 2 = b + 6 + l) (hl5 : l < 5) {v : Int32} {P : mm_T → Prop}
    (K : ∀ M', (∀ s, s < 7 → mm_i M' (b + 4) s = if mm_i M a 7 = nI s then mm_i M (b + 4) s + v else mm_i M (b + 4) s) → mm_i M' (b + 6 + l) 6 = (if mm_i M a 7 = 0 then mm_i M (b + 6 + l) 6 + v else mm_i M (b + 6 + l) 6) → mm_i M' (b + 6 + l) 7 = (if 0 ≤ mm_i M a 7 ∧ mm_i M a 7 ≤ 3 then mm_i M (b + 6 + l) 7 + v else mm_i M (b + 6 + l) 7) → mm_i M' (b + 6 + l) 8 = (if mm_i M a 7 = 3 then mm_i M (b + 6 + l) 8 + v else mm_i M (b + 6 + l) 8) → fx_ (fun p j => p = b + 4 ∨ (p = b + 6 + l ∧ (j = 6 ∨ j = 7 ∨ j = 8))) (fun _ _ => False) M M' → P M') : cs_v mt_X0_count [pv_r b, pv_r a, pv_i v] M P := by
  obtain ⟨h1, h2, h3, h4, h5, h6, h7, h8, h9, h10, h11, h12⟩ := id hS
  obtain ⟨n1, n2, n3, n4, n5, n6, n7⟩ := tc_ne hS ha
  obtain ⟨x, hx⟩ : ∃ x, x = mm_i M a 7 := ⟨_, rfl⟩
  have bad : (x < 0 ∨ ¬ x < 7) → P M := fun hb => by
    have ns : ∀ s, s < 7 → ¬ x = nI s := fun s hs e => by
      rcases hb with hb | hb
      · rw [e] at hb; exact nI_pos (by omega) hb
      · rw [e] at hb; exact hb (show nI s < nI 7 from nI_lt hs (by decide))
    rw [← hx] at K
    refine K M (fun s hs => by rw [if_neg (ns s hs)]) (by rw [if_neg (show ¬ x = 0 from ns 0 (by decide))]) ?_ (by rw [if_neg (show ¬ x = 3 from ns 3 (by decide))]) fx_rf
    rw [if_neg]
    intro q
    obtain ⟨j, hj, e⟩ := i32_in (x := x) (M := 3) (N := 3) (by decide) q
    exact ns j (by omega) e
  have hlane : ∀ M' : mm_T, (∀ q, mm_k M' q = mm_k M q) → mm_r M' a 2 = mm_r M a 2 → mm_k M' (mm_r M' a 2) = (3, 14) := fun M' hk hr => by rw [hr, hl, hk]; exact (h12 l hl5).1
  refine wc_X0_count_0 h1 ⟨ha, ?_⟩
  rw [← hx]
  refine ⟨fun c => bad (Or.inl c), fun c => ⟨fun c2 => ?_, fun c2 => bad (Or.inr c2)⟩⟩
  obtain ⟨s, hs, e⟩ := i32_s7 c c2
  have f7 : fx_ (fun p j => p = b + 4 ∨ (p = b + 6 + l ∧ (j = 6 ∨ j = 7 ∨ j = 8))) (fun _ _ => False) M (mm_pi M (b + 4) s (mm_i M (b + 4) s + v)) := fx_pi (Or.inl rfl)
  refine ⟨7, by rw [h8]; exact h9, s, ⟨e, hs⟩, hs, fun M7 h7' => ?_⟩
  rw [h8] at h7'
  have e7 : mm_i M7 a 7 = x := by rw [h7', mi_pia n5, hx]
  have er : mm_r M7 a 2 = b + 6 + l := by rw [h7', mr_pi, hl]
  have eC : ∀ s', s' < 7 → mm_i M7 (b + 4) s' = if x = nI s' then mm_i M (b + 4) s' + v else mm_i M (b + 4) s' := fun s' hs' => by
    rw [h7', mi_pi, e]
    by_cases q : s' = s
    · rw [if_pos ⟨rfl, q⟩, if_pos (by rw [q]), q]
    · rw [if_neg (fun z => q z.2), if_neg (fun z => q ((nI_eq (by omega) (by omega)).mp z).symm)]
  have eL : ∀ j, mm_i M7 (b + 6 + l) j = mm_i M (b + 6 + l) j := fun j => by rw [h7', mi_pia (by omega)]
  have K := fun M' => K M'
  rw [← hx] at K
  rw [e7]
  refine ⟨fun c3 => ?_, fun c3 => ⟨?_, fun M24 h24 => ?_⟩⟩
  · have n03 : ¬ (0 ≤ x ∧ x ≤ 3) := fun q => Int32.not_lt.mpr q.2 c3
    have n3 : ¬ x = 3 := fun q => by rw [q] at c3; exact absurd c3 (by decide)
    have n0 : ¬ x = 0 := fun q => by rw [q] at c3; exact absurd c3 (by decide)
    refine ⟨fun c4 => ⟨fun c5 => ?_, fun c5 => absurd c5 n3⟩, fun c4 => absurd c4 n0⟩
    exact K M7 eC (by rw [if_neg n0, eL]) (by rw [if_neg n03, eL]) (by rw [if_neg n3, eL]) (by rw [h7']; exact f7)
  · exact hlane M7 (fun q => by rw [h7']; rfl) (by rw [er, hl])
  · rw [er, eL] at h24
    have p03 : 0 ≤ x ∧ x ≤ 3 := ⟨Int32.not_lt.mp c, Int32.not_lt.mp c3⟩
    have e24 : mm_i M24 a 7 = x := by rw [h24, mi_pia (n7 l hl5), e7]
    have er24 : mm_r M24 a 2 = b + 6 + l := by rw [h24, mr_pi, er]
    have eC24 : ∀ s', s' < 7 → mm_i M24 (b + 4) s' = if x = nI s' then mm_i M (b + 4) s' + v else mm_i M (b + 4) s' := fun s' hs' => by rw [h24, mi_pia (by omega)]; exact eC s' hs'
    have e247 : mm_i M24 (b + 6 + l) 7 = mm_i M (b + 6 + l) 7 + v := by rw [h24, mi_pis]
    have e24j : ∀ j, j ≠ 7 → mm_i M24 (b + 6 + l) j = mm_i M (b + 6 + l) j := fun j hj => by rw [h24, mi_pij hj, eL]
    have f24 : fx_ (fun p j => p = b + 4 ∨ (p = b + 6 + l ∧ (j = 6 ∨ j = 7 ∨ j = 8))) (fun _ _ => False) M M24 := by
      rw [h24, h7']
      exact fx_tr f7 (fx_pi (Or.inr ⟨rfl, Or.inr (Or.inl rfl)⟩))
    have k24 : mm_k M24 (mm_r M24 a 2) = (3, 14) := hlane M24 (fun q => by rw [h24, h7']; rfl) (by rw [er24, hl])
    rw [e24]
    refine ⟨fun c4 => ⟨fun c5 => ?_, fun c5 => ⟨k24, fun M30 h30 => ?_⟩⟩, fun c4 => ⟨k24, fun M37 h37 => ?_⟩⟩
    · exact K M24 eC24 (by rw [if_neg c4, e24j 6 (by decide)]) (by rw [if_pos p03, e247]) (by rw [if_neg c5, e24j 8 (by decide)]) f24
    · rw [er24, e24j 8 (by decide)] at h30
      refine K M30 (fun s' hs' => ?_) ?_ ?_ ?_ ?_
      · rw [h30, mi_pia (by omega)]; exact eC24 s' hs'
      · rw [if_neg c4, h30, mi_pij (by decide), e24j 6 (by decide)]
      · rw [if_pos p03, h30, mi_pij (by decide), e247]
      · rw [if_pos c5, h30, mi_pis]
      · rw [h30]
        exact fx_tr f24 (fx_pi (Or.inr ⟨rfl, Or.inr (Or.inr rfl)⟩))
    · rw [er24, e24j 6 (by decide)] at h37
      refine K M37 (fun s' hs' => ?_) ?_ ?_ ?_ ?_
      · rw [h37, mi_pia (by omega)]; exact eC24 s' hs'
      · rw [if_pos c4, h37, mi_pis]
      · rw [if_pos p03, h37, mi_pij (by decide), e247]
      · rw [if_neg (by rw [c4]; decide), h37, mi_pij (by decide), e24j 8 (by decide)]
      · rw [h37]
        exact fx_tr f24 (fx_pi (Or.inr ⟨rfl, Or.inl rfl⟩))
/-! the board's picture: states sg, lanes lm, cells ta of the tasks below n -/
def sd_ (x : Int32) : Bool := decide (0 ≤ x ∧ x ≤ 3)
def sl_ (sg : Nat → Int32) (n : Nat) : List Nat := (List.range n).filter (fun t => sd_ (sg t))
def su1 (sg : Nat → Int32) (t : Nat) (v : Int32) : Nat → Int32 := fun x => if x = t then v else sg x
def c6_ (sg : Nat → Int32) (lm : Nat → Nat) (n l : Nat) : Nat := cn_ (fun t => decide (sg t = 0 ∧ lm t = l)) n
def c7_ (sg : Nat → Int32) (lm : Nat → Nat) (n l : Nat) : Nat := cn_ (fun t => sd_ (sg t) && decide (lm t = l)) n
def c8_ (sg : Nat → Int32) (lm : Nat → Nat) (n l : Nat) : Nat := cn_ (fun t => decide (sg t = 3 ∧ lm t = l)) n
/-- a task's cell -/
def tc_ (M : mm_T) (b : Nat) (sg : Nat → Int32) (lm ta : Nat → Nat) (t : Nat) : Prop := mm_k M (ta t) = (6, 17) ∧ mm_i M (ta t) 0 = nI t ∧ mm_i M (ta t) 7 = sg t ∧ mm_r M (ta t) 2 = b + 6 + lm t ∧ lm t < 5
def bd0 (M : mm_T) (b n : Nat) (sg : Nat → Int32) (lm ta : Nat → Nat) : Prop := bS M b ∧ n ≤ 400 ∧ (∀ l, l < 5 → mm_i M (b + 6 + l) 6 = nI (c6_ sg lm n l) ∧ mm_i M (b + 6 + l) 7 = nI (c7_ sg lm n l) ∧ mm_i M (b + 6 + l) 8 = nI (c8_ sg lm n l)) ∧ (∀ s, s < 7 → mm_i M (b + 4) s = nI (cn_ (fun t => decide (sg t = nI s)) n)) ∧ ro_ M (b + 2) (b + 3) 48 ((sl_ sg n).map ta) ∧ ∀ t, t < n → sd_ (sg t) = true → tc_ M b sg lm ta t
theorem nI_adj {a a' : Nat} {P Q : Prop} [Decidable P] [Decidable Q] (h : a' + (if P then 1 else 0) = a + (if Q then 1 else 0)) {x : Int32} (hx : x = nI a) : (if Q then (if P then x + -1 else x) + 1 else (if P then x + -1 else x)) = nI a' := by
  subst hx
  by_cases p : P
  · by_cases q : Q
    · simp only [p, q, if_true] at h ⊢
      have : a' = a := by omega
      subst this
      cases a' with
      | zero => rfl
      | succ k => rw [pk_m1, nI_1]
    · simp only [p, q, if_true, if_false] at h ⊢
      have : a = a' + 1 := by omega
      subst this
      rw [pk_m1]
  · by_cases q : Q
    · simp only [p, q, if_true, if_false] at h ⊢
      have : a' = a + 1 := by omega
      subst this
      rw [nI_1]
    · simp only [p, q, if_false] at h ⊢
      have : a' = a := by omega
      rw [this]
theorem rg_split : ∀ (t s k : Nat), List.range' s (t + k) = List.range' s t ++ List.range' (s + t) k
  | 0, s, k => by simp
  | t + 1, s, k => by
    rw [show t + 1 + k = (t + k) + 1 by omega, List.range'_succ, List.range'_succ, rg_split t (s + 1) k, List.cons_append, show s + 1 + t = s + (t + 1) by omega]
theorem rg_mid {t n : Nat} (h : t < n) : List.range n = List.range' 0 t ++ t :: List.range' (t + 1) (n - t - 1) := by
  rw [List.range_eq_range', show n = t + ((n - t - 1) + 1) by omega, rg_split, List.range'_succ]
  simp
theorem sl_same {sg : Nat → Int32} {t : Nat} {v : Int32} (h : sd_ (sg t) = sd_ v) : sl_ (su1 sg t v) n = sl_ sg n := by
  unfold sl_
  refine fl_eq (fun i _ => ?_)
  unfold su1
  split
  · next e => rw [e, h]
  · rfl
theorem sl_drop {sg : Nat → Int32} {t : Nat} {v : Int32} (h' : sd_ v = false) : sl_ (su1 sg t v) n = (sl_ sg n).filter (fun x => decide (x ≠ t)) := by
  unfold sl_
  rw [List.filter_filter]
  refine fl_eq (fun i _ => ?_)
  unfold su1
  by_cases e : i = t
  · rw [if_pos e, h']
    simp [e]
  · rw [if_neg e]
    simp [e]
theorem sl_ins {sg : Nat → Int32} {t : Nat} {v : Int32} (ht : t < n) (h : sd_ (sg t) = false) (h' : sd_ v = true) : sl_ sg n = (List.range' 0 t).filter (fun x => sd_ (sg x)) ++ (List.range' (t + 1) (n - t - 1)).filter (fun x => sd_ (sg x)) ∧ sl_ (su1 sg t v) n = (List.range' 0 t).filter (fun x => sd_ (sg x)) ++ t :: (List.range' (t + 1) (n - t - 1)).filter (fun x => sd_ (sg x)) := by
  unfold sl_
  rw [rg_mid ht]
  constructor
  · rw [List.filter_append, List.filter_cons, if_neg (by rw [h]; decide)]
  · rw [List.filter_append, List.filter_cons, if_pos (by unfold su1; rw [if_pos rfl]; exact h')]
    congr 1
    · refine List.filter_congr (fun i hi => ?_)
      have := (List.mem_range'_1.mp hi)
      unfold su1
      rw [if_neg (by omega)]
    · congr 1
      refine List.filter_congr (fun i hi => ?_)
      have := (List.mem_range'_1.mp hi)
      unfold su1
      rw [if_neg (by omega)]
theorem sl_mem {sg : Nat → Int32} {x : Nat} (h : x ∈ sl_ sg n) : x < n ∧ sd_ (sg x) = true := by
  unfold sl_ at h
  rw [List.mem_filter, List.mem_range] at h
  exact h
theorem cc_close {a : Nat} (ha : mm_k M a = (3, 14)) {P : mm_T → Prop} (K : P (if mm_i M a 4 = 1 ∧ mm_i M a 7 = 0 then mm_pi M a 4 2 else M)) : cs_v mt_X3_closeIfDrained [pv_r a] M P := by
  refine wc_X3_closeIfDrained_0 ha ⟨fun c => ?_, fun c => ⟨fun c2 => ?_, fun c2 M1 h => ?_⟩⟩
  · rw [if_neg (fun q => c q.1)] at K; exact K
  · rw [if_neg (fun q => c2 q.2)] at K; exact K
  · rw [if_pos ⟨c, c2⟩, ← h] at K; exact K
def chI (b l a : Nat) (p j : Nat) : Prop := p = b + 4 ∨ (p = b + 6 + l ∧ (j = 4 ∨ j = 6 ∨ j = 7 ∨ j = 8)) ∨ (p = b + 2 ∧ j = 1) ∨ (p = a ∧ j = 7)
theorem cc_change {sg : Nat → Int32} {lm ta : Nat → Nat} (hB : bd0 M b n sg lm ta) {t : Nat} (ht : t < n) (hT : tc_ M b sg lm ta t) (inj : ∀ t', t' < n → sd_ (sg t') = true → ta t' = ta t → t' = t) {v : Int32} (hr : sd_ (sg t) = false → sd_ v = true → (sl_ sg n).length < 48) {P : mm_T → Prop}
    (K : ∀ M', bd0 M' b n (su1 sg t v) lm ta → tc_ M' b (su1 sg t v) lm ta t → (∀ l, l < 5 → mm_i M' (b + 6 + l) 4 = if l = lm t ∧ sd_ (sg t) = true ∧ sd_ v = false ∧ mm_i M (b + 6 + l) 4 = 1 ∧ c7_ (su1 sg t v) lm n l = 0 then 2 else mm_i M (b + 6 + l) 4) → fx_ (chI b (lm t) (ta t)) (fun p _ => p = b + 3) M M' → P M') : cs_v mt_X0_change [pv_r b, pv_r (ta t), pv_i v] M P := by
  obtain ⟨hS, h4, hL, hC, hR, hTs⟩ := id hB
  obtain ⟨hk, h0, h7, h2, hl5⟩ := id hT
  obtain ⟨n1, n2, n3, n4, n5, n6, n7⟩ := tc_ne hS hk
  have sdm : ∀ x : Int32, (sd_ x = true) = (0 ≤ x ∧ x ≤ 3) := fun x => by unfold sd_; exact decide_eq_true_eq
  refine wc_X0_change_0 hS.1 ⟨hk, cc_stands hk (cc_count hS hk h2 hl5 (fun M6 hc1 h61 h71 h81 f1 M9 h9 => ?_))⟩
  have f9 : fx_ (chI b (lm t) (ta t)) (fun p _ => p = b + 3) M M9 := by
    rw [h9]
    refine fx_tr (fx_up f1 ?_ (fun _ _ h => h.elim)) (fx_pi (Or.inr (Or.inr (Or.inr ⟨rfl, rfl⟩))))
    rintro p j (q | ⟨q1, q2⟩)
    · exact Or.inl q
    · exact Or.inr (Or.inl ⟨q1, by omega⟩)
  have hS9 : bS M9 b := bS_o hS f9.2.1 (fun a j h => f9.2.2.2.1 a j (by omega)) (fun l hl => f9.2.2.1 _ _ (by
    rintro (q | q | q | q)
    · omega
    · omega
    · omega
    · exact n7 l hl q.1.symm))
  have k9 : mm_k M9 (ta t) = (6, 17) := (f9.2.1 _).trans hk
  have h79 : mm_i M9 (ta t) 7 = v := by rw [h9, mi_pis]
  have h29 : mm_r M9 (ta t) 2 = b + 6 + lm t := (f9.2.2.2.1 _ _ n4).trans h2
  refine cc_count hS9 k9 h29 hl5 (fun M12 hc2 h62 h72 h82 f2 => ?_)
  have e9 : ∀ p j, p ≠ ta t → mm_i M9 p j = mm_i M6 p j := fun p j hp => by rw [h9, mi_pia hp]
  rw [h79] at hc2 h62 h72 h82
  rw [e9 _ _ (n7 _ hl5).symm, h61, h7] at h62
  rw [e9 _ _ (n7 _ hl5).symm, h71, h7] at h72
  rw [e9 _ _ (n7 _ hl5).symm, h81, h7] at h82
  have f12 : fx_ (chI b (lm t) (ta t)) (fun p _ => p = b + 3) M M12 := by
    refine fx_tr f9 (fx_up f2 ?_ (fun _ _ h => h.elim))
    rintro p j (q | ⟨q1, q2⟩)
    · exact Or.inl q
    · exact Or.inr (Or.inl ⟨q1, by omega⟩)
  -- what counts and lanes say now
  have su_t : su1 sg t v t = v := if_pos rfl
  have su_n : ∀ x, x ≠ t → su1 sg t v x = sg x := fun x h => if_neg h
  have cC : ∀ s, s < 7 → mm_i M12 (b + 4) s = nI (cn_ (fun t' => decide (su1 sg t v t' = nI s)) n) := fun s hs => by
    rw [hc2 s hs, e9 _ _ n5.symm, hc1 s hs, h7]
    refine nI_adj ?_ (hC s hs)
    have := cn_one (p := fun t' => decide (su1 sg t v t' = nI s)) (q := fun t' => decide (sg t' = nI s)) (t := t) (fun i hi => by rw [su_n i hi]) ht
    simpa [su_t] using this
  have cL : ∀ l, l < 5 → mm_i M12 (b + 6 + l) 6 = nI (c6_ (su1 sg t v) lm n l) ∧ mm_i M12 (b + 6 + l) 7 = nI (c7_ (su1 sg t v) lm n l) ∧ mm_i M12 (b + 6 + l) 8 = nI (c8_ (su1 sg t v) lm n l) := fun l hl => by
    by_cases e : l = lm t
    · subst e
      refine ⟨?_, ?_, ?_⟩
      · rw [h62]
        refine nI_adj ?_ (hL _ hl).1
        have := cn_one (p := fun t' => decide (su1 sg t v t' = 0 ∧ lm t' = lm t)) (q := fun t' => decide (sg t' = 0 ∧ lm t' = lm t)) (t := t) (fun i hi => by rw [su_n i hi]) ht
        unfold c6_; simpa [su_t] using this
      · rw [h72]
        refine nI_adj ?_ (hL _ hl).2.1
        have := cn_one (p := fun t' => sd_ (su1 sg t v t') && decide (lm t' = lm t)) (q := fun t' => sd_ (sg t') && decide (lm t' = lm t)) (t := t) (fun i hi => by rw [su_n i hi]) ht
        unfold c7_; simpa [su_t, sdm] using this
      · rw [h82]
        refine nI_adj ?_ (hL _ hl).2.2
        have := cn_one (p := fun t' => decide (su1 sg t v t' = 3 ∧ lm t' = lm t)) (q := fun t' => decide (sg t' = 3 ∧ lm t' = lm t)) (t := t) (fun i hi => by rw [su_n i hi]) ht
        unfold c8_; simpa [su_t] using this
    · have hne : ∀ j, mm_i M12 (b + 6 + l) j = mm_i M (b + 6 + l) j := fun j => f12.2.2.1 _ _ (by
        rintro (q | q | q | q)
        · omega
        · omega
        · omega
        · exact n7 l hl q.1.symm)
      rw [hne, hne, hne, (hL l hl).1, (hL l hl).2.1, (hL l hl).2.2]
      refine ⟨?_, ?_, ?_⟩ <;> (congr 1; refine cn_eq (fun i _ => ?_); by_cases q : i = t)
      · rw [q]; simp [Ne.symm e]
      · rw [su_n i q]
      · rw [q]; simp [Ne.symm e]
      · rw [su_n i q]
      · rw [q]; simp [Ne.symm e]
      · rw [su_n i q]
  have h712 : mm_i M12 (ta t) 7 = v := (f2.2.2.1 _ _ (by
    rintro (q | q)
    · exact n5 q
    · exact n7 _ hl5 q.1)).trans h79
  have k12 : mm_k M12 (ta t) = (6, 17) := (f12.2.1 _).trans hk
  have h212 : mm_r M12 (ta t) 2 = b + 6 + lm t := (f12.2.2.2.1 _ _ n4).trans h2
  have h012 : mm_i M12 (ta t) 0 = nI t := (f12.2.2.1 _ _ (by
    rintro (q | q | q | q)
    · exact n5 q
    · exact n7 _ hl5 q.1
    · exact n3 q.1
    · omega)).trans h0
  have hR12 : ro_ M12 (b + 2) (b + 3) 48 ((sl_ sg n).map ta) := by
    refine ro_o hR f12.2.1 (f12.2.2.2.1 _ _ (by omega)) ?_ (fun i => ?_)
    · rw [f2.2.2.1 _ _ (by omega), e9 _ _ n3.symm, f1.2.2.1 _ _ (by omega)]
    · rw [f2.2.2.2.1 _ _ (fun q => q), h9, mr_pi, f1.2.2.2.1 _ _ (fun q => q)]
  have hTs12 : ∀ t', t' < n → sd_ (sg t') = true → t' ≠ t → tc_ M12 b (su1 sg t v) lm ta t' := fun t' h1 h2 h3 => by
    obtain ⟨g1, g2, g3, g4, g5⟩ := hTs t' h1 h2
    obtain ⟨m1, m2, m3, m4, m5, m6, m7⟩ := tc_ne hS g1
    have hne : ta t' ≠ ta t := fun q => h3 (inj t' h1 h2 q)
    have hi : ∀ j, mm_i M12 (ta t') j = mm_i M (ta t') j := fun j => f12.2.2.1 _ _ (by
      rintro (q | q | q | q)
      · exact m5 q
      · exact m7 _ hl5 q.1
      · exact m3 q.1
      · exact hne q.1)
    exact ⟨(f12.2.1 _).trans g1, (hi 0).trans g2, by rw [hi, su_n t' h3]; exact g3, (f12.2.2.2.1 _ _ m4).trans g4, g5⟩
  have hS12 : bS M12 b := bS_o hS f12.2.1 (fun a j h => f12.2.2.2.1 a j (by omega)) (fun l hl => f12.2.2.1 _ _ (by
    rintro (q | q | q | q)
    · omega
    · omega
    · omega
    · exact n7 l hl q.1.symm))
  have eO : ∀ l, l < 5 → mm_i M12 (b + 6 + l) 4 = mm_i M (b + 6 + l) 4 := fun l hl => by
    rw [f2.2.2.1 _ _ (by omega), e9 _ _ (n7 l hl).symm, f1.2.2.1 _ _ (by omega)]
  rw [h7]
  have unch : sd_ (sg t) = sd_ v → P M12 := fun hs => by
    refine K M12 ⟨hS12, h4, cL, cC, by rw [sl_same hs]; exact hR12, fun t' h1 h2 => ?_⟩ ⟨k12, h012, by rw [su_t]; exact h712, h212, hl5⟩ (fun l hl => ?_) f12
    · by_cases q : t' = t
      · rw [q]; exact ⟨k12, h012, by rw [su_t]; exact h712, h212, hl5⟩
      · rw [su_n t' q] at h2; exact hTs12 t' h1 h2 q
    · rw [if_neg (fun q => by rw [hs] at q; rw [q.2.2.1] at q; exact absurd q.2.1 (by decide))]
      exact eO l hl
  by_cases s1 : sd_ (sg t) = true
  · rw [if_pos (by rw [← sdm]; exact s1)]
    refine ⟨fun c => absurd c (by decide), fun _ => cc_stands k12 ?_⟩
    rw [h712]
    by_cases s2 : sd_ v = true
    · rw [if_pos (by rw [← sdm]; exact s2)]
      exact ⟨fun _ => ⟨fun _ => unch (s1.trans s2.symm), fun c => absurd c (by decide)⟩, fun c => absurd c (by decide)⟩
    · have s2' : sd_ v = false := by cases h : sd_ v <;> simp_all
      rw [if_neg (by rw [← sdm]; exact s2)]
      refine ⟨fun c => absurd rfl c, fun _ => ⟨by rw [hS12.2.2.2.1]; exact hS12.2.2.2.2.1, ?_⟩⟩
      rw [hS12.2.2.2.1]
      refine cc_drop hR12 k12 (fun x hx => ?_) (fun M38 hR38 f38 => ?_)
      · rw [List.mem_map] at hx
        obtain ⟨t', h1, rfl⟩ := hx
        obtain ⟨h1, h2'⟩ := sl_mem h1
        exact (f12.2.1 _).trans (hTs t' h1 h2').1
      have e38 : mm_r M38 (ta t) 2 = b + 6 + lm t := (f38.2.2.2.1 _ _ n4).trans h212
      have kl : mm_k M38 (b + 6 + lm t) = (3, 14) := (f38.2.1 _).trans (hS12.2.2.2.2.2.2.2.2.2.2.2 _ hl5).1
      refine ⟨by rw [e38]; exact kl, ?_⟩
      rw [e38]
      refine cc_close kl ?_
      have i38 : ∀ p j, p ≠ b + 2 → mm_i M38 p j = mm_i M12 p j := fun p j hp => f38.2.2.1 _ _ (fun q => hp q.1)
      have eRow : ((sl_ sg n).map ta).filter (fun x => decide (x ≠ ta t)) = (sl_ (su1 sg t v) n).map ta := by
        rw [sl_drop s2', List.filter_map]
        congr 1
        refine List.filter_congr (fun x hx => ?_)
        obtain ⟨h1, h2'⟩ := sl_mem hx
        by_cases q : x = t
        · simp [q]
        · have : ta x ≠ ta t := fun z => q (inj x h1 h2' z)
          simp [q, this]
      rw [eRow] at hR38
      have e47 : mm_i M38 (b + 6 + lm t) 7 = nI (c7_ (su1 sg t v) lm n (lm t)) := by rw [i38 _ _ (by omega)]; exact (cL _ hl5).2.1
      have e44 : mm_i M38 (b + 6 + lm t) 4 = mm_i M (b + 6 + lm t) 4 := by rw [i38 _ _ (by omega)]; exact eO _ hl5
      have hc7 : c7_ (su1 sg t v) lm n (lm t) ≤ n := cn_le _ _
      obtain ⟨M43, h43⟩ : ∃ M43, M43 = (if mm_i M38 (b + 6 + lm t) 4 = 1 ∧ mm_i M38 (b + 6 + lm t) 7 = 0 then mm_pi M38 (b + 6 + lm t) 4 2 else M38) := ⟨_, rfl⟩
      rw [← h43]
      have f43 : fx_ (fun p j => p = b + 6 + lm t ∧ j = 4) (fun _ _ => False) M38 M43 := by
        rw [h43]
        split
        · exact fx_pi ⟨rfl, rfl⟩
        · exact fx_rf
      have F : fx_ (chI b (lm t) (ta t)) (fun p _ => p = b + 3) M M43 := by
        refine fx_tr f12 (fx_tr (fx_up f38 ?_ (fun _ _ h => h)) (fx_up f43 ?_ (fun _ _ h => h.elim)))
        · rintro p j ⟨q1, q2⟩
          exact Or.inr (Or.inr (Or.inl ⟨q1, q2⟩))
        · rintro p j ⟨q1, q2⟩
          exact Or.inr (Or.inl ⟨q1, Or.inl q2⟩)
      have i43 : ∀ p j, (p ≠ b + 6 + lm t ∨ j ≠ 4) → mm_i M43 p j = mm_i M38 p j := fun p j hp => f43.2.2.1 _ _ (by omega)
      refine K M43 ⟨?_, h4, fun l hl => ?_, fun s hs => ?_, ?_, fun t' h1 h2' => ?_⟩ ?_ (fun l hl => ?_) F
      · exact bS_o hS F.2.1 (fun a j h => F.2.2.2.1 a j (by omega)) (fun l hl => F.2.2.1 _ _ (by
          rintro (q | q | q | q)
          · omega
          · omega
          · omega
          · exact n7 l hl q.1.symm))
      · rw [i43 _ _ (by omega), i43 _ _ (by omega), i43 _ _ (by omega), i38 _ _ (by omega), i38 _ _ (by omega), i38 _ _ (by omega)]
        exact cL l hl
      · rw [i43 _ _ (by omega), i38 _ _ (by omega)]
        exact cC s hs
      · exact ro_o hR38 f43.2.1 (f43.2.2.2.1 _ _ (fun q => q)) (i43 _ _ (by omega)) (fun i => f43.2.2.2.1 _ _ (fun q => q))
      · by_cases q : t' = t
        · rw [q, su_t, s2'] at h2'; cases h2'
        · rw [su_n t' q] at h2'
          obtain ⟨g1, g2, g3, g4, g5⟩ := hTs12 t' h1 h2' q
          obtain ⟨m1, m2, m3, m4, m5, m6, m7⟩ := tc_ne hS12 g1
          exact ⟨(f43.2.1 _).trans ((f38.2.1 _).trans g1), by rw [i43 _ _ (Or.inl (m7 _ hl5)), i38 _ _ m3]; exact g2, by rw [i43 _ _ (Or.inl (m7 _ hl5)), i38 _ _ m3]; exact g3, by rw [f43.2.2.2.1 _ _ (fun q => q), f38.2.2.2.1 _ _ m4]; exact g4, g5⟩
      · exact ⟨(f43.2.1 _).trans ((f38.2.1 _).trans k12), by rw [i43 _ _ (Or.inl (n7 _ hl5)), i38 _ _ n3]; exact h012, by rw [i43 _ _ (Or.inl (n7 _ hl5)), i38 _ _ n3, su_t]; exact h712, by rw [f43.2.2.2.1 _ _ (fun q => q)]; exact e38, hl5⟩
      · by_cases q : l = lm t
        · subst q
          rw [h43, e44, e47]
          by_cases z : mm_i M (b + 6 + lm t) 4 = 1 ∧ c7_ (su1 sg t v) lm n (lm t) = 0
          · rw [if_pos ⟨z.1, by rw [z.2]; rfl⟩, if_pos ⟨rfl, s1, s2', z⟩, mi_pis]
          · rw [if_neg (fun y => z ⟨y.1, (nI_eq (by omega) (by omega)).mp (y.2.trans nI_0.symm)⟩), if_neg (fun y => z y.2.2.2)]
            exact e44
        · rw [if_neg (fun y => q y.1), i43 _ _ (by omega), i38 _ _ (by omega)]
          exact eO l hl
  · have s1' : sd_ (sg t) = false := by cases h : sd_ (sg t) <;> simp_all
    rw [if_neg (by rw [← sdm]; exact s1)]
    refine ⟨fun _ => ⟨fun c => absurd rfl c, fun _ => cc_stands k12 ?_⟩, fun c => absurd rfl c⟩
    rw [h712]
    by_cases s2 : sd_ v = true
    · rw [if_pos (by rw [← sdm]; exact s2)]
      refine ⟨fun c => absurd c (by decide), fun _ => ⟨by rw [hS12.2.2.2.1]; exact hS12.2.2.2.2.1, ?_⟩⟩
      rw [hS12.2.2.2.1]
      obtain ⟨l1, l2⟩ := sl_ins ht s1' s2
      have hlen := hr s1' s2
      rw [l1, List.map_append] at hR12
      rw [l1, List.length_append] at hlen
      have num : ∀ x, x < n → sd_ (sg x) = true → mm_k M12 (ta x) = (6, 17) ∧ mm_i M12 (ta x) 0 = nI x := fun x h1 h2' => by
        have hne : x ≠ t := fun q => s1 (by rw [← q]; exact h2')
        have g := hTs12 x h1 h2' hne
        exact ⟨g.1, g.2.1⟩
      refine cc_insert hR12 (by simpa using hlen) k12 (fun y hy => ?_) (fun y hy => ?_) (fun M20 hR20 f20 => ?_)
      · rw [List.mem_map] at hy
        obtain ⟨x, hx, rfl⟩ := hy
        rw [List.mem_filter, List.mem_range'_1] at hx
        obtain ⟨g1, g2⟩ := num x (by omega) hx.2
        exact ⟨g1, by rw [g2, h012]; exact nI_ge (by omega) (by omega)⟩
      · rw [List.mem_map] at hy
        obtain ⟨x, hx, rfl⟩ := hy
        rw [List.mem_filter, List.mem_range'_1] at hx
        obtain ⟨g1, g2⟩ := num x (by omega) hx.2
        exact ⟨g1, by rw [g2, h012]; exact nI_le (by omega) (by omega)⟩
      · have eRow : List.map ta ((List.range' 0 t).filter (fun x => sd_ (sg x))) ++ ta t :: List.map ta ((List.range' (t + 1) (n - t - 1)).filter (fun x => sd_ (sg x))) = (sl_ (su1 sg t v) n).map ta := by rw [l2, List.map_append, List.map_cons]
        rw [eRow] at hR20
        have i20 : ∀ p j, p ≠ b + 2 → mm_i M20 p j = mm_i M12 p j := fun p j hp => f20.2.2.1 _ _ (fun q => hp q.1)
        have F : fx_ (chI b (lm t) (ta t)) (fun p _ => p = b + 3) M M20 := by
          refine fx_tr f12 (fx_up f20 ?_ (fun _ _ h => h))
          rintro p j ⟨q1, q2⟩
          exact Or.inr (Or.inr (Or.inl ⟨q1, q2⟩))
        have hTt : tc_ M20 b (su1 sg t v) lm ta t := ⟨(f20.2.1 _).trans k12, by rw [i20 _ _ n3]; exact h012, by rw [i20 _ _ n3, su_t]; exact h712, by rw [f20.2.2.2.1 _ _ n4]; exact h212, hl5⟩
        refine K M20 ⟨?_, h4, fun l hl => ?_, fun s hs => ?_, hR20, fun t' h1 h2' => ?_⟩ hTt (fun l hl => ?_) F
        · exact bS_o hS F.2.1 (fun a j h => F.2.2.2.1 a j (by omega)) (fun l hl => F.2.2.1 _ _ (by
            rintro (q | q | q | q)
            · omega
            · omega
            · omega
            · exact n7 l hl q.1.symm))
        · rw [i20 _ _ (by omega), i20 _ _ (by omega), i20 _ _ (by omega)]
          exact cL l hl
        · rw [i20 _ _ (by omega)]
          exact cC s hs
        · by_cases q : t' = t
          · rw [q]; exact hTt
          · rw [su_n t' q] at h2'
            obtain ⟨g1, g2, g3, g4, g5⟩ := hTs12 t' h1 h2' q
            obtain ⟨m1, m2, m3, m4, m5, m6, m7⟩ := tc_ne hS12 g1
            exact ⟨(f20.2.1 _).trans g1, by rw [i20 _ _ m3]; exact g2, by rw [i20 _ _ m3]; exact g3, by rw [f20.2.2.2.1 _ _ m4]; exact g4, g5⟩
        · rw [if_neg (fun y => by rw [s1'] at y; exact absurd y.2.1 (by decide)), i20 _ _ (by omega)]
          exact eO l hl
    · have s2' : sd_ v = false := by cases h : sd_ v <;> simp_all
      rw [if_neg (by rw [← sdm]; exact s2)]
      exact ⟨fun _ => unch (s1'.trans s2'.symm), fun c => absurd rfl c⟩
end CBoard
