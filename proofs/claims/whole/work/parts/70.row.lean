/-! THE CLASS: reads after writes; frames; rows of tasks -/
section CRow
variable {M : mm_T}
theorem mi_pi {a j b k : Nat} {x : Int32} : mm_i (mm_pi M a j x) b k = if b = a ∧ k = j then x else mm_i M b k := rfl
theorem mi_pis {a j : Nat} {x : Int32} : mm_i (mm_pi M a j x) a j = x := if_pos ⟨rfl, rfl⟩
theorem mi_pia {a j b k : Nat} {x : Int32} (h : b ≠ a) : mm_i (mm_pi M a j x) b k = mm_i M b k := if_neg (fun q => h q.1)
theorem mi_pij {a j b k : Nat} {x : Int32} (h : k ≠ j) : mm_i (mm_pi M a j x) b k = mm_i M b k := if_neg (fun q => h q.2)
theorem mr_pi {a j b k : Nat} {x : Int32} : mm_r (mm_pi M a j x) b k = mm_r M b k := rfl
theorem mk_pi {a j b : Nat} {x : Int32} : mm_k (mm_pi M a j x) b = mm_k M b := rfl
theorem mi_pr {a j b k x : Nat} : mm_i (mm_pr M a j x) b k = mm_i M b k := rfl
theorem mr_pr {a j b k x : Nat} : mm_r (mm_pr M a j x) b k = if b = a ∧ k = j then x else mm_r M b k := rfl
theorem mr_prs {a j x : Nat} : mm_r (mm_pr M a j x) a j = x := if_pos ⟨rfl, rfl⟩
theorem mr_pra {a j b k x : Nat} (h : b ≠ a) : mm_r (mm_pr M a j x) b k = mm_r M b k := if_neg (fun q => h q.1)
theorem mr_prj {a j b k x : Nat} (h : k ≠ j) : mm_r (mm_pr M a j x) b k = mm_r M b k := if_neg (fun q => h q.2)
theorem mk_pr {a j b x : Nat} : mm_k (mm_pr M a j x) b = mm_k M b := rfl
/-- a cell's references anew -/
def mm_wr (M : mm_T) (a : Nat) (f : Nat → Nat) : mm_T := (M.1, M.2.1, M.2.2.1, M.2.2.2.1, fun b k => if b = a then f k else M.2.2.2.2 b k)
theorem mr_wr {a k : Nat} {f : Nat → Nat} : mm_r (mm_wr M a f) a k = f k := if_pos rfl
theorem mr_wra {a b k : Nat} {f : Nat → Nat} (h : b ≠ a) : mm_r (mm_wr M a f) b k = mm_r M b k := if_neg h
theorem mi_wr {a b k : Nat} {f : Nat → Nat} : mm_i (mm_wr M a f) b k = mm_i M b k := rfl
theorem mk_wr {a b : Nat} {f : Nat → Nat} : mm_k (mm_wr M a f) b = mm_k M b := rfl
def up_ (f : Nat → Nat) (j x : Nat) : Nat → Nat := fun k => if k = j then x else f k
theorem up_s {f : Nat → Nat} {j x : Nat} : up_ f j x j = x := if_pos rfl
theorem up_n {f : Nat → Nat} {j x k : Nat} (h : k ≠ j) : up_ f j x k = f k := if_neg h
theorem wr_pr {a j x : Nat} {f : Nat → Nat} : mm_pr (mm_wr M a f) a j x = mm_wr M a (up_ f j x) := by
  unfold mm_pr mm_wr up_
  simp only [Prod.mk.injEq, true_and]
  funext b k
  by_cases h : b = a
  · subst h
    simp
  · simp [h]
theorem wr_id {a : Nat} : mm_wr M a (mm_r M a) = M := by
  unfold mm_wr mm_r
  obtain ⟨x1, x2, x3, x4, x5⟩ := M
  simp only [Prod.mk.injEq, true_and]
  funext b k
  split
  · next h => rw [h]
  · rfl
/-- only at these places is it otherwise -/
def fx_ (SI SR : Nat → Nat → Prop) (M M' : mm_T) : Prop := mm_n M' = mm_n M ∧ (∀ a, mm_k M' a = mm_k M a) ∧ (∀ a j, ¬ SI a j → mm_i M' a j = mm_i M a j) ∧ (∀ a j, ¬ SR a j → mm_r M' a j = mm_r M a j) ∧ ∀ a j, mm_l M' a j = mm_l M a j
theorem fx_rf {SI SR : Nat → Nat → Prop} : fx_ SI SR M M := ⟨rfl, fun _ => rfl, fun _ _ _ => rfl, fun _ _ _ => rfl, fun _ _ => rfl⟩
theorem fx_tr {SI SR : Nat → Nat → Prop} {M1 M2 : mm_T} (h : fx_ SI SR M M1) (h' : fx_ SI SR M1 M2) : fx_ SI SR M M2 :=
  ⟨h'.1.trans h.1, fun a => (h'.2.1 a).trans (h.2.1 a), fun a j q => (h'.2.2.1 a j q).trans (h.2.2.1 a j q), fun a j q => (h'.2.2.2.1 a j q).trans (h.2.2.2.1 a j q), fun a j => (h'.2.2.2.2 a j).trans (h.2.2.2.2 a j)⟩
theorem fx_up {SI SR SI' SR' : Nat → Nat → Prop} {M1 : mm_T} (h : fx_ SI SR M M1) (h1 : ∀ a j, SI a j → SI' a j) (h2 : ∀ a j, SR a j → SR' a j) : fx_ SI' SR' M M1 :=
  ⟨h.1, h.2.1, fun a j q => h.2.2.1 a j (fun z => q (h1 a j z)), fun a j q => h.2.2.2.1 a j (fun z => q (h2 a j z)), h.2.2.2.2⟩
theorem fx_pi {SI SR : Nat → Nat → Prop} {a j : Nat} {x : Int32} (h : SI a j) : fx_ SI SR M (mm_pi M a j x) :=
  ⟨rfl, fun _ => rfl, fun b k q => if_neg (fun z => q (by rw [z.1, z.2]; exact h)), fun _ _ _ => rfl, fun _ _ => rfl⟩
theorem fx_pr {SI SR : Nat → Nat → Prop} {a j x : Nat} (h : SR a j) : fx_ SI SR M (mm_pr M a j x) :=
  ⟨rfl, fun _ => rfl, fun _ _ _ => rfl, fun b k q => if_neg (fun z => q (by rw [z.1, z.2]; exact h)), fun _ _ => rfl⟩
theorem fx_wr {SI SR : Nat → Nat → Prop} {a : Nat} {f : Nat → Nat} (h : ∀ j, SR a j) : fx_ SI SR M (mm_wr M a f) :=
  ⟨rfl, fun _ => rfl, fun _ _ _ => rfl, fun b k q => if_neg (fun z => q (by rw [z]; exact h k)), fun _ _ => rfl⟩
/-- a Row r with its items r0 of cap places holds xs -/
def ro_ (M : mm_T) (r r0 cap : Nat) (xs : List Nat) : Prop := mm_k M r = (4, 2) ∧ mm_r M r 0 = r0 ∧ ak_ M r0 3 cap ∧ cap ≤ 400 ∧ xs.length ≤ cap ∧ mm_i M r 1 = nI xs.length ∧ (∀ i x, xs[i]? = some x → mm_r M r0 i = x) ∧ r ≠ r0
theorem ro_o {M' : mm_T} {r r0 cap : Nat} {xs : List Nat} (h : ro_ M r r0 cap xs) (hk : ∀ a, mm_k M' a = mm_k M a) (h1 : mm_r M' r 0 = mm_r M r 0) (h2 : mm_i M' r 1 = mm_i M r 1) (h3 : ∀ i, mm_r M' r0 i = mm_r M r0 i) : ro_ M' r r0 cap xs := by
  obtain ⟨a1, a2, ⟨tg, a3⟩, a4, a5, a6, a7, a8⟩ := h
  exact ⟨(hk r).trans a1, h1.trans a2, ⟨tg, by rw [hk]; exact a3⟩, a4, a5, h2.trans a6, fun i x q => (h3 i).trans (a7 i x q), a8⟩
theorem ro_mk {r r0 cap : Nat} {xs ys : List Nat} {f : Nat → Nat} (h : ro_ M r r0 cap xs) (hl : ys.length ≤ cap) (hf : ∀ k x, ys[k]? = some x → f k = x) : ro_ (mm_pi (mm_wr M r0 f) r 1 (nI ys.length)) r r0 cap ys := by
  obtain ⟨a1, a2, a3, a4, a5, a6, a7, a8⟩ := h
  exact ⟨a1, by rw [mr_pi, mr_wra a8]; exact a2, a3, a4, hl, mi_pis, fun i x q => by rw [mr_pi, mr_wr]; exact hf i x q, a8⟩
theorem gl_of {α : Type} {xs : List α} {i : Nat} (h : i < xs.length) : ∃ x, xs[i]? = some x := ⟨xs[i], List.getElem?_eq_getElem h⟩
theorem gl_lt {α : Type} {xs : List α} {i : Nat} {x : α} (h : xs[i]? = some x) : i < xs.length := by
  rcases Nat.lt_or_ge i xs.length with q | q
  · exact q
  · rw [List.getElem?_eq_none q] at h
    cases h
theorem cc_at {r r0 cap : Nat} {xs : List Nat} (h : ro_ M r r0 cap xs) {x1 : Int32} {P : Nat → mm_T → Prop} (K1 : ∀ i x, x1 = nI i → xs[i]? = some x → P x M) (K2 : (¬ ∃ i, i < xs.length ∧ x1 = nI i) → P 0 M) : cs_r mt_X4_at [pv_r r, pv_i x1] M P := by
  obtain ⟨a1, a2, a3, a4, a5, a6, a7, a8⟩ := h
  refine wc_X4_at_0 a1 ⟨fun c => K2 ?_, fun c => ⟨fun c2 => ?_, fun c2 => K2 ?_⟩⟩
  · rintro ⟨i, hi, rfl⟩
    exact nI_pos (by omega) c
  · rw [a2, a6] at *
    obtain ⟨i, hi, rfl⟩ := nI_of c
    have hi2 : i < xs.length := (nI_ltI hi (by omega)).mp c2
    obtain ⟨x, hx⟩ := gl_of hi2
    refine ⟨cap, a3, i, ⟨rfl, by omega⟩, ?_⟩
    rw [a7 i x hx]
    exact K1 i x rfl hx
  · rintro ⟨i, hi, rfl⟩
    rw [a6] at c2
    exact c2 (nI_lt hi (by omega))
theorem cc_append {r r0 cap a1 : Nat} {xs : List Nat} (h : ro_ M r r0 cap xs) (hl : xs.length < cap) (hk : mm_k M a1 = (6, 17)) {P : mm_T → Prop} (K : ∀ M', ro_ M' r r0 cap (xs ++ [a1]) → fx_ (fun a j => a = r ∧ j = 1) (fun a _ => a = r0) M M' → P M') : cs_v mt_X4_append [pv_r r, pv_r a1] M P := by
  obtain ⟨b1, b2, b3, b4, b5, b6, b7, b8⟩ := id h
  refine wc_X4_append_0 b1 ⟨cap, by rw [b2]; exact b3, fun c => absurd c (by rw [b6]; exact nI_ge hl (by omega)), fun _ => ⟨xs.length, ⟨b6, hl⟩, Or.inr hk, fun M6 h6 M9 h9 => ?_⟩⟩
  rw [b2] at h6
  have e6 : mm_i M6 r 1 + 1 = nI (xs ++ [a1]).length := by rw [h6, mi_pr, b6, nI_1, List.length_append]; rfl
  rw [e6] at h9
  have e : M9 = mm_pi (mm_wr M r0 (up_ (mm_r M r0) xs.length a1)) r 1 (nI (xs ++ [a1]).length) := by
    rw [h9, h6, ← wr_pr, wr_id]
  refine K M9 ?_ ?_
  · rw [e]
    refine ro_mk h (by simp; omega) (fun k x hx => ?_)
    by_cases q : k < xs.length
    · rw [List.getElem?_append_left q] at hx
      rw [up_n (by omega)]
      exact b7 k x hx
    · have := gl_lt hx
      simp at this
      have hk' : k = xs.length := by omega
      subst hk'
      simp at hx
      rw [up_s, hx]
  · rw [e]
    exact fx_tr (fx_wr (fun _ => rfl)) (fx_pi ⟨rfl, rfl⟩)
theorem cc_clear {r r0 cap : Nat} {xs : List Nat} (h : ro_ M r r0 cap xs) {P : mm_T → Prop} (K : ∀ M', ro_ M' r r0 cap [] → fx_ (fun a j => a = r ∧ j = 1) (fun _ _ => False) M M' → P M') : cs_v mt_X4_clear [pv_r r] M P := by
  obtain ⟨b1, b2, b3, b4, b5, b6, b7, b8⟩ := h
  refine wc_X4_clear_0 b1 (fun M1 h1 => K M1 ?_ (by rw [h1]; exact fx_pi ⟨rfl, rfl⟩))
  rw [h1]
  exact ⟨b1, b2, b3, b4, Nat.zero_le _, mi_pis, fun i x hx => by simp at hx, b8⟩
theorem cc_drop {r r0 cap a1 : Nat} {xs : List Nat} (h : ro_ M r r0 cap xs) (ha : mm_k M a1 = (6, 17)) (hx : ∀ x, x ∈ xs → mm_k M x = (6, 17)) {P : mm_T → Prop} (K : ∀ M', ro_ M' r r0 cap (xs.filter (fun x => decide (x ≠ a1))) → fx_ (fun a j => a = r ∧ j = 1) (fun a _ => a = r0) M M' → P M') : cs_v mt_X4_drop [pv_r r, pv_r a1] M P := by
  obtain ⟨b1, b2, b3, b4, b5, b6, b7, b8⟩ := id h
  refine wc_X4_drop_0 b1 ?_
  have loop : ∀ (suf pre : List Nat) (f : Nat → Nat), pre ++ suf = xs → (∀ k x, (pre.filter (fun x => decide (x ≠ a1)))[k]? = some x → f k = x) → (∀ k x, suf[k]? = some x → f (pre.length + k) = x) → cw_v mt_X4_drop 4 [some (pv_r r), some (pv_r a1), some (pv_i (nI (pre.filter (fun x => decide (x ≠ a1))).length)), some (pv_i (nI pre.length))] [] (mm_wr M r0 f) P := by
    intro suf
    induction suf with
    | nil =>
      intro pre f hp h1 _
      simp at hp
      subst hp
      refine wc_X4_drop_4 (M := mm_wr M r0 f) b1 ⟨fun _ M1 hM => ?_, fun c => absurd (by rw [mi_wr, b6]; exact Int32.le_refl _) c⟩
      have hle := List.length_filter_le (fun x => decide (x ≠ a1)) pre
      refine K M1 ?_ ?_
      · rw [hM]
        exact ro_mk h (by omega) h1
      · rw [hM]
        exact fx_tr (fx_wr (fun _ => rfl)) (fx_pi ⟨rfl, rfl⟩)
    | cons y suf ih =>
      intro pre f hp h1 h2
      have hlen : xs.length = pre.length + (suf.length + 1) := by rw [← hp]; simp
      have hle := List.length_filter_le (fun x => decide (x ≠ a1)) pre
      have hy : f pre.length = y := h2 0 y rfl
      have hky : mm_k M y = (6, 17) := hx y (by rw [← hp]; simp)
      have e0 : mm_r (mm_wr M r0 f) r 0 = r0 := by rw [mr_wra b8]; exact b2
      refine wc_X4_drop_4 (M := mm_wr M r0 f) b1 ⟨fun c => absurd c (by rw [mi_wr, b6]; exact nI_ge (by omega) (by omega)), fun _ => ⟨cap, by rw [e0]; exact b3, pre.length, ⟨rfl, by omega⟩, ?_⟩⟩
      rw [e0, mr_wr, hy]
      have s1 : ∀ k x, suf[k]? = some x → f ((pre ++ [y]).length + k) = x := fun k x hx => by
        have := h2 (k + 1) x (by simpa using hx)
        rw [← this]
        congr 1
        simp
        omega
      refine ⟨Or.inr ⟨6, by decide, hky⟩, Or.inr ⟨6, by decide, ha⟩, fun c => ?_, fun c => ⟨by omega, (pre.filter (fun x => decide (x ≠ a1))).length, ⟨rfl, by omega⟩, Or.inr hky, fun M13 h13 => ?_⟩⟩
      · have := ih (pre ++ [y]) f (by rw [← hp]; simp) (fun k x hx => h1 k x (by rw [List.filter_append, List.filter_cons, if_neg (by simp [c])] at hx; simpa using hx)) s1
        rw [List.filter_append, List.filter_cons, if_neg (by simp [c])] at this
        simpa using this
      · rw [h13, wr_pr]
        have hfl : (pre ++ [y]).filter (fun x => decide (x ≠ a1)) = pre.filter (fun x => decide (x ≠ a1)) ++ [y] := by rw [List.filter_append, List.filter_cons, if_pos (by simp [c])]; simp
        have := ih (pre ++ [y]) (up_ f (pre.filter (fun x => decide (x ≠ a1))).length y) (by rw [← hp]; simp) (fun k x hx => by
          rw [hfl] at hx
          by_cases q : k < (pre.filter (fun x => decide (x ≠ a1))).length
          · rw [List.getElem?_append_left q] at hx
            rw [up_n (by omega)]
            exact h1 k x hx
          · have hl := gl_lt hx
            simp only [List.length_append, List.length_cons, List.length_nil] at hl
            have hk : k = (pre.filter (fun x => decide (x ≠ a1))).length := by omega
            subst hk
            simp at hx
            rw [up_s, hx]) (fun k x hx => by
          rw [up_n (by rw [List.length_append, List.length_singleton]; omega)]
          exact s1 k x hx)
        rw [hfl] at this
        simpa using this
  have := loop xs [] (mm_r M r0) rfl (fun k x hx => by simp at hx) (fun k x hx => by simpa using b7 k x hx)
  rw [wr_id] at this
  exact this
theorem cc_insert {r r0 cap a1 : Nat} {A Bl : List Nat} (h : ro_ M r r0 cap (A ++ Bl)) (hl : A.length + Bl.length < cap) (ha : mm_k M a1 = (6, 17)) (hB : ∀ y, y ∈ Bl → mm_k M y = (6, 17) ∧ ¬ mm_i M y 0 ≤ mm_i M a1 0) (hA : ∀ y, y ∈ A → mm_k M y = (6, 17) ∧ mm_i M y 0 ≤ mm_i M a1 0) {P : mm_T → Prop} (K : ∀ M', ro_ M' r r0 cap (A ++ a1 :: Bl) → fx_ (fun a j => a = r ∧ j = 1) (fun a _ => a = r0) M M' → P M') : cs_v mt_X4_insertByNumber [pv_r r, pv_r a1] M P := by
  obtain ⟨b1, b2, b3, b4, b5, b6, b7, b8⟩ := id h
  have hlen : (A ++ Bl).length = A.length + Bl.length := List.length_append
  refine wc_X4_insertByNumber_0 b1 ⟨cap, by rw [b2]; exact b3, fun _ => ?_, fun c => absurd (by rw [b6]; exact nI_lt (by omega) (by omega)) c⟩
  have fin : ∀ (g : Nat → Nat) (B2 : List Nat), B2 = Bl → (∀ k x, A[k]? = some x → g k = x) → (∀ k x, B2[k]? = some x → g (A.length + 1 + k) = x) → ∀ M25, M25 = mm_pi (mm_pr (mm_wr M r0 g) r0 A.length a1) r 1 (mm_i (mm_pr (mm_wr M r0 g) r0 A.length a1) r 1 + 1) → P M25 := by
    intro g B2 hB2 h1 h2 M25 h25
    subst hB2
    have e6 : mm_i (mm_pr (mm_wr M r0 g) r0 A.length a1) r 1 + 1 = nI (A ++ a1 :: B2).length := by rw [mi_pr, mi_wr, b6, nI_1]; congr 1; simp; omega
    rw [e6, wr_pr] at h25
    refine K M25 ?_ ?_
    · rw [h25]
      refine ro_mk h (by simp; omega) (fun k x hx => ?_)
      by_cases q : k < A.length
      · rw [List.getElem?_append_left q] at hx
        rw [up_n (by omega)]
        exact h1 k x hx
      · rw [List.getElem?_append_right (by omega)] at hx
        by_cases q2 : k = A.length
        · subst q2
          simp at hx
          rw [up_s, hx]
        · rw [up_n q2]
          have e : k - A.length = (k - A.length - 1) + 1 := by omega
          rw [e, List.getElem?_cons_succ] at hx
          have := h2 _ x hx
          rw [← this]
          congr 1
          omega
    · rw [h25]
      exact fx_tr (fx_wr (fun _ => rfl)) (fx_pi ⟨rfl, rfl⟩)
  have loop : ∀ (Br B2 : List Nat) (f : Nat → Nat), Br.reverse ++ B2 = Bl → (∀ k x, (A ++ Br.reverse)[k]? = some x → f k = x) → (∀ k x, B2[k]? = some x → f (A.length + Br.length + 1 + k) = x) → cw_v mt_X4_insertByNumber 18 [some (pv_r r), some (pv_r a1), some (pv_i (nI (A.length + Br.length)))] [] (mm_wr M r0 f) P := by
    intro Br
    induction Br with
    | nil =>
      intro B2 f hp h1 h2
      have hp : B2 = Bl := by simpa using hp
      have h1 : ∀ k x, A[k]? = some x → f k = x := by simpa using h1
      have h2 : ∀ k x, B2[k]? = some x → f (A.length + 1 + k) = x := by simpa using h2
      have e0 : mm_r (mm_wr M r0 f) r 0 = r0 := by rw [mr_wra b8]; exact b2
      show cw_v mt_X4_insertByNumber 18 [some (pv_r r), some (pv_r a1), some (pv_i (nI A.length))] [] (mm_wr M r0 f) P
      refine wc_X4_insertByNumber_18 (M := mm_wr M r0 f) b1 ⟨fun c => ⟨cap, by rw [e0]; exact b3, A.length, ⟨rfl, by omega⟩, Or.inr ha, fun M6 h6 M9 h9 => ?_⟩, fun c => ?_⟩
      · rw [e0] at h6
        rw [h6] at h9
        exact fin f B2 hp h1 h2 M9 h9
      · have hpos : 0 < A.length := by
          rcases Nat.eq_zero_or_pos A.length with q | q
          · rw [q] at c
            exact absurd (by decide) c
          · exact q
        obtain ⟨z, hz⟩ := gl_of (xs := A) (i := A.length - 1) (by omega)
        have hz' := hA z (List.mem_of_getElem? hz)
        refine ⟨cap, by rw [e0]; exact b3, A.length - 1, ⟨pk_sub (by omega : 1 ≤ A.length), by omega⟩, ?_⟩
        rw [e0, mr_wr, h1 _ z hz]
        refine ⟨hz'.1, ha, fun _ => ⟨A.length, ⟨rfl, by omega⟩, fun M20 h20 M25 h25 => ?_⟩, fun c2 => absurd hz'.2 c2⟩
        rw [h20] at h25
        exact fin f B2 hp h1 h2 M25 h25
    | cons y Br ih =>
      intro B2 f hp h1 h2
      have hy := hB y (by rw [← hp]; simp)
      have hll : A.length + (Br.length + 1) + B2.length = A.length + Bl.length := by
        rw [← hp]
        simp
        omega
      have e0 : mm_r (mm_wr M r0 f) r 0 = r0 := by rw [mr_wra b8]; exact b2
      have efy : f (A.length + Br.length) = y := h1 _ y (by
        rw [List.getElem?_append_right (by omega), List.reverse_cons, List.getElem?_append_right (by simp)]
        simp)
      refine wc_X4_insertByNumber_18 (M := mm_wr M r0 f) b1 ⟨fun c => absurd c (nI_nle (by rw [List.length_cons]; omega) (by rw [List.length_cons]; omega)), fun _ => ⟨cap, by rw [e0]; exact b3, A.length + Br.length, ⟨?_, by omega⟩, ?_⟩⟩
      · show nI (A.length + (Br.length + 1)) - 1 = _
        exact nI_pred _
      · rw [e0, mr_wr, efy]
        refine ⟨hy.1, ha, fun c => absurd c hy.2, fun _ => ⟨by omega, A.length + (Br.length + 1), ⟨rfl, by omega⟩, fun M33 h33 => ?_⟩⟩
        rw [h33, wr_pr]
        show cw_v mt_X4_insertByNumber 18 [some (pv_r r), some (pv_r a1), some (pv_i (nI (A.length + Br.length + 1) + (-1)))] [] _ P
        rw [pk_m1]
        refine ih (y :: B2) _ (by rw [← hp]; simp) (fun k x hx => ?_) (fun k x hx => ?_)
        · have hk := gl_lt hx
          simp at hk
          rw [up_n (by omega)]
          refine h1 k x ?_
          rw [List.reverse_cons, ← List.append_assoc, List.getElem?_append_left (by simp; omega)]
          exact hx
        · cases k with
          | zero =>
            simp at hx
            rw [show A.length + Br.length + 1 + 0 = A.length + (Br.length + 1) by omega, up_s, hx]
          | succ k =>
            rw [up_n (by omega)]
            have := h2 k x (by simpa using hx)
            rw [← this]
            congr 1
            simp
            omega
  have := loop Bl.reverse [] (mm_r M r0) (by simp) (fun k x hx => b7 k x (by simpa using hx)) (fun k x hx => by simp at hx)
  rw [wr_id, List.length_reverse, ← hlen, ← b6] at this
  exact this
end CRow
