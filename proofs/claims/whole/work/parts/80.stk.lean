/-! THE CLASS: strikes -/
section Stk
variable {M M' : mm_T} {I J : Nat → Nat → Int32} {m n : Nat} {ta tm : Nat → Nat}
theorem mi_ws {a k : Nat} {f : Nat → Int32} : mm_i (mm_ws M a f) a k = f k := if_pos rfl
theorem mi_wsa {a b k : Nat} {f : Nat → Int32} (h : b ≠ a) : mm_i (mm_ws M a f) b k = mm_i M b k := if_neg h
theorem mr_ws {a b k : Nat} {f : Nat → Int32} : mm_r (mm_ws M a f) b k = mm_r M b k := rfl
theorem mk_ws {a b : Nat} {f : Nat → Int32} : mm_k (mm_ws M a f) b = mm_k M b := rfl
def upi (f : Nat → Int32) (j : Nat) (x : Int32) : Nat → Int32 := fun k => if k = j then x else f k
theorem upi_s {f : Nat → Int32} {j : Nat} {x : Int32} : upi f j x j = x := if_pos rfl
theorem upi_n {f : Nat → Int32} {j k : Nat} {x : Int32} (h : k ≠ j) : upi f j x k = f k := if_neg h
theorem ws_pi {a j : Nat} {x : Int32} {f : Nat → Int32} : mm_pi (mm_ws M a f) a j x = mm_ws M a (upi f j x) := by
  unfold mm_pi mm_ws upi
  simp only [Prod.mk.injEq, true_and, and_true]
  funext b k
  by_cases h : b = a
  · subst h
    simp
  · simp [h]
theorem ws_cm {a b j : Nat} {x : Int32} {f : Nat → Int32} (h : a ≠ b) : mm_pi (mm_ws M b f) a j x = mm_ws (mm_pi M a j x) b f := by
  unfold mm_pi mm_ws
  simp only [Prod.mk.injEq, true_and, and_true]
  funext c k
  by_cases h1 : c = b
  · subst h1
    simp [Ne.symm h]
  · simp [h1]
theorem ws_id {a : Nat} : mm_ws M a (mm_i M a) = M := by
  unfold mm_ws mm_i
  obtain ⟨x1, x2, x3, x4, x5⟩ := M
  simp only [Prod.mk.injEq, true_and, and_true]
  funext b k
  split
  · next h => rw [h]
  · rfl
/-- the two rows of strikes anew -/
def w2_ (M : mm_T) (f g : Nat → Int32) : mm_T := mm_ws (mm_ws M 94 f) 95 g
theorem w2_94 {f g : Nat → Int32} {j : Nat} : mm_i (w2_ M f g) 94 j = f j := by
  unfold w2_
  rw [mi_wsa (by decide), mi_ws]
theorem w2_95 {f g : Nat → Int32} {j : Nat} : mm_i (w2_ M f g) 95 j = g j := mi_ws
theorem w2_o {f g : Nat → Int32} {a j : Nat} (h : a ≠ 94) (h' : a ≠ 95) : mm_i (w2_ M f g) a j = mm_i M a j := by
  unfold w2_
  rw [mi_wsa h', mi_wsa h]
theorem w2_p94 {f g : Nat → Int32} {j : Nat} {x : Int32} : mm_pi (w2_ M f g) 94 j x = w2_ M (upi f j x) g := by
  unfold w2_
  rw [ws_cm (by decide), ws_pi]
theorem w2_p95 {f g : Nat → Int32} {j : Nat} {x : Int32} : mm_pi (w2_ M f g) 95 j x = w2_ M f (upi g j x) := by
  unfold w2_
  rw [ws_pi]
theorem w2_id : w2_ M (mm_i M 94) (mm_i M 95) = M := by
  unfold w2_
  rw [ws_id, ws_id]
theorem ph_ : ∀ (n : Nat) {f : Nat → Nat} {ks : List Nat}, ks.Nodup → (∀ x, x ∈ ks → ∃ t, t < n ∧ f t = x) → ks.length ≤ n
  | 0, f, ks, _, h => by
    cases ks with
    | nil => exact Nat.le_refl _
    | cons x xs =>
      obtain ⟨t, ht, -⟩ := h x List.mem_cons_self
      omega
  | n + 1, f, ks, hd, h => by
    by_cases hx : f n ∈ ks
    · have ih := ph_ n (f := f) (ks := ks.erase (f n)) (hd.erase _) (fun x q => by
        have q' := (List.Nodup.mem_erase_iff hd).mp q
        obtain ⟨t, ht, e⟩ := h x q'.2
        refine ⟨t, ?_, e⟩
        rcases Nat.lt_or_ge t n with z | z
        · exact z
        · have : t = n := by omega
          rw [this] at e
          exact absurd e.symm q'.1)
      rw [List.length_erase_of_mem hx] at ih
      omega
    · have ih := ph_ n (f := f) (ks := ks) hd (fun x q => by
        obtain ⟨t, ht, e⟩ := h x q
        refine ⟨t, ?_, e⟩
        rcases Nat.lt_or_ge t n with z | z
        · exact z
        · have : t = n := by omega
          rw [this] at e
          rw [e] at hx
          exact absurd q hx)
      omega
theorem pw_split {k : Nat} : ∀ {ks : List Nat}, ks.Pairwise (· < ·) → k ∉ ks → ∃ A Bl, ks = A ++ Bl ∧ (∀ a, a ∈ A → a < k) ∧ ∀ b, b ∈ Bl → k < b
  | [], _, _ => ⟨[], [], rfl, (fun a q => by cases q), (fun a q => by cases q)⟩
  | y :: ys, hp, hk => by
    rw [List.pairwise_cons] at hp
    by_cases h : y < k
    · obtain ⟨A, Bl, e, h1, h2⟩ := pw_split hp.2 (fun q => hk (List.mem_cons_of_mem _ q))
      refine ⟨y :: A, Bl, by rw [e]; rfl, fun a q => ?_, h2⟩
      rcases List.mem_cons.mp q with z | z
      · rw [z]; exact h
      · exact h1 a z
    · have hne : y ≠ k := fun z => hk (by rw [z]; exact List.mem_cons_self)
      refine ⟨[], y :: ys, rfl, (fun a q => by cases q), fun a q => ?_⟩
      rcases List.mem_cons.mp q with z | z
      · omega
      · have := hp.1 a z
        omega
theorem cc_find (hk : mm_k M 93 = (5, 3)) (h0 : mm_r M 93 0 = 94) (ha : ak_ M 94 0 400) {ks : List Nat} (hl : ks.length ≤ 400) (h2 : mm_i M 93 2 = nI ks.length) (hv : ∀ i x, ks[i]? = some x → mm_i M 94 i = nI x ∧ x < 10000) {k : Nat} (hk4 : k < 10000) {P : Int32 → mm_T → Prop} (K1 : ∀ i, ks[i]? = some k → P (nI i) M) (K2 : k ∉ ks → P (-1) M) : cs_i mt_X5_find [pv_r 93, pv_i (nI k)] M P := by
  refine wc_X5_find_0 hk ?_
  have loop : ∀ (suf pre : List Nat), pre ++ suf = ks → k ∉ pre → cw_i mt_X5_find 2 [some (pv_r 93), some (pv_i (nI k)), some (pv_i (nI pre.length))] [] M P := by
    intro suf
    induction suf with
    | nil =>
      intro pre hp hn
      have hp : pre = ks := by simpa using hp
      refine wc_X5_find_2 hk ⟨fun _ => K2 (by rw [← hp]; exact hn), fun c => absurd (by rw [h2, hp]; exact Int32.le_refl _) c⟩
    | cons y suf ih =>
      intro pre hp hn
      have hlen : ks.length = pre.length + (suf.length + 1) := by rw [← hp]; simp
      have hy : ks[pre.length]? = some y := by rw [← hp]; simp
      obtain ⟨v1, v2⟩ := hv _ _ hy
      refine wc_X5_find_2 hk ⟨fun c => absurd c (by rw [h2]; exact nI_ge (by omega) (by omega)), fun _ => ?_⟩
      rw [h0]
      refine ⟨400, ha, pre.length, ⟨rfl, by omega⟩, ?_⟩
      rw [v1]
      refine ⟨fun c => ?_, fun c => ?_⟩
      · have hne : k ≠ y := fun q => c (by rw [q])
        have := ih (pre ++ [y]) (app1 hp) (fun q => by
          rcases List.mem_append.mp q with z | z
          · exact hn z
          · exact hne (by simpa using z))
        rw [← len1] at this
        exact this
      · rw [nI_eq (by omega) (by omega)] at c
        rw [c] at hy
        exact K1 _ hy
  exact loop ks [] rfl (by simp)
theorem re_k (h : re_ M I m n ta tm) : mm_k M 93 = (5, 3) ∧ mm_r M 93 0 = 94 ∧ mm_r M 93 1 = 95 ∧ ak_ M 94 0 400 ∧ ak_ M 95 0 400 := h.1.1.2.2.2.1
theorem ce_count (h : re_ M I m n ta tm) {k : Nat} (hk : k < 10000) {P : Int32 → mm_T → Prop} (K : P (I (m + 3) k) M) : cs_i mt_X5_count [pv_r 93, pv_i (nI k)] M P := by
  obtain ⟨d1, d2, d3, d4, d5⟩ := re_k h
  obtain ⟨ks, a1, a2, a3, a4, a5, a6⟩ := h.2.2.1
  refine wc_X5_count_0 d1 (cc_find d1 d2 d4 a1 a2 (fun i x q => ⟨(a3 i x q).1, (a3 i x q).2.2⟩) hk (fun i q => ⟨fun _ => ?_, fun c => absurd c (nI_nm (by have := gl_lt q; omega))⟩) (fun q => ⟨fun c => absurd rfl c, fun _ => ?_⟩))
  · rw [d3]
    refine ⟨400, d5, i, ⟨rfl, by have := gl_lt q; omega⟩, ?_⟩
    rw [(a3 i k q).2.1]
    exact K
  · rw [a5 k hk q] at K
    exact K
/-- inserting a key -/
theorem cc_insertK (hk : mm_k M 93 = (5, 3)) (h0 : mm_r M 93 0 = 94) (h1 : mm_r M 93 1 = 95) (ha : ak_ M 94 0 400) (hb : ak_ M 95 0 400) {A Bl : List Nat} (hl : A.length + Bl.length < 400) (h2 : mm_i M 93 2 = nI (A.length + Bl.length)) {S : Nat → Int32} (hv : ∀ i x, (A ++ Bl)[i]? = some x → mm_i M 94 i = nI x ∧ mm_i M 95 i = S x ∧ x < 10000) {k : Nat} (hk4 : k < 10000) (hA : ∀ a, a ∈ A → a < k) (hB : ∀ b, b ∈ Bl → k < b) {P : mm_T → Prop} (K : ∀ f g : Nat → Int32, (∀ i x, (A ++ k :: Bl)[i]? = some x → f i = nI x ∧ g i = if x = k then 1 else S x) → P (mm_pi (w2_ M f g) 93 2 (nI (A.length + Bl.length + 1)))) : cs_v mt_X5_insert [pv_r 93, pv_i (nI k)] M P := by
  refine wc_X5_insert_0 hk ?_
  have fin : ∀ (f g : Nat → Int32) (B2 : List Nat), B2 = Bl → (∀ i x, A[i]? = some x → f i = nI x ∧ g i = S x) → (∀ i x, B2[i]? = some x → f (A.length + 1 + i) = nI x ∧ g (A.length + 1 + i) = S x) → ∀ M15, M15 = mm_pi (w2_ M (upi f A.length (nI k)) (upi g A.length 1)) 93 2 (mm_i (w2_ M (upi f A.length (nI k)) (upi g A.length 1)) 93 2 + 1) → P M15 := by
    intro f g B2 hB2 q1 q2 M15 h15
    subst hB2
    rw [w2_o (by decide) (by decide), h2, nI_1] at h15
    rw [h15]
    refine K _ _ (fun i x hx => ?_)
    by_cases e : i < A.length
    · rw [List.getElem?_append_left e] at hx
      have := hA x (List.mem_of_getElem? hx)
      rw [upi_n (by omega), upi_n (by omega), if_neg (by omega)]
      exact q1 i x hx
    · rw [List.getElem?_append_right (by omega)] at hx
      by_cases e2 : i = A.length
      · subst e2
        simp at hx
        rw [upi_s, upi_s, hx, if_pos rfl]
        exact ⟨rfl, rfl⟩
      · have e3 : i - A.length = (i - A.length - 1) + 1 := by omega
        rw [e3, List.getElem?_cons_succ] at hx
        have := hB x (List.mem_of_getElem? hx)
        rw [upi_n e2, upi_n e2, if_neg (by omega)]
        have := q2 _ x hx
        rw [show A.length + 1 + (i - A.length - 1) = i by omega] at this
        exact this
  have loop : ∀ (Br B2 : List Nat) (f g : Nat → Int32), Br.reverse ++ B2 = Bl → (∀ i x, (A ++ Br.reverse)[i]? = some x → f i = nI x ∧ g i = S x) → (∀ i x, B2[i]? = some x → f (A.length + Br.length + 1 + i) = nI x ∧ g (A.length + Br.length + 1 + i) = S x) → cw_v mt_X5_insert 5 [some (pv_r 93), some (pv_i (nI k)), some (pv_i (nI (A.length + Br.length)))] [] (w2_ M f g) P := by
    intro Br
    induction Br with
    | nil =>
      intro B2 f g hp q1 q2
      have hp : B2 = Bl := by simpa using hp
      have q1 : ∀ i x, A[i]? = some x → f i = nI x ∧ g i = S x := by simpa using q1
      have q2 : ∀ i x, B2[i]? = some x → f (A.length + 1 + i) = nI x ∧ g (A.length + 1 + i) = S x := by simpa using q2
      show cw_v mt_X5_insert 5 [some (pv_r 93), some (pv_i (nI k)), some (pv_i (nI A.length))] [] (w2_ M f g) P
      have e0 : mm_r (w2_ M f g) 93 0 = 94 := h0
      refine wc_X5_insert_5 (M := w2_ M f g) hk ⟨fun c => ?_, fun c => ?_⟩
      · rw [e0]
        refine ⟨400, ha, A.length, ⟨rfl, by omega⟩, fun M5 h5 => ?_⟩
        rw [w2_p94] at h5
        rw [h5, show mm_r (w2_ M (upi f A.length (nI k)) g) 93 1 = 95 from h1]
        refine ⟨400, hb, by omega, fun M11 h11 M15 h15 => ?_⟩
        rw [w2_p95] at h11
        rw [h11] at h15
        exact fin f g B2 hp q1 q2 M15 h15
      · have hpos : 0 < A.length := by
          rcases Nat.eq_zero_or_pos A.length with z | z
          · rw [z] at c
            exact absurd (by decide) c
          · exact z
        obtain ⟨z, hz⟩ := gl_of (xs := A) (i := A.length - 1) (by omega)
        have hz' := hA z (List.mem_of_getElem? hz)
        rw [e0]
        refine ⟨400, ha, A.length - 1, ⟨pk_sub (by omega : 1 ≤ A.length), by omega⟩, ?_⟩
        rw [w2_94, (q1 _ z hz).1]
        refine ⟨fun _ => ⟨A.length, ⟨rfl, by omega⟩, fun M25 h25 => ?_⟩, fun c2 => absurd (nI_le (by omega) (by omega)) c2⟩
        rw [w2_p94] at h25
        rw [h25, show mm_r (w2_ M (upi f A.length (nI k)) g) 93 1 = 95 from h1]
        refine ⟨400, hb, by omega, fun M31 h31 M35 h35 => ?_⟩
        rw [w2_p95] at h31
        rw [h31] at h35
        exact fin f g B2 hp q1 q2 M35 h35
    | cons y Br ih =>
      intro B2 f g hp q1 q2
      have hy := hB y (by rw [← hp]; simp)
      have hll : A.length + (Br.length + 1) + B2.length = A.length + Bl.length := by
        rw [← hp]
        simp
        omega
      have e0 : mm_r (w2_ M f g) 93 0 = 94 := h0
      have efy : f (A.length + Br.length) = nI y ∧ g (A.length + Br.length) = S y := q1 _ y (by
        rw [List.getElem?_append_right (by omega), List.reverse_cons, List.getElem?_append_right (by simp)]
        simp)
      have hy4 : y < 10000 := by
        obtain ⟨i, hi⟩ := List.mem_iff_getElem?.mp (show y ∈ A ++ Bl by rw [← hp]; simp)
        exact (hv i y hi).2.2
      refine wc_X5_insert_5 (M := w2_ M f g) hk ⟨fun c => absurd c (nI_nle (by rw [List.length_cons]; omega) (by rw [List.length_cons]; omega)), fun _ => ?_⟩
      rw [e0]
      refine ⟨400, ha, A.length + Br.length, ⟨nI_pred _, by omega⟩, ?_⟩
      rw [w2_94, efy.1]
      refine ⟨fun c => absurd c (nI_ge hy (by omega)), fun _ => ⟨by omega, A.length + (Br.length + 1), ⟨rfl, by omega⟩, fun M42 h42 => ?_⟩⟩
      rw [w2_p94] at h42
      rw [h42, show mm_r (w2_ M (upi f (A.length + (Br.length + 1)) (nI y)) g) 93 1 = 95 from h1]
      refine ⟨400, hb, by omega, by omega, fun M49 h49 => ?_⟩
      rw [w2_p95, w2_95, efy.2] at h49
      rw [h49]
      show cw_v mt_X5_insert 5 [some (pv_r 93), some (pv_i (nI k)), some (pv_i (nI (A.length + Br.length + 1) + (-1)))] [] _ P
      rw [pk_m1]
      refine ih (y :: B2) _ _ (by rw [← hp]; simp) (fun i x hx => ?_) (fun i x hx => ?_)
      · have hi := gl_lt hx
        simp at hi
        rw [upi_n (by omega), upi_n (by omega)]
        refine q1 i x ?_
        rw [List.reverse_cons, ← List.append_assoc, List.getElem?_append_left (by simp; omega)]
        exact hx
      · cases i with
        | zero =>
          simp at hx
          rw [show A.length + Br.length + 1 + 0 = A.length + (Br.length + 1) by omega, upi_s, upi_s, hx]
          exact ⟨rfl, rfl⟩
        | succ i =>
          rw [upi_n (by omega), upi_n (by omega)]
          have := q2 i x (by simpa using hx)
          rw [show A.length + (y :: Br).length + 1 + i = A.length + Br.length + 1 + (i + 1) by simp; omega] at this
          exact this
  have := loop Bl.reverse [] (mm_i M 94) (mm_i M 95) (by simp) (fun i x hx => by
    have := hv i x (by simpa using hx)
    exact ⟨this.1, this.2.1⟩) (fun i x hx => by simp at hx)
  rw [w2_id, List.length_reverse, ← h2] at this
  exact this
theorem ce_add (h : re_ M I m n ta tm) {k t : Nat} (hk : k < 10000) (ht : t < n) (h3 : ra_T I m t 3 = nI k) {P : mm_T → Prop} (K : ∀ M', re_ M' (i2_u I (m + 3) k (I (m + 3) k + 1)) m n ta tm → P M') : cs_v mt_X5_add [pv_r 93, pv_i (nI k)] M P := by
  obtain ⟨d1, d2, d3, d4, d5⟩ := re_k h
  obtain ⟨ks, a1, a2, a3, a4, a5, a6⟩ := h.2.2.1
  have h4 := re_4 h
  refine wc_X5_add_0 d1 (cc_find d1 d2 d4 a1 a2 (fun i x q => ⟨(a3 i x q).1, (a3 i x q).2.2⟩) hk (fun i q => ⟨fun c => absurd c (nI_nm (by have := gl_lt q; omega)), fun _ => ?_⟩) (fun q => ⟨fun _ => ?_, fun c => absurd rfl c⟩))
  · have hi := gl_lt q
    rw [d3]
    refine ⟨400, d5, i, ⟨rfl, by omega⟩, by omega, fun M14 h14 => K M14 ?_⟩
    rw [(a3 i k q).2.1] at h14
    refine re_K h (by rw [h14]; exact fx_pi (Or.inr (Or.inr rfl))) (fun a j z => i2_ua (by omega)) ⟨ks, a1, ?_, fun i' x q' => ?_, a4, fun x q1 q2 => ?_, fun x q' => ?_⟩
    · rw [h14, mi_pia (by decide)]; exact a2
    · obtain ⟨b1, b2, b3⟩ := a3 i' x q'
      refine ⟨by rw [h14, mi_pia (by decide)]; exact b1, ?_, b3⟩
      rw [h14, mi_pi, i2_at]
      by_cases z : x = k
      · have hl' := gl_lt q'
        have : i' = i := by
          have hd : ks.Nodup := a4.imp (fun hh => by omega)
          rw [z, ← q] at q'
          exact (List.getElem?_inj hl' hd).mp q'
        rw [if_pos ⟨rfl, this⟩, if_pos ⟨rfl, z⟩]
      · have : i' ≠ i := fun y => by
          rw [y, q] at q'
          exact z (by injection q' with q'; exact q'.symm)
        rw [if_neg (fun y => this y.2), if_neg (fun y => z y.2)]
        exact b2
    · have hne : x ≠ k := fun z => q2 (by rw [z]; exact List.mem_of_getElem? q)
      rw [i2_uj hne]
      exact a5 x q1 q2
    · obtain ⟨t', z1, z2⟩ := a6 x q'
      exact ⟨t', z1, by unfold ra_T; rw [i2_ua (by omega)]; exact z2⟩
  · obtain ⟨A, Bl, e, e1, e2⟩ := pw_split a4 q
    subst e
    have hlen : (A ++ Bl).length = A.length + Bl.length := List.length_append
    have hpw : (A ++ k :: Bl).Pairwise (· < ·) := by
      rw [List.pairwise_append] at a4 ⊢
      refine ⟨a4.1, List.pairwise_cons.mpr ⟨e2, a4.2.1⟩, fun a ha b hb => ?_⟩
      rcases List.mem_cons.mp hb with z | z
      · rw [z]; exact e1 a ha
      · exact a4.2.2 a ha b z
    have hmem : ∀ x, x ∈ A ++ k :: Bl → ∃ t, t < n ∧ ra_T I m t 3 = nI x := fun x hx => by
      rcases List.mem_append.mp hx with z | z
      · exact a6 x (List.mem_append_left _ z)
      · rcases List.mem_cons.mp z with z | z
        · rw [z]; exact ⟨t, ht, h3⟩
        · exact a6 x (List.mem_append_right _ z)
    have hv4 : ∀ x, x ∈ A ++ k :: Bl → x < 10000 := fun x hx => by
      have old : ∀ x, x ∈ A ++ Bl → x < 10000 := fun x hx => by
        obtain ⟨i, hi⟩ := List.mem_iff_getElem?.mp hx
        exact (a3 i x hi).2.2
      rcases List.mem_append.mp hx with z | z
      · exact old x (List.mem_append_left _ z)
      · rcases List.mem_cons.mp z with z | z
        · rw [z]; exact hk
        · exact old x (List.mem_append_right _ z)
    have hcap : A.length + Bl.length + 1 ≤ n := by
      have hd : (A ++ k :: Bl).Nodup := hpw.imp (fun hh => by omega)
      have := ph_ n (f := fun t => (ra_T I m t 3).toNatClampNeg) hd (fun x hx => by
        obtain ⟨t', z1, z2⟩ := hmem x hx
        have := hv4 x hx
        exact ⟨t', z1, by rw [z2]; exact nI_clamp (by omega)⟩)
      rw [List.length_append, List.length_cons] at this
      omega
    rw [d2, a2, hlen]
    refine ⟨400, d4, fun c => absurd c (nI_ge (by omega) (by omega)), fun _ => cc_insertK d1 d2 d3 d4 d5 (by omega) (by rw [a2, hlen]) (S := fun x => I (m + 3) x) (fun i x q => a3 i x q) hk e1 e2 (fun f g hfg => K _ ?_)⟩
    have hk0 : I (m + 3) k = 0 := a5 k hk q
    have fw : fx_ (fun a j => (a = 93 ∧ j = 2) ∨ a = 94 ∨ a = 95) (fun a j => False) M (w2_ M f g) := ⟨rfl, fun _ => rfl, fun a j z => w2_o (by omega) (by omega), fun _ _ _ => rfl, fun _ _ => rfl⟩
    refine re_K h (fx_tr fw (fx_pi (Or.inl ⟨rfl, rfl⟩))) (fun a j z => i2_ua (by omega)) ⟨A ++ k :: Bl, ?_, ?_, fun i x q' => ?_, hpw, fun x q1 q2 => ?_, fun x q' => ?_⟩
    · rw [List.length_append, List.length_cons]; omega
    · rw [mi_pis, List.length_append, List.length_cons]
      congr 1
    · obtain ⟨b1, b2⟩ := hfg i x q'
      refine ⟨by rw [mi_pia (by decide), w2_94]; exact b1, ?_, hv4 x (List.mem_of_getElem? q')⟩
      rw [mi_pia (by decide), w2_95, b2, i2_at]
      by_cases z : x = k
      · rw [if_pos z, if_pos ⟨rfl, z⟩, hk0]
        rfl
      · rw [if_neg z, if_neg (fun y => z y.2)]
    · have hne : x ≠ k := fun z => q2 (by rw [z]; simp)
      rw [i2_uj hne]
      exact a5 x q1 (fun z => q2 (by
        rcases List.mem_append.mp z with y | y
        · exact List.mem_append_left _ y
        · exact List.mem_append_right _ (List.mem_cons_of_mem _ y)))
    · obtain ⟨t', z1, z2⟩ := hmem x q'
      exact ⟨t', z1, by unfold ra_T; rw [i2_ua (by omega)]; exact z2⟩
theorem ce_forget (h : re_ M I m n ta tm) {k : Nat} (hk : k < 10000) {P : mm_T → Prop} (K : ∀ M', re_ M' (i2_u I (m + 3) k 0) m n ta tm → P M') : cs_v mt_X5_forget [pv_r 93, pv_i (nI k)] M P := by
  obtain ⟨d1, d2, d3, d4, d5⟩ := re_k h
  obtain ⟨ks, a1, a2, a3, a4, a5, a6⟩ := h.2.2.1
  refine wc_X5_forget_0 d1 (cc_find d1 d2 d4 a1 a2 (fun i x q => ⟨(a3 i x q).1, (a3 i x q).2.2⟩) hk (fun i q => ⟨fun c => absurd c (nI_nm (by have := gl_lt q; omega)), fun _ => ?_⟩) (fun q => ⟨fun _ => K M ?_, fun c => absurd rfl c⟩))
  · have hi := gl_lt q
    rw [d3]
    refine ⟨400, d5, i, ⟨rfl, by omega⟩, fun M14 h14 => K M14 ?_⟩
    refine re_K h (by rw [h14]; exact fx_pi (Or.inr (Or.inr rfl))) (fun a j z => i2_ua (by omega)) ⟨ks, a1, ?_, fun i' x q' => ?_, a4, fun x q1 q2 => ?_, fun x q' => ?_⟩
    · rw [h14, mi_pia (by decide)]; exact a2
    · obtain ⟨b1, b2, b3⟩ := a3 i' x q'
      refine ⟨by rw [h14, mi_pia (by decide)]; exact b1, ?_, b3⟩
      rw [h14, mi_pi, i2_at]
      by_cases z : x = k
      · have hl' := gl_lt q'
        have : i' = i := by
          have hd : ks.Nodup := a4.imp (fun hh => by omega)
          rw [z, ← q] at q'
          exact (List.getElem?_inj hl' hd).mp q'
        rw [if_pos ⟨rfl, this⟩, if_pos ⟨rfl, z⟩]
      · have : i' ≠ i := fun y => by
          rw [y, q] at q'
          exact z (by injection q' with q'; exact q'.symm)
        rw [if_neg (fun y => this y.2), if_neg (fun y => z y.2)]
        exact b2
    · have hne : x ≠ k := fun z => q2 (by rw [z]; exact List.mem_of_getElem? q)
      rw [i2_uj hne]
      exact a5 x q1 q2
    · obtain ⟨t', z1, z2⟩ := a6 x q'
      exact ⟨t', z1, by unfold ra_T; rw [i2_ua (by omega)]; exact z2⟩
  · have e : i2_u I (m + 3) k 0 = I := by
      have := i2_same (I := I) (a := m + 3) (j := k)
      rw [a5 k hk q] at this
      exact this
    rw [e]
    exact h
end Stk
