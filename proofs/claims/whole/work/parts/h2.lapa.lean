/-! lapse in the class -/
section Lapa
variable {M : mm_T} {I : Nat → Nat → Int32} {m n t T W P L : Nat} {ta tm : Nat → Nat} {v : Int32}
theorem dr_at {α : Type} {xs zs : List α} {i : Nat} {z : α} (h : xs.drop i = z :: zs) : i < xs.length ∧ xs[i]? = some z ∧ xs.drop (i + 1) = zs := by
  have hl : i < xs.length := by
    rcases Nat.lt_or_ge i xs.length with q | q
    · exact q
    · rw [List.drop_eq_nil_of_le q] at h
      cases h
  rw [List.drop_eq_getElem_cons hl] at h
  injection h with h1 h2
  exact ⟨hl, by rw [List.getElem?_eq_getElem hl, h1], h2⟩
theorem dr_end {α : Type} {xs : List α} {i : Nat} (h : xs.drop i = []) : xs.length ≤ i := by
  rcases Nat.lt_or_ge i xs.length with q | q
  · rw [List.drop_eq_getElem_cons q] at h
    cases h
  · exact q
/-- the standing ones, as the class holds them -/
theorem re_sl (h : re_ M I m n ta tm) : mm_r M 5 0 = 6 ∧ mm_k M 6 = (0, 4) ∧ mm_r M 6 1 = 8 ∧ mm_k M 8 = (4, 2) ∧ mm_i M 8 1 = nI (sl_ (sgI I m) n).length ∧ mm_r M 8 0 = 9 ∧ ak_ M 9 3 48 ∧ (sl_ (sgI I m) n).length ≤ 48 ∧ ∀ i t, (sl_ (sgI I m) n)[i]? = some t → mm_r M 9 i = ta t ∧ t < n ∧ sd_ (sgI I m t) = true := by
  have ro := h.1.2.1.1.2.2.2.2.1
  have bS := br_S h.1.2.1
  have e6 := ro.2.2.2.2.2.1
  have hl := ro.2.2.2.2.1
  rw [List.length_map] at e6 hl
  refine ⟨(re_bk h).1, (re_bk h).2, bS.2.2.2.1, ro.1, e6, ro.2.1, ro.2.2.1, hl, fun i t e => ⟨ro.2.2.2.2.2.2.1 i _ (by rw [List.getElem?_map, e]; rfl), ?_⟩⟩
  have : t ∈ sl_ (sgI I m) n := List.mem_of_getElem? e
  unfold sl_ at this
  rw [List.mem_filter, List.mem_range] at this
  exact this
theorem sl_cn (hi : ix_ I m n T W P L) {p : Nat → Bool} (hp : ∀ x, x < n → p x = true → ra_T I m x 6 ≤ 3) : ((sl_ (sgI I m) n).filter p).length = cn_ p n := by
  rw [cn_len]
  unfold sl_
  rw [List.filter_filter]
  congr 1
  refine fl_eq (fun x hx => ?_)
  cases h : p x with
  | false => rfl
  | true => rw [(sd_of (ix_tv hi) hx).mpr (hp x hx h)]; rfl
theorem ce_endsBy (h : re_ M I m n ta tm) (hi : ix_ I m n T W P L) (ht : t < n) {Q : Int32 → mm_T → Prop} (K : Q (if fb_ I m v t then 1 else 0) M) : cs_i mt_X6_endsBy [pv_r (ta t), pv_i v] M Q := by
  have g := re_ge h ht
  have e7 := re_7 h ht
  refine wc_X6_endsBy_0 g.2 ?_
  rw [e7]
  refine ⟨fun c => ?_, fun c => ?_⟩
  · rw [if_neg (fun q : fb_ I m v t => c q.1)] at K
    exact K
  · obtain ⟨w, k, -, -, -, -, -, -, -, h11⟩ := ix_out hi ht c
    rw [(h.1.2.2.1.1 t ht).2.2.1.2.2 h11]
    refine ⟨fun c2 => ?_, fun c2 => ?_⟩
    · rw [if_neg (fun q : fb_ I m v t => q.2 c2)] at K
      exact K
    · rw [if_pos (show fb_ I m v t from ⟨c, c2⟩)] at K
      exact K
theorem ce_dueBy (h : re_ M I m n ta tm) (hi : ix_ I m n T W P L) (ht : t < n) {Q : Int32 → mm_T → Prop} (K : Q (if ra_T I m t 6 = 2 ∧ ¬ v < ra_T I m t 8 then 1 else 0) M) : cs_i mt_X6_dueBy [pv_r (ta t), pv_i v] M Q := by
  have g := re_ge h ht
  have e7 := re_7 h ht
  refine wc_X6_dueBy_0 g.2 ?_
  rw [e7]
  refine ⟨fun c => ?_, fun c => ?_⟩
  · rw [if_neg (fun q => c q.1)] at K
    exact K
  · have h8 : ra_T I m t 8 ≠ -1 := by
      rcases hi.1.2.2.1.2.1 t ht with ⟨-, d, d1, d2⟩ | z
      · rw [d2]; exact nI_nm (by omega)
      · exact absurd c z.1
    rw [(h.1.2.2.1.1 t ht).2.2.1.1 h8]
    refine ⟨fun c2 => ?_, fun c2 => ?_⟩
    · rw [if_neg (fun q => q.2 c2)] at K
      exact K
    · rw [if_pos ⟨c, c2⟩] at K
      exact K
theorem ce_fby (h : re_ M I m n ta tm) (hi : ix_ I m n T W P L) {Q : Int32 → mm_T → Prop} (K : Q (nI (lv0 I m n v)) M) : cs_i mt_X10_failingBy [pv_r 5, pv_i v] M Q := by
  obtain ⟨r1, r2, r3, r4, r5, r6, r7, r8, r9⟩ := re_sl h
  have e0 : ((sl_ (sgI I m) n).filter (fun x => decide (fb_ I m v x))).length = lv0 I m n v := sl_cn hi (fun x _ q => by rw [(of_decide_eq_true q).1]; decide)
  have loop : ∀ (zs : List Nat) (i c : Nat), (sl_ (sgI I m) n).drop i = zs → i ≤ (sl_ (sgI I m) n).length → c + (zs.filter (fun x => decide (fb_ I m v x))).length = lv0 I m n v → cw_i mt_X10_failingBy 4 [some (pv_r 5), some (pv_i v), some (pv_i (nI c)), some (pv_i (nI i))] [] M Q := by
    intro zs
    induction zs with
    | nil =>
      intro i c hz hle hc
      have hl := dr_end hz
      refine wc_X10_failingBy_4 (re_m5 h) ?_
      rw [r1, r3, r5]
      have hc : c = lv0 I m n v := hc
      refine ⟨r2, r4, fun _ => by rw [hc]; exact K, fun q => absurd (nI_le hl (by omega)) q⟩
    | cons z zs ih =>
      intro i c hz hle hc
      obtain ⟨hl, ei, hz'⟩ := dr_at hz
      obtain ⟨g1, g2, g3⟩ := r9 i z ei
      refine wc_X10_failingBy_4 (re_m5 h) ?_
      rw [r1, r3, r5, r6]
      refine ⟨r2, r4, fun q => absurd q (nI_ge hl (by omega)), fun _ => ⟨48, r7, i, ⟨rfl, by omega⟩, ?_⟩⟩
      rw [g1]
      refine ⟨(re_ge h g2).2, ce_endsBy h hi g2 ?_⟩
      by_cases y : fb_ I m v z
      · rw [if_pos y]
        refine ⟨fun q => absurd q (by decide), fun _ => ?_⟩
        rw [nI_1]
        exact ih (i + 1) (c + 1) hz' (by omega) (by rw [List.filter_cons, if_pos (decide_eq_true y), List.length_cons] at hc; omega)
      · rw [if_neg y]
        refine ⟨fun _ => ?_, fun q => absurd rfl q⟩
        exact ih (i + 1) c hz' (by omega) (by rw [List.filter_cons, if_neg (fun q => y (of_decide_eq_true q))] at hc; exact hc)
  exact wc_X10_failingBy_0 (re_m5 h) (loop _ 0 0 rfl (Nat.zero_le _) (by rw [Nat.zero_add]; exact e0))
end Lapa
