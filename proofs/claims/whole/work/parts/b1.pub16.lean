/-! who leaves what stands aside -/
section Pub16
variable {B M M' : mm_T} {I J E : Nat → Nat → Int32} {m n T W P L : Nat} {ta tm : Nat → Nat} {S : Nat → Nat → Bool}
def la_ (m t : Nat) : Nat → Nat → Nat → fI → fI
  | 0, w, _, I => i2_u I (m + 1) 3 (nI w)
  | j + 1, w, r, I => if I (m + 1) (5800 + r) = nI t then la_ m t j w (r + 1) I else la_ m t j (w + 1) (r + 1) (i2_u I (m + 1) (5800 + w) (I (m + 1) (5800 + r)))
def sp_la (I : fI) (m t : Nat) : fI := la_ m t (I (m + 1) 3).toNatClampNeg 0 0 I
theorem la_o {t : Nat} : ∀ (j w r : Nat) {I : fI} {a k : Nat}, (a ≠ m + 1 ∨ (k ≠ 3 ∧ k < 5800)) → la_ m t j w r I a k = I a k
  | 0, w, r, I, a, k, q => by
    unfold la_
    rw [i2_at, if_neg (by omega)]
  | j + 1, w, r, I, a, k, q => by
    unfold la_
    split
    · exact la_o j w (r + 1) q
    · rw [la_o j (w + 1) (r + 1) q, i2_at, if_neg (by omega)]
theorem nt_la (hS : uf_ S m) {t : Nat} : ∀ (j w r : Nat) {I : fI}, la_ m t j w r (pt_ S E I) = pt_ S E (la_ m t j w r I)
  | 0, w, r, I => uf_u hS (by omega) (by omega)
  | j + 1, w, r, I => by
    unfold la_
    rw [uf_at hS (by omega) (by omega)]
    split
    · exact nt_la hS j w (r + 1)
    · rw [uf_u hS (by omega) (by omega), nt_la hS j (w + 1) (r + 1)]
theorem la_l {t : Nat} (ht : t < 400) : ∀ (suf pre : List Nat) {I : fI}, (∀ x, x ∈ suf → x < 400) → (∀ i x, (pre.filter (fun x => decide (x ≠ t)))[i]? = some x → I (m + 1) (5800 + i) = nI x) → (∀ i x, suf[i]? = some x → I (m + 1) (5800 + (pre.length + i)) = nI x) → la_ m t suf.length (pre.filter (fun x => decide (x ≠ t))).length pre.length I (m + 1) 3 = nI ((pre ++ suf).filter (fun x => decide (x ≠ t))).length ∧ ∀ i x, ((pre ++ suf).filter (fun x => decide (x ≠ t)))[i]? = some x → la_ m t suf.length (pre.filter (fun x => decide (x ≠ t))).length pre.length I (m + 1) (5800 + i) = nI x
  | [], pre, I, hx, h1, h2 => by
    rw [List.append_nil]
    show i2_u I (m + 1) 3 _ (m + 1) 3 = _ ∧ ∀ i x, _ → i2_u I (m + 1) 3 _ (m + 1) (5800 + i) = nI x
    exact ⟨i2_us, fun i x q => by rw [i2_uj (by omega)]; exact h1 i x q⟩
  | y :: ys, pre, I, hx, h1, h2 => by
    have hy : y < 400 := hx y List.mem_cons_self
    have e0 : I (m + 1) (5800 + pre.length) = nI y := h2 0 y rfl
    have hle : (pre.filter (fun x => decide (x ≠ t))).length ≤ pre.length := List.length_filter_le _ _
    have ea : pre ++ y :: ys = (pre ++ [y]) ++ ys := by simp
    have el : (pre ++ [y]).length = pre.length + 1 := by simp
    rw [List.length_cons]
    unfold la_
    rw [e0]
    by_cases z : y = t
    · have ef : (pre ++ [y]).filter (fun x => decide (x ≠ t)) = pre.filter (fun x => decide (x ≠ t)) := by rw [List.filter_append]; simp [z]
      rw [if_pos (by rw [z])]
      have ih := la_l ht ys (pre ++ [y]) (I := I) (fun x q => hx x (List.mem_cons_of_mem _ q)) (by rw [ef]; exact h1) (fun i x q => by
        rw [el, show pre.length + 1 + i = pre.length + (i + 1) by omega]
        exact h2 (i + 1) x q)
      rw [ef, el, ← ea] at ih
      exact ih
    · have ef : (pre ++ [y]).filter (fun x => decide (x ≠ t)) = pre.filter (fun x => decide (x ≠ t)) ++ [y] := by rw [List.filter_append]; simp [z]
      have ew : ((pre ++ [y]).filter (fun x => decide (x ≠ t))).length = (pre.filter (fun x => decide (x ≠ t))).length + 1 := by rw [ef]; simp
      rw [if_neg (fun q => z ((nI_eq (by omega) (by omega)).mp q))]
      have ih := la_l ht ys (pre ++ [y]) (I := i2_u I (m + 1) (5800 + (pre.filter (fun x => decide (x ≠ t))).length) (nI y)) (fun x q => hx x (List.mem_cons_of_mem _ q)) (fun i x q => by
        rw [ef] at q
        have hl := gl_lt q
        rw [List.length_append] at hl
        have hl : i < (pre.filter (fun x => decide (x ≠ t))).length + 1 := hl
        by_cases c : i < (pre.filter (fun x => decide (x ≠ t))).length
        · rw [List.getElem?_append_left c] at q
          rw [i2_uj (by omega)]
          exact h1 i x q
        · have c : i = (pre.filter (fun x => decide (x ≠ t))).length := by omega
          rw [c] at q ⊢
          rw [i2_us]
          have : y = x := by simpa using q
          rw [this]) (fun i x q => by
        rw [el, i2_uj (by omega), show pre.length + 1 + i = pre.length + (i + 1) by omega]
        exact h2 (i + 1) x q)
      rw [ew, el, ← ea] at ih
      exact ih
theorem rc_la (RK : rf_ok B m) {t : Nat} {Q : fI → Prop} : ∀ (j w r : Nat) {I : fI}, I (m + 1) 3 = nI (r + j) → r + j ≤ 400 → w ≤ r → Q (la_ m t j w r I) → rw_v mt_X11_leavesAside 4 [some (pv_r m), some (pv_i (nI t)), some (pv_i (nI w)), some (pv_i (nI r)), none] [] B I Q
  | 0, w, r, I, h3, h4, hw, K => by
    refine wq_X11_leavesAside_4 RK ⟨fun _ I1 e => by rw [e]; exact K, fun q => absurd ?_ q⟩
    rw [h3]
    exact Int32.le_refl _
  | j + 1, w, r, I, h3, h4, hw, K => by
    unfold la_ at K
    refine wq_X11_leavesAside_4 RK ⟨fun q => absurd q (by rw [h3]; exact nI_ge (by omega) (by omega)), fun _ => ⟨5800 + r, ⟨nI_add 5800 r, by omega⟩, fun q => ⟨5800 + w, ⟨nI_add 5800 w, by omega⟩, fun I4 e4 => ?_⟩, fun q => ?_⟩⟩
    · rw [if_neg q] at K
      rw [nI_1, nI_1, e4]
      exact rc_la RK j (w + 1) (r + 1) (by rw [i2_uj (by omega), h3]; congr 1; omega) (by omega) (by omega) K
    · rw [if_pos q] at K
      rw [nI_1]
      exact rc_la RK j w (r + 1) (by rw [h3]; congr 1; omega) (by omega) (by omega) K
/-- the list that stands aside, of class and invariant -/
theorem as_l (h : ix_ I m n T W P L) : ∃ as : List Nat, as.length ≤ 400 ∧ I (m + 1) 3 = nI as.length ∧ as.Nodup ∧ (∀ t, t ∈ as ↔ t < n ∧ ra_T I m t 6 = 5) ∧ ∀ i x, as[i]? = some x → I (m + 1) (5800 + i) = nI x := by
  have h4 := ix_4 h
  obtain ⟨as, s1, s2, s3, s4⟩ := h.2.1.2.1
  refine ⟨as, ?_, s1, s2, s3, s4⟩
  have := List.Nodup.length_le_of_subset (l₂ := List.range n) s2 (fun t q => List.mem_range.mpr ((s3 t).mp q).1)
  rw [List.length_range] at this
  omega
theorem la_as {as : List Nat} {t : Nat} (ht : t < 400) (hl : as.length ≤ 400) (hx : ∀ x, x ∈ as → x < 400) (s1 : I (m + 1) 3 = nI as.length) (s4 : ∀ i x, as[i]? = some x → I (m + 1) (5800 + i) = nI x) : sp_la I m t (m + 1) 3 = nI (as.filter (fun x => decide (x ≠ t))).length ∧ ∀ i x, (as.filter (fun x => decide (x ≠ t)))[i]? = some x → sp_la I m t (m + 1) (5800 + i) = nI x := by
  unfold sp_la
  rw [s1, nI_clamp (by omega)]
  have := la_l (m := m) ht as [] (I := I) hx (fun i x q => by simp at q) (fun i x q => by rw [show ([] : List Nat).length + i = i by simp]; exact s4 i x q)
  simpa using this
theorem ce_drop (h : re_ M I m n ta tm) {t : Nat} (ht : t < n) {Q : mm_T → Prop} (K : ∀ M', re_ M' (sp_la I m t) m n ta tm → Q M') : cs_v mt_X4_drop [pv_r 81, pv_r (ta t)] M Q := by
  have h4 := re_4 h
  obtain ⟨as, a1, a2, a3, a4⟩ := h.2.1.2.1
  have hm : ∀ x, x ∈ as → x < n := fun x q => by
    obtain ⟨i, hi, e⟩ := List.getElem_of_mem q
    exact (a3 i x (by rw [List.getElem?_eq_getElem hi, e])).2
  have la := la_as (t := t) (by omega) a2 (fun x q => by have := hm x q; omega) a1 (fun i x q => (a3 i x q).1)
  refine cc_drop a4 (re_ge h ht).2 (fun x q => ?_) (fun M' hR f => K M' (re_A h f (fun a j q => la_o _ _ _ (by omega)) ⟨as.filter (fun x => decide (x ≠ t)), la.1, Nat.le_trans (List.length_filter_le _ _) a2, fun i x q => ⟨la.2 i x q, ?_⟩, ?_⟩))
  · obtain ⟨y, q1, q2⟩ := List.mem_map.mp q
    rw [← q2]
    exact (re_ge h (hm y q1)).2
  · have : x ∈ as.filter (fun x => decide (x ≠ t)) := List.mem_of_getElem? q
    exact hm x (List.mem_filter.mp this).1
  · rw [List.filter_map] at hR
    rw [show as.filter (fun x => decide (x ≠ t)) = as.filter ((fun x => decide (x ≠ ta t)) ∘ ta) from List.filter_congr (fun x q => ?_)]
    · exact hR
    · show decide (x ≠ t) = decide (ta x ≠ ta t)
      by_cases z : x = t
      · rw [z]; simp
      · rw [decide_eq_true z, decide_eq_true (show ta x ≠ ta t from fun y => z (h.1.2.2.1.2.1 x t (hm x q) ht y))]
end Pub16
